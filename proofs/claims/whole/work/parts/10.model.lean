theorem sw_out5 {x : Int32} (h0 : ¬ x = 0) (h1 : ¬ x = 1) (h2 : ¬ x = 2) (h3 : ¬ x = 3) (h4 : ¬ x = 4) (h5 : ¬ x = 5) : x.toInt < 0 ∨ 5 < x.toInt := by
  rcases Int.lt_or_le x.toInt 0 with h | h
  · exact Or.inl h
  · rcases Int.lt_or_le 5 x.toInt with g | g
    · exact Or.inr g
    · exfalso
      rcases (show x.toInt = 0 ∨ x.toInt = 1 ∨ x.toInt = 2 ∨ x.toInt = 3 ∨ x.toInt = 4 ∨ x.toInt = 5 by omega) with e | e | e | e | e | e
      · exact h0 (Int32.toInt_inj.mp (by rw [e]; rfl))
      · exact h1 (Int32.toInt_inj.mp (by rw [e]; rfl))
      · exact h2 (Int32.toInt_inj.mp (by rw [e]; rfl))
      · exact h3 (Int32.toInt_inj.mp (by rw [e]; rfl))
      · exact h4 (Int32.toInt_inj.mp (by rw [e]; rfl))
      · exact h5 (Int32.toInt_inj.mp (by rw [e]; rfl))
theorem d_MD_seek_0 : decode b_MD_seek 0 = .ok (.aload_n 0, 1) := by decide +kernel
theorem d_MD_seek_1 : decode b_MD_seek 1 = .ok (.iconst 0, 1) := by decide +kernel
theorem d_MD_seek_2 : decode b_MD_seek 2 = .ok (.putfield 7, 3) := by decide +kernel
theorem d_MD_seek_5 : decode b_MD_seek 5 = .ok (.aload_n 0, 1) := by decide +kernel
theorem d_MD_seek_6 : decode b_MD_seek 6 = .ok (.iconst 1, 1) := by decide +kernel
theorem d_MD_seek_7 : decode b_MD_seek 7 = .ok (.aload_n 0, 1) := by decide +kernel
theorem d_MD_seek_8 : decode b_MD_seek 8 = .ok (.getfield 26, 3) := by decide +kernel
theorem d_MD_seek_11 : decode b_MD_seek 11 = .ok (.iconst 1, 1) := by decide +kernel
theorem d_MD_seek_12 : decode b_MD_seek 12 = .ok (.if_icmp .lt 13, 3) := by decide +kernel
theorem d_MD_seek_15 : decode b_MD_seek 15 = .ok (.aload_n 0, 1) := by decide +kernel
theorem d_MD_seek_16 : decode b_MD_seek 16 = .ok (.getfield 26, 3) := by decide +kernel
theorem d_MD_seek_19 : decode b_MD_seek 19 = .ok (.sipush 200, 3) := by decide +kernel
theorem d_MD_seek_22 : decode b_MD_seek 22 = .ok (.if_icmp .le 7, 3) := by decide +kernel
theorem d_MD_seek_25 : decode b_MD_seek 25 = .ok (.iconst 1, 1) := by decide +kernel
theorem d_MD_seek_26 : decode b_MD_seek 26 = .ok (.goto 4, 3) := by decide +kernel
theorem d_MD_seek_29 : decode b_MD_seek 29 = .ok (.iconst 0, 1) := by decide +kernel
theorem d_MD_seek_30 : decode b_MD_seek 30 = .ok (.invokevirtual 79, 3) := by decide +kernel
theorem d_MD_seek_33 : decode b_MD_seek 33 = .ok (.ifCond .eq 5, 3) := by decide +kernel
theorem d_MD_seek_36 : decode b_MD_seek 36 = .ok (.iconst 0, 1) := by decide +kernel
theorem d_MD_seek_37 : decode b_MD_seek 37 = .ok (.ireturn, 1) := by decide +kernel
theorem d_MD_seek_38 : decode b_MD_seek 38 = .ok (.iconst 0, 1) := by decide +kernel
theorem d_MD_seek_39 : decode b_MD_seek 39 = .ok (.istore_n 1, 1) := by decide +kernel
theorem d_MD_seek_40 : decode b_MD_seek 40 = .ok (.iload_n 1, 1) := by decide +kernel
theorem d_MD_seek_41 : decode b_MD_seek 41 = .ok (.aload_n 0, 1) := by decide +kernel
theorem d_MD_seek_42 : decode b_MD_seek 42 = .ok (.getfield 26, 3) := by decide +kernel
theorem d_MD_seek_45 : decode b_MD_seek 45 = .ok (.if_icmp .ge 21, 3) := by decide +kernel
theorem d_MD_seek_48 : decode b_MD_seek 48 = .ok (.aload_n 0, 1) := by decide +kernel
theorem d_MD_seek_49 : decode b_MD_seek 49 = .ok (.getfield 23, 3) := by decide +kernel
theorem d_MD_seek_52 : decode b_MD_seek 52 = .ok (.iload_n 1, 1) := by decide +kernel
theorem d_MD_seek_53 : decode b_MD_seek 53 = .ok (.aload_n 0, 1) := by decide +kernel
theorem d_MD_seek_54 : decode b_MD_seek 54 = .ok (.getfield 13, 3) := by decide +kernel
theorem d_MD_seek_57 : decode b_MD_seek 57 = .ok (.iload_n 1, 1) := by decide +kernel
theorem d_MD_seek_58 : decode b_MD_seek 58 = .ok (.baload, 1) := by decide +kernel
theorem d_MD_seek_59 : decode b_MD_seek 59 = .ok (.bastore, 1) := by decide +kernel
theorem d_MD_seek_60 : decode b_MD_seek 60 = .ok (.iinc 1 1, 3) := by decide +kernel
theorem d_MD_seek_63 : decode b_MD_seek 63 = .ok (.goto (-23), 3) := by decide +kernel
theorem d_MD_seek_66 : decode b_MD_seek 66 = .ok (.aload_n 0, 1) := by decide +kernel
theorem d_MD_seek_67 : decode b_MD_seek 67 = .ok (.aload_n 0, 1) := by decide +kernel
theorem d_MD_seek_68 : decode b_MD_seek 68 = .ok (.getfield 26, 3) := by decide +kernel
theorem d_MD_seek_71 : decode b_MD_seek 71 = .ok (.putfield 32, 3) := by decide +kernel
theorem d_MD_seek_74 : decode b_MD_seek 74 = .ok (.aload_n 0, 1) := by decide +kernel
theorem d_MD_seek_75 : decode b_MD_seek 75 = .ok (.iconst 0, 1) := by decide +kernel
theorem d_MD_seek_76 : decode b_MD_seek 76 = .ok (.putfield 26, 3) := by decide +kernel
theorem d_MD_seek_79 : decode b_MD_seek 79 = .ok (.iconst 0, 1) := by decide +kernel
theorem d_MD_seek_80 : decode b_MD_seek 80 = .ok (.istore_n 1, 1) := by decide +kernel
theorem d_MD_seek_81 : decode b_MD_seek 81 = .ok (.iconst 0, 1) := by decide +kernel
theorem d_MD_seek_82 : decode b_MD_seek 82 = .ok (.istore_n 2, 1) := by decide +kernel
theorem d_MD_seek_83 : decode b_MD_seek 83 = .ok (.iload_n 2, 1) := by decide +kernel
theorem d_MD_seek_84 : decode b_MD_seek 84 = .ok (.aload_n 0, 1) := by decide +kernel
theorem d_MD_seek_85 : decode b_MD_seek 85 = .ok (.getfield 41, 3) := by decide +kernel
theorem d_MD_seek_88 : decode b_MD_seek 88 = .ok (.if_icmp .ge 20, 3) := by decide +kernel
theorem d_MD_seek_91 : decode b_MD_seek 91 = .ok (.aload_n 0, 1) := by decide +kernel
theorem d_MD_seek_92 : decode b_MD_seek 92 = .ok (.iload_n 2, 1) := by decide +kernel
theorem d_MD_seek_93 : decode b_MD_seek 93 = .ok (.invokevirtual 104, 3) := by decide +kernel
theorem d_MD_seek_96 : decode b_MD_seek 96 = .ok (.ifCond .eq 6, 3) := by decide +kernel
theorem d_MD_seek_99 : decode b_MD_seek 99 = .ok (.iinc 1 1, 3) := by decide +kernel
theorem d_MD_seek_102 : decode b_MD_seek 102 = .ok (.iinc 2 1, 3) := by decide +kernel
theorem d_MD_seek_105 : decode b_MD_seek 105 = .ok (.goto (-22), 3) := by decide +kernel
theorem d_MD_seek_108 : decode b_MD_seek 108 = .ok (.iload_n 1, 1) := by decide +kernel
theorem d_MD_seek_109 : decode b_MD_seek 109 = .ok (.ireturn, 1) := by decide +kernel
theorem d_MD_found_0 : decode b_MD_found 0 = .ok (.aload_n 0, 1) := by decide +kernel
theorem d_MD_found_1 : decode b_MD_found 1 = .ok (.iconst 0, 1) := by decide +kernel
theorem d_MD_found_2 : decode b_MD_found 2 = .ok (.putfield 7, 3) := by decide +kernel
theorem d_MD_found_5 : decode b_MD_found 5 = .ok (.iconst 0, 1) := by decide +kernel
theorem d_MD_found_6 : decode b_MD_found 6 = .ok (.istore_n 2, 1) := by decide +kernel
theorem d_MD_found_7 : decode b_MD_found 7 = .ok (.iconst 0, 1) := by decide +kernel
theorem d_MD_found_8 : decode b_MD_found 8 = .ok (.istore_n 3, 1) := by decide +kernel
theorem d_MD_found_9 : decode b_MD_found 9 = .ok (.iload_n 3, 1) := by decide +kernel
theorem d_MD_found_10 : decode b_MD_found 10 = .ok (.aload_n 0, 1) := by decide +kernel
theorem d_MD_found_11 : decode b_MD_found 11 = .ok (.getfield 41, 3) := by decide +kernel
theorem d_MD_found_14 : decode b_MD_found 14 = .ok (.if_icmp .ge 41, 3) := by decide +kernel
theorem d_MD_found_17 : decode b_MD_found 17 = .ok (.aload_n 0, 1) := by decide +kernel
theorem d_MD_found_18 : decode b_MD_found 18 = .ok (.getfield 32, 3) := by decide +kernel
theorem d_MD_found_21 : decode b_MD_found 21 = .ok (.ifCond .le 34, 3) := by decide +kernel
theorem d_MD_found_24 : decode b_MD_found 24 = .ok (.aload_n 0, 1) := by decide +kernel
theorem d_MD_found_25 : decode b_MD_found 25 = .ok (.iload_n 3, 1) := by decide +kernel
theorem d_MD_found_26 : decode b_MD_found 26 = .ok (.invokevirtual 104, 3) := by decide +kernel
theorem d_MD_found_29 : decode b_MD_found 29 = .ok (.ifCond .ne 6, 3) := by decide +kernel
theorem d_MD_found_32 : decode b_MD_found 32 = .ok (.goto 17, 3) := by decide +kernel
theorem d_MD_found_35 : decode b_MD_found 35 = .ok (.iload_n 2, 1) := by decide +kernel
theorem d_MD_found_36 : decode b_MD_found 36 = .ok (.iload_n 1, 1) := by decide +kernel
theorem d_MD_found_37 : decode b_MD_found 37 = .ok (.if_icmp .ne 9, 3) := by decide +kernel
theorem d_MD_found_40 : decode b_MD_found 40 = .ok (.aload_n 0, 1) := by decide +kernel
theorem d_MD_found_41 : decode b_MD_found 41 = .ok (.iload_n 3, 1) := by decide +kernel
theorem d_MD_found_42 : decode b_MD_found 42 = .ok (.invokevirtual 108, 3) := by decide +kernel
theorem d_MD_found_45 : decode b_MD_found 45 = .ok (.ireturn, 1) := by decide +kernel
theorem d_MD_found_46 : decode b_MD_found 46 = .ok (.iinc 2 1, 3) := by decide +kernel
theorem d_MD_found_49 : decode b_MD_found 49 = .ok (.iinc 3 1, 3) := by decide +kernel
theorem d_MD_found_52 : decode b_MD_found 52 = .ok (.goto (-43), 3) := by decide +kernel
theorem d_MD_found_55 : decode b_MD_found 55 = .ok (.aload_n 0, 1) := by decide +kernel
theorem d_MD_found_56 : decode b_MD_found 56 = .ok (.iconst 1, 1) := by decide +kernel
theorem d_MD_found_57 : decode b_MD_found 57 = .ok (.iconst 1, 1) := by decide +kernel
theorem d_MD_found_58 : decode b_MD_found 58 = .ok (.invokevirtual 79, 3) := by decide +kernel
theorem d_MD_found_61 : decode b_MD_found 61 = .ok (.pop, 1) := by decide +kernel
theorem d_MD_found_62 : decode b_MD_found 62 = .ok (.iconst 0, 1) := by decide +kernel
theorem d_MD_found_63 : decode b_MD_found 63 = .ok (.ireturn, 1) := by decide +kernel
theorem d_MD_most_0 : decode b_MD_most 0 = .ok (.aload_n 0, 1) := by decide +kernel
theorem d_MD_most_1 : decode b_MD_most 1 = .ok (.iconst 0, 1) := by decide +kernel
theorem d_MD_most_2 : decode b_MD_most 2 = .ok (.putfield 7, 3) := by decide +kernel
theorem d_MD_most_5 : decode b_MD_most 5 = .ok (.iconst 0, 1) := by decide +kernel
theorem d_MD_most_6 : decode b_MD_most 6 = .ok (.istore_n 2, 1) := by decide +kernel
theorem d_MD_most_7 : decode b_MD_most 7 = .ok (.iload_n 2, 1) := by decide +kernel
theorem d_MD_most_8 : decode b_MD_most 8 = .ok (.bipush 64, 2) := by decide +kernel
theorem d_MD_most_10 : decode b_MD_most 10 = .ok (.if_icmp .ge 16, 3) := by decide +kernel
theorem d_MD_most_13 : decode b_MD_most 13 = .ok (.aload_n 0, 1) := by decide +kernel
theorem d_MD_most_14 : decode b_MD_most 14 = .ok (.getfield 69, 3) := by decide +kernel
theorem d_MD_most_17 : decode b_MD_most 17 = .ok (.iload_n 2, 1) := by decide +kernel
theorem d_MD_most_18 : decode b_MD_most 18 = .ok (.iconst 0, 1) := by decide +kernel
theorem d_MD_most_19 : decode b_MD_most 19 = .ok (.iastore, 1) := by decide +kernel
theorem d_MD_most_20 : decode b_MD_most 20 = .ok (.iinc 2 1, 3) := by decide +kernel
theorem d_MD_most_23 : decode b_MD_most 23 = .ok (.goto (-16), 3) := by decide +kernel
theorem d_MD_most_26 : decode b_MD_most 26 = .ok (.iconst 0, 1) := by decide +kernel
theorem d_MD_most_27 : decode b_MD_most 27 = .ok (.istore_n 2, 1) := by decide +kernel
theorem d_MD_most_28 : decode b_MD_most 28 = .ok (.iload_n 2, 1) := by decide +kernel
theorem d_MD_most_29 : decode b_MD_most 29 = .ok (.aload_n 0, 1) := by decide +kernel
theorem d_MD_most_30 : decode b_MD_most 30 = .ok (.getfield 41, 3) := by decide +kernel
theorem d_MD_most_33 : decode b_MD_most 33 = .ok (.if_icmp .ge 39, 3) := by decide +kernel
theorem d_MD_most_36 : decode b_MD_most 36 = .ok (.aload_n 0, 1) := by decide +kernel
theorem d_MD_most_37 : decode b_MD_most 37 = .ok (.getfield 32, 3) := by decide +kernel
theorem d_MD_most_40 : decode b_MD_most 40 = .ok (.ifCond .le 32, 3) := by decide +kernel
theorem d_MD_most_43 : decode b_MD_most 43 = .ok (.aload_n 0, 1) := by decide +kernel
theorem d_MD_most_44 : decode b_MD_most 44 = .ok (.iload_n 2, 1) := by decide +kernel
theorem d_MD_most_45 : decode b_MD_most 45 = .ok (.invokevirtual 104, 3) := by decide +kernel
theorem d_MD_most_48 : decode b_MD_most 48 = .ok (.ifCond .eq 18, 3) := by decide +kernel
theorem d_MD_most_51 : decode b_MD_most 51 = .ok (.aload_n 0, 1) := by decide +kernel
theorem d_MD_most_52 : decode b_MD_most 52 = .ok (.getfield 69, 3) := by decide +kernel
theorem d_MD_most_55 : decode b_MD_most 55 = .ok (.aload_n 0, 1) := by decide +kernel
theorem d_MD_most_56 : decode b_MD_most 56 = .ok (.getfield 51, 3) := by decide +kernel
theorem d_MD_most_59 : decode b_MD_most 59 = .ok (.iload_n 2, 1) := by decide +kernel
theorem d_MD_most_60 : decode b_MD_most 60 = .ok (.iaload, 1) := by decide +kernel
theorem d_MD_most_61 : decode b_MD_most 61 = .ok (.dup2, 1) := by decide +kernel
theorem d_MD_most_62 : decode b_MD_most 62 = .ok (.iaload, 1) := by decide +kernel
theorem d_MD_most_63 : decode b_MD_most 63 = .ok (.iconst 1, 1) := by decide +kernel
theorem d_MD_most_64 : decode b_MD_most 64 = .ok (.iadd, 1) := by decide +kernel
theorem d_MD_most_65 : decode b_MD_most 65 = .ok (.iastore, 1) := by decide +kernel
theorem d_MD_most_66 : decode b_MD_most 66 = .ok (.iinc 2 1, 3) := by decide +kernel
theorem d_MD_most_69 : decode b_MD_most 69 = .ok (.goto (-41), 3) := by decide +kernel
theorem d_MD_most_72 : decode b_MD_most 72 = .ok (.aload_n 0, 1) := by decide +kernel
theorem d_MD_most_73 : decode b_MD_most 73 = .ok (.iconst 1, 1) := by decide +kernel
theorem d_MD_most_74 : decode b_MD_most 74 = .ok (.iload_n 1, 1) := by decide +kernel
theorem d_MD_most_75 : decode b_MD_most 75 = .ok (.ifCond .ge 7, 3) := by decide +kernel
theorem d_MD_most_78 : decode b_MD_most 78 = .ok (.iconst 1, 1) := by decide +kernel
theorem d_MD_most_79 : decode b_MD_most 79 = .ok (.goto 4, 3) := by decide +kernel
theorem d_MD_most_82 : decode b_MD_most 82 = .ok (.iconst 0, 1) := by decide +kernel
theorem d_MD_most_83 : decode b_MD_most 83 = .ok (.invokevirtual 79, 3) := by decide +kernel
theorem d_MD_most_86 : decode b_MD_most 86 = .ok (.ifCond .eq 5, 3) := by decide +kernel
theorem d_MD_most_89 : decode b_MD_most 89 = .ok (.iconst 0, 1) := by decide +kernel
theorem d_MD_most_90 : decode b_MD_most 90 = .ok (.ireturn, 1) := by decide +kernel
theorem d_MD_most_91 : decode b_MD_most 91 = .ok (.iload_n 1, 1) := by decide +kernel
theorem d_MD_most_92 : decode b_MD_most 92 = .ok (.istore_n 2, 1) := by decide +kernel
theorem d_MD_most_93 : decode b_MD_most 93 = .ok (.iconst (-1), 1) := by decide +kernel
theorem d_MD_most_94 : decode b_MD_most 94 = .ok (.istore_n 3, 1) := by decide +kernel
theorem d_MD_most_95 : decode b_MD_most 95 = .ok (.iconst 0, 1) := by decide +kernel
theorem d_MD_most_96 : decode b_MD_most 96 = .ok (.istore 4, 2) := by decide +kernel
theorem d_MD_most_98 : decode b_MD_most 98 = .ok (.iload 4, 2) := by decide +kernel
theorem d_MD_most_100 : decode b_MD_most 100 = .ok (.aload_n 0, 1) := by decide +kernel
theorem d_MD_most_101 : decode b_MD_most 101 = .ok (.getfield 38, 3) := by decide +kernel
theorem d_MD_most_104 : decode b_MD_most 104 = .ok (.if_icmp .ge 42, 3) := by decide +kernel
theorem d_MD_most_107 : decode b_MD_most 107 = .ok (.aload_n 0, 1) := by decide +kernel
theorem d_MD_most_108 : decode b_MD_most 108 = .ok (.getfield 69, 3) := by decide +kernel
theorem d_MD_most_111 : decode b_MD_most 111 = .ok (.iload 4, 2) := by decide +kernel
theorem d_MD_most_113 : decode b_MD_most 113 = .ok (.iaload, 1) := by decide +kernel
theorem d_MD_most_114 : decode b_MD_most 114 = .ok (.ifCond .le 26, 3) := by decide +kernel
theorem d_MD_most_117 : decode b_MD_most 117 = .ok (.iload_n 3, 1) := by decide +kernel
theorem d_MD_most_118 : decode b_MD_most 118 = .ok (.ifCond .lt 19, 3) := by decide +kernel
theorem d_MD_most_121 : decode b_MD_most 121 = .ok (.aload_n 0, 1) := by decide +kernel
theorem d_MD_most_122 : decode b_MD_most 122 = .ok (.getfield 69, 3) := by decide +kernel
theorem d_MD_most_125 : decode b_MD_most 125 = .ok (.iload 4, 2) := by decide +kernel
theorem d_MD_most_127 : decode b_MD_most 127 = .ok (.iaload, 1) := by decide +kernel
theorem d_MD_most_128 : decode b_MD_most 128 = .ok (.aload_n 0, 1) := by decide +kernel
theorem d_MD_most_129 : decode b_MD_most 129 = .ok (.getfield 69, 3) := by decide +kernel
theorem d_MD_most_132 : decode b_MD_most 132 = .ok (.iload_n 3, 1) := by decide +kernel
theorem d_MD_most_133 : decode b_MD_most 133 = .ok (.iaload, 1) := by decide +kernel
theorem d_MD_most_134 : decode b_MD_most 134 = .ok (.if_icmp .le 6, 3) := by decide +kernel
theorem d_MD_most_137 : decode b_MD_most 137 = .ok (.iload 4, 2) := by decide +kernel
theorem d_MD_most_139 : decode b_MD_most 139 = .ok (.istore_n 3, 1) := by decide +kernel
theorem d_MD_most_140 : decode b_MD_most 140 = .ok (.iinc 4 1, 3) := by decide +kernel
theorem d_MD_most_143 : decode b_MD_most 143 = .ok (.goto (-45), 3) := by decide +kernel
theorem d_MD_most_146 : decode b_MD_most 146 = .ok (.aload_n 0, 1) := by decide +kernel
theorem d_MD_most_147 : decode b_MD_most 147 = .ok (.iconst 1, 1) := by decide +kernel
theorem d_MD_most_148 : decode b_MD_most 148 = .ok (.iload_n 3, 1) := by decide +kernel
theorem d_MD_most_149 : decode b_MD_most 149 = .ok (.ifCond .ge 7, 3) := by decide +kernel
theorem d_MD_most_152 : decode b_MD_most 152 = .ok (.iconst 1, 1) := by decide +kernel
theorem d_MD_most_153 : decode b_MD_most 153 = .ok (.goto 4, 3) := by decide +kernel
theorem d_MD_most_156 : decode b_MD_most 156 = .ok (.iconst 0, 1) := by decide +kernel
theorem d_MD_most_157 : decode b_MD_most 157 = .ok (.invokevirtual 79, 3) := by decide +kernel
theorem d_MD_most_160 : decode b_MD_most 160 = .ok (.ifCond .eq 5, 3) := by decide +kernel
theorem d_MD_most_163 : decode b_MD_most 163 = .ok (.iconst 0, 1) := by decide +kernel
theorem d_MD_most_164 : decode b_MD_most 164 = .ok (.ireturn, 1) := by decide +kernel
theorem d_MD_most_165 : decode b_MD_most 165 = .ok (.iload_n 2, 1) := by decide +kernel
theorem d_MD_most_166 : decode b_MD_most 166 = .ok (.ifCond .ne 15, 3) := by decide +kernel
theorem d_MD_most_169 : decode b_MD_most 169 = .ok (.bipush 64, 2) := by decide +kernel
theorem d_MD_most_171 : decode b_MD_most 171 = .ok (.aload_n 0, 1) := by decide +kernel
theorem d_MD_most_172 : decode b_MD_most 172 = .ok (.getfield 69, 3) := by decide +kernel
theorem d_MD_most_175 : decode b_MD_most 175 = .ok (.iload_n 3, 1) := by decide +kernel
theorem d_MD_most_176 : decode b_MD_most 176 = .ok (.iaload, 1) := by decide +kernel
theorem d_MD_most_177 : decode b_MD_most 177 = .ok (.imul, 1) := by decide +kernel
theorem d_MD_most_178 : decode b_MD_most 178 = .ok (.iload_n 3, 1) := by decide +kernel
theorem d_MD_most_179 : decode b_MD_most 179 = .ok (.iadd, 1) := by decide +kernel
theorem d_MD_most_180 : decode b_MD_most 180 = .ok (.ireturn, 1) := by decide +kernel
theorem d_MD_most_181 : decode b_MD_most 181 = .ok (.aload_n 0, 1) := by decide +kernel
theorem d_MD_most_182 : decode b_MD_most 182 = .ok (.getfield 69, 3) := by decide +kernel
theorem d_MD_most_185 : decode b_MD_most 185 = .ok (.iload_n 3, 1) := by decide +kernel
theorem d_MD_most_186 : decode b_MD_most 186 = .ok (.iconst 0, 1) := by decide +kernel
theorem d_MD_most_187 : decode b_MD_most 187 = .ok (.iastore, 1) := by decide +kernel
theorem d_MD_most_188 : decode b_MD_most 188 = .ok (.iinc 2 (-1), 3) := by decide +kernel
theorem d_MD_most_191 : decode b_MD_most 191 = .ok (.goto (-98), 3) := by decide +kernel
theorem d_MD_tell_0 : decode b_MD_tell 0 = .ok (.iconst 0, 1) := by decide +kernel
theorem d_MD_tell_1 : decode b_MD_tell 1 = .ok (.istore_n 3, 1) := by decide +kernel
theorem d_MD_tell_2 : decode b_MD_tell 2 = .ok (.iload_n 3, 1) := by decide +kernel
theorem d_MD_tell_3 : decode b_MD_tell 3 = .ok (.iload_n 2, 1) := by decide +kernel
theorem d_MD_tell_4 : decode b_MD_tell 4 = .ok (.if_icmp .ge 23, 3) := by decide +kernel
theorem d_MD_tell_7 : decode b_MD_tell 7 = .ok (.aload_n 0, 1) := by decide +kernel
theorem d_MD_tell_8 : decode b_MD_tell 8 = .ok (.getfield 20, 3) := by decide +kernel
theorem d_MD_tell_11 : decode b_MD_tell 11 = .ok (.iload_n 3, 1) := by decide +kernel
theorem d_MD_tell_12 : decode b_MD_tell 12 = .ok (.aload_n 0, 1) := by decide +kernel
theorem d_MD_tell_13 : decode b_MD_tell 13 = .ok (.getfield 17, 3) := by decide +kernel
theorem d_MD_tell_16 : decode b_MD_tell 16 = .ok (.iload_n 1, 1) := by decide +kernel
theorem d_MD_tell_17 : decode b_MD_tell 17 = .ok (.iload_n 3, 1) := by decide +kernel
theorem d_MD_tell_18 : decode b_MD_tell 18 = .ok (.iadd, 1) := by decide +kernel
theorem d_MD_tell_19 : decode b_MD_tell 19 = .ok (.baload, 1) := by decide +kernel
theorem d_MD_tell_20 : decode b_MD_tell 20 = .ok (.bastore, 1) := by decide +kernel
theorem d_MD_tell_21 : decode b_MD_tell 21 = .ok (.iinc 3 1, 3) := by decide +kernel
theorem d_MD_tell_24 : decode b_MD_tell 24 = .ok (.goto (-22), 3) := by decide +kernel
theorem d_MD_tell_27 : decode b_MD_tell 27 = .ok (.aload_n 0, 1) := by decide +kernel
theorem d_MD_tell_28 : decode b_MD_tell 28 = .ok (.iload_n 2, 1) := by decide +kernel
theorem d_MD_tell_29 : decode b_MD_tell 29 = .ok (.putfield 29, 3) := by decide +kernel
theorem d_MD_tell_32 : decode b_MD_tell 32 = .ok (.return_, 1) := by decide +kernel
theorem d_MD_near_0 : decode b_MD_near 0 = .ok (.aload_n 0, 1) := by decide +kernel
theorem d_MD_near_1 : decode b_MD_near 1 = .ok (.iconst 0, 1) := by decide +kernel
theorem d_MD_near_2 : decode b_MD_near 2 = .ok (.putfield 7, 3) := by decide +kernel
theorem d_MD_near_5 : decode b_MD_near 5 = .ok (.aload_n 0, 1) := by decide +kernel
theorem d_MD_near_6 : decode b_MD_near 6 = .ok (.iconst 1, 1) := by decide +kernel
theorem d_MD_near_7 : decode b_MD_near 7 = .ok (.iload_n 1, 1) := by decide +kernel
theorem d_MD_near_8 : decode b_MD_near 8 = .ok (.ifCond .lt 8, 3) := by decide +kernel
theorem d_MD_near_11 : decode b_MD_near 11 = .ok (.iload_n 1, 1) := by decide +kernel
theorem d_MD_near_12 : decode b_MD_near 12 = .ok (.iconst 3, 1) := by decide +kernel
theorem d_MD_near_13 : decode b_MD_near 13 = .ok (.if_icmp .le 7, 3) := by decide +kernel
theorem d_MD_near_16 : decode b_MD_near 16 = .ok (.iconst 1, 1) := by decide +kernel
theorem d_MD_near_17 : decode b_MD_near 17 = .ok (.goto 4, 3) := by decide +kernel
theorem d_MD_near_20 : decode b_MD_near 20 = .ok (.iconst 0, 1) := by decide +kernel
theorem d_MD_near_21 : decode b_MD_near 21 = .ok (.invokevirtual 79, 3) := by decide +kernel
theorem d_MD_near_24 : decode b_MD_near 24 = .ok (.ifCond .ne 23, 3) := by decide +kernel
theorem d_MD_near_27 : decode b_MD_near 27 = .ok (.aload_n 0, 1) := by decide +kernel
theorem d_MD_near_28 : decode b_MD_near 28 = .ok (.iconst 2, 1) := by decide +kernel
theorem d_MD_near_29 : decode b_MD_near 29 = .ok (.aload_n 0, 1) := by decide +kernel
theorem d_MD_near_30 : decode b_MD_near 30 = .ok (.getfield 32, 3) := by decide +kernel
theorem d_MD_near_33 : decode b_MD_near 33 = .ok (.ifCond .ne 7, 3) := by decide +kernel
theorem d_MD_near_36 : decode b_MD_near 36 = .ok (.iconst 1, 1) := by decide +kernel
theorem d_MD_near_37 : decode b_MD_near 37 = .ok (.goto 4, 3) := by decide +kernel
theorem d_MD_near_40 : decode b_MD_near 40 = .ok (.iconst 0, 1) := by decide +kernel
theorem d_MD_near_41 : decode b_MD_near 41 = .ok (.invokevirtual 79, 3) := by decide +kernel
theorem d_MD_near_44 : decode b_MD_near 44 = .ok (.ifCond .eq 5, 3) := by decide +kernel
theorem d_MD_near_47 : decode b_MD_near 47 = .ok (.iconst 0, 1) := by decide +kernel
theorem d_MD_near_48 : decode b_MD_near 48 = .ok (.ireturn, 1) := by decide +kernel
theorem d_MD_near_49 : decode b_MD_near 49 = .ok (.iconst 0, 1) := by decide +kernel
theorem d_MD_near_50 : decode b_MD_near 50 = .ok (.istore_n 2, 1) := by decide +kernel
theorem d_MD_near_51 : decode b_MD_near 51 = .ok (.iconst (-1), 1) := by decide +kernel
theorem d_MD_near_52 : decode b_MD_near 52 = .ok (.istore_n 3, 1) := by decide +kernel
theorem d_MD_near_53 : decode b_MD_near 53 = .ok (.iconst 0, 1) := by decide +kernel
theorem d_MD_near_54 : decode b_MD_near 54 = .ok (.istore 4, 2) := by decide +kernel
theorem d_MD_near_56 : decode b_MD_near 56 = .ok (.iload 4, 2) := by decide +kernel
theorem d_MD_near_58 : decode b_MD_near 58 = .ok (.aload_n 0, 1) := by decide +kernel
theorem d_MD_near_59 : decode b_MD_near 59 = .ok (.getfield 41, 3) := by decide +kernel
theorem d_MD_near_62 : decode b_MD_near 62 = .ok (.if_icmp .ge 93, 3) := by decide +kernel
theorem d_MD_near_65 : decode b_MD_near 65 = .ok (.iload 4, 2) := by decide +kernel
theorem d_MD_near_67 : decode b_MD_near 67 = .ok (.aload_n 0, 1) := by decide +kernel
theorem d_MD_near_68 : decode b_MD_near 68 = .ok (.getfield 32, 3) := by decide +kernel
theorem d_MD_near_71 : decode b_MD_near 71 = .ok (.iadd, 1) := by decide +kernel
theorem d_MD_near_72 : decode b_MD_near 72 = .ok (.aload_n 0, 1) := by decide +kernel
theorem d_MD_near_73 : decode b_MD_near 73 = .ok (.iload 4, 2) := by decide +kernel
theorem d_MD_near_75 : decode b_MD_near 75 = .ok (.invokevirtual 83, 3) := by decide +kernel
theorem d_MD_near_78 : decode b_MD_near 78 = .ok (.if_icmp .le 6, 3) := by decide +kernel
theorem d_MD_near_81 : decode b_MD_near 81 = .ok (.goto 68, 3) := by decide +kernel
theorem d_MD_near_84 : decode b_MD_near 84 = .ok (.iconst 0, 1) := by decide +kernel
theorem d_MD_near_85 : decode b_MD_near 85 = .ok (.istore 5, 2) := by decide +kernel
theorem d_MD_near_87 : decode b_MD_near 87 = .ok (.iconst 0, 1) := by decide +kernel
theorem d_MD_near_88 : decode b_MD_near 88 = .ok (.istore 6, 2) := by decide +kernel
theorem d_MD_near_90 : decode b_MD_near 90 = .ok (.iload 6, 2) := by decide +kernel
theorem d_MD_near_92 : decode b_MD_near 92 = .ok (.aload_n 0, 1) := by decide +kernel
theorem d_MD_near_93 : decode b_MD_near 93 = .ok (.getfield 32, 3) := by decide +kernel
theorem d_MD_near_96 : decode b_MD_near 96 = .ok (.if_icmp .ge 38, 3) := by decide +kernel
theorem d_MD_near_99 : decode b_MD_near 99 = .ok (.iload 5, 2) := by decide +kernel
theorem d_MD_near_101 : decode b_MD_near 101 = .ok (.iload_n 1, 1) := by decide +kernel
theorem d_MD_near_102 : decode b_MD_near 102 = .ok (.if_icmp .gt 32, 3) := by decide +kernel
theorem d_MD_near_105 : decode b_MD_near 105 = .ok (.aload_n 0, 1) := by decide +kernel
theorem d_MD_near_106 : decode b_MD_near 106 = .ok (.getfield 17, 3) := by decide +kernel
theorem d_MD_near_109 : decode b_MD_near 109 = .ok (.iload 4, 2) := by decide +kernel
theorem d_MD_near_111 : decode b_MD_near 111 = .ok (.iload 6, 2) := by decide +kernel
theorem d_MD_near_113 : decode b_MD_near 113 = .ok (.iadd, 1) := by decide +kernel
theorem d_MD_near_114 : decode b_MD_near 114 = .ok (.baload, 1) := by decide +kernel
theorem d_MD_near_115 : decode b_MD_near 115 = .ok (.aload_n 0, 1) := by decide +kernel
theorem d_MD_near_116 : decode b_MD_near 116 = .ok (.getfield 23, 3) := by decide +kernel
theorem d_MD_near_119 : decode b_MD_near 119 = .ok (.iload 6, 2) := by decide +kernel
theorem d_MD_near_121 : decode b_MD_near 121 = .ok (.baload, 1) := by decide +kernel
theorem d_MD_near_122 : decode b_MD_near 122 = .ok (.if_icmp .eq 6, 3) := by decide +kernel
theorem d_MD_near_125 : decode b_MD_near 125 = .ok (.iinc 5 1, 3) := by decide +kernel
theorem d_MD_near_128 : decode b_MD_near 128 = .ok (.iinc 6 1, 3) := by decide +kernel
theorem d_MD_near_131 : decode b_MD_near 131 = .ok (.goto (-41), 3) := by decide +kernel
theorem d_MD_near_134 : decode b_MD_near 134 = .ok (.iload 5, 2) := by decide +kernel
theorem d_MD_near_136 : decode b_MD_near 136 = .ok (.iload_n 1, 1) := by decide +kernel
theorem d_MD_near_137 : decode b_MD_near 137 = .ok (.if_icmp .le 6, 3) := by decide +kernel
theorem d_MD_near_140 : decode b_MD_near 140 = .ok (.goto 9, 3) := by decide +kernel
theorem d_MD_near_143 : decode b_MD_near 143 = .ok (.iinc 2 1, 3) := by decide +kernel
theorem d_MD_near_146 : decode b_MD_near 146 = .ok (.iload 4, 2) := by decide +kernel
theorem d_MD_near_148 : decode b_MD_near 148 = .ok (.istore_n 3, 1) := by decide +kernel
theorem d_MD_near_149 : decode b_MD_near 149 = .ok (.iinc 4 1, 3) := by decide +kernel
theorem d_MD_near_152 : decode b_MD_near 152 = .ok (.goto (-96), 3) := by decide +kernel
theorem d_MD_near_155 : decode b_MD_near 155 = .ok (.iload_n 3, 1) := by decide +kernel
theorem d_MD_near_156 : decode b_MD_near 156 = .ok (.ifCond .lt 12, 3) := by decide +kernel
theorem d_MD_near_159 : decode b_MD_near 159 = .ok (.aload_n 0, 1) := by decide +kernel
theorem d_MD_near_160 : decode b_MD_near 160 = .ok (.iload_n 3, 1) := by decide +kernel
theorem d_MD_near_161 : decode b_MD_near 161 = .ok (.aload_n 0, 1) := by decide +kernel
theorem d_MD_near_162 : decode b_MD_near 162 = .ok (.getfield 32, 3) := by decide +kernel
theorem d_MD_near_165 : decode b_MD_near 165 = .ok (.invokevirtual 111, 3) := by decide +kernel
theorem d_MD_near_168 : decode b_MD_near 168 = .ok (.iload_n 2, 1) := by decide +kernel
theorem d_MD_near_169 : decode b_MD_near 169 = .ok (.ireturn, 1) := by decide +kernel
theorem d_MD_matched_0 : decode b_MD_matched 0 = .ok (.aload_n 0, 1) := by decide +kernel
theorem d_MD_matched_1 : decode b_MD_matched 1 = .ok (.iconst 0, 1) := by decide +kernel
theorem d_MD_matched_2 : decode b_MD_matched 2 = .ok (.putfield 7, 3) := by decide +kernel
theorem d_MD_matched_5 : decode b_MD_matched 5 = .ok (.aload_n 0, 1) := by decide +kernel
theorem d_MD_matched_6 : decode b_MD_matched 6 = .ok (.iconst 1, 1) := by decide +kernel
theorem d_MD_matched_7 : decode b_MD_matched 7 = .ok (.aload_n 0, 1) := by decide +kernel
theorem d_MD_matched_8 : decode b_MD_matched 8 = .ok (.getfield 32, 3) := by decide +kernel
theorem d_MD_matched_11 : decode b_MD_matched 11 = .ok (.ifCond .ne 7, 3) := by decide +kernel
theorem d_MD_matched_14 : decode b_MD_matched 14 = .ok (.iconst 1, 1) := by decide +kernel
theorem d_MD_matched_15 : decode b_MD_matched 15 = .ok (.goto 4, 3) := by decide +kernel
theorem d_MD_matched_18 : decode b_MD_matched 18 = .ok (.iconst 0, 1) := by decide +kernel
theorem d_MD_matched_19 : decode b_MD_matched 19 = .ok (.invokevirtual 79, 3) := by decide +kernel
theorem d_MD_matched_22 : decode b_MD_matched 22 = .ok (.ifCond .eq 5, 3) := by decide +kernel
theorem d_MD_matched_25 : decode b_MD_matched 25 = .ok (.iconst 0, 1) := by decide +kernel
theorem d_MD_matched_26 : decode b_MD_matched 26 = .ok (.ireturn, 1) := by decide +kernel
theorem d_MD_matched_27 : decode b_MD_matched 27 = .ok (.iconst 0, 1) := by decide +kernel
theorem d_MD_matched_28 : decode b_MD_matched 28 = .ok (.istore_n 1, 1) := by decide +kernel
theorem d_MD_matched_29 : decode b_MD_matched 29 = .ok (.iconst 0, 1) := by decide +kernel
theorem d_MD_matched_30 : decode b_MD_matched 30 = .ok (.istore_n 2, 1) := by decide +kernel
theorem d_MD_matched_31 : decode b_MD_matched 31 = .ok (.iload_n 2, 1) := by decide +kernel
theorem d_MD_matched_32 : decode b_MD_matched 32 = .ok (.aload_n 0, 1) := by decide +kernel
theorem d_MD_matched_33 : decode b_MD_matched 33 = .ok (.getfield 32, 3) := by decide +kernel
theorem d_MD_matched_36 : decode b_MD_matched 36 = .ok (.if_icmp .ge 96, 3) := by decide +kernel
theorem d_MD_matched_39 : decode b_MD_matched 39 = .ok (.iconst 0, 1) := by decide +kernel
theorem d_MD_matched_40 : decode b_MD_matched 40 = .ok (.istore_n 3, 1) := by decide +kernel
theorem d_MD_matched_41 : decode b_MD_matched 41 = .ok (.iconst 0, 1) := by decide +kernel
theorem d_MD_matched_42 : decode b_MD_matched 42 = .ok (.istore 4, 2) := by decide +kernel
theorem d_MD_matched_44 : decode b_MD_matched 44 = .ok (.iload 4, 2) := by decide +kernel
theorem d_MD_matched_46 : decode b_MD_matched 46 = .ok (.aload_n 0, 1) := by decide +kernel
theorem d_MD_matched_47 : decode b_MD_matched 47 = .ok (.getfield 41, 3) := by decide +kernel
theorem d_MD_matched_50 : decode b_MD_matched 50 = .ok (.if_icmp .ge 72, 3) := by decide +kernel
theorem d_MD_matched_53 : decode b_MD_matched 53 = .ok (.iconst 0, 1) := by decide +kernel
theorem d_MD_matched_54 : decode b_MD_matched 54 = .ok (.istore 5, 2) := by decide +kernel
theorem d_MD_matched_56 : decode b_MD_matched 56 = .ok (.iload_n 2, 1) := by decide +kernel
theorem d_MD_matched_57 : decode b_MD_matched 57 = .ok (.iload 5, 2) := by decide +kernel
theorem d_MD_matched_59 : decode b_MD_matched 59 = .ok (.iadd, 1) := by decide +kernel
theorem d_MD_matched_60 : decode b_MD_matched 60 = .ok (.aload_n 0, 1) := by decide +kernel
theorem d_MD_matched_61 : decode b_MD_matched 61 = .ok (.getfield 32, 3) := by decide +kernel
theorem d_MD_matched_64 : decode b_MD_matched 64 = .ok (.if_icmp .ge 45, 3) := by decide +kernel
theorem d_MD_matched_67 : decode b_MD_matched 67 = .ok (.iload 4, 2) := by decide +kernel
theorem d_MD_matched_69 : decode b_MD_matched 69 = .ok (.iload 5, 2) := by decide +kernel
theorem d_MD_matched_71 : decode b_MD_matched 71 = .ok (.iadd, 1) := by decide +kernel
theorem d_MD_matched_72 : decode b_MD_matched 72 = .ok (.aload_n 0, 1) := by decide +kernel
theorem d_MD_matched_73 : decode b_MD_matched 73 = .ok (.iload 4, 2) := by decide +kernel
theorem d_MD_matched_75 : decode b_MD_matched 75 = .ok (.invokevirtual 83, 3) := by decide +kernel
theorem d_MD_matched_78 : decode b_MD_matched 78 = .ok (.if_icmp .ge 31, 3) := by decide +kernel
theorem d_MD_matched_81 : decode b_MD_matched 81 = .ok (.aload_n 0, 1) := by decide +kernel
theorem d_MD_matched_82 : decode b_MD_matched 82 = .ok (.getfield 17, 3) := by decide +kernel
theorem d_MD_matched_85 : decode b_MD_matched 85 = .ok (.iload 4, 2) := by decide +kernel
theorem d_MD_matched_87 : decode b_MD_matched 87 = .ok (.iload 5, 2) := by decide +kernel
theorem d_MD_matched_89 : decode b_MD_matched 89 = .ok (.iadd, 1) := by decide +kernel
theorem d_MD_matched_90 : decode b_MD_matched 90 = .ok (.baload, 1) := by decide +kernel
theorem d_MD_matched_91 : decode b_MD_matched 91 = .ok (.aload_n 0, 1) := by decide +kernel
theorem d_MD_matched_92 : decode b_MD_matched 92 = .ok (.getfield 23, 3) := by decide +kernel
theorem d_MD_matched_95 : decode b_MD_matched 95 = .ok (.iload_n 2, 1) := by decide +kernel
theorem d_MD_matched_96 : decode b_MD_matched 96 = .ok (.iload 5, 2) := by decide +kernel
theorem d_MD_matched_98 : decode b_MD_matched 98 = .ok (.iadd, 1) := by decide +kernel
theorem d_MD_matched_99 : decode b_MD_matched 99 = .ok (.baload, 1) := by decide +kernel
theorem d_MD_matched_100 : decode b_MD_matched 100 = .ok (.if_icmp .ne 9, 3) := by decide +kernel
theorem d_MD_matched_103 : decode b_MD_matched 103 = .ok (.iinc 5 1, 3) := by decide +kernel
theorem d_MD_matched_106 : decode b_MD_matched 106 = .ok (.goto (-50), 3) := by decide +kernel
theorem d_MD_matched_109 : decode b_MD_matched 109 = .ok (.iload_n 3, 1) := by decide +kernel
theorem d_MD_matched_110 : decode b_MD_matched 110 = .ok (.iload 5, 2) := by decide +kernel
theorem d_MD_matched_112 : decode b_MD_matched 112 = .ok (.invokestatic 115, 3) := by decide +kernel
theorem d_MD_matched_115 : decode b_MD_matched 115 = .ok (.istore_n 3, 1) := by decide +kernel
theorem d_MD_matched_116 : decode b_MD_matched 116 = .ok (.iinc 4 1, 3) := by decide +kernel
theorem d_MD_matched_119 : decode b_MD_matched 119 = .ok (.goto (-75), 3) := by decide +kernel
theorem d_MD_matched_122 : decode b_MD_matched 122 = .ok (.iload_n 1, 1) := by decide +kernel
theorem d_MD_matched_123 : decode b_MD_matched 123 = .ok (.iload_n 3, 1) := by decide +kernel
theorem d_MD_matched_124 : decode b_MD_matched 124 = .ok (.iadd, 1) := by decide +kernel
theorem d_MD_matched_125 : decode b_MD_matched 125 = .ok (.istore_n 1, 1) := by decide +kernel
theorem d_MD_matched_126 : decode b_MD_matched 126 = .ok (.iinc 2 1, 3) := by decide +kernel
theorem d_MD_matched_129 : decode b_MD_matched 129 = .ok (.goto (-98), 3) := by decide +kernel
theorem d_MD_matched_132 : decode b_MD_matched 132 = .ok (.iload_n 1, 1) := by decide +kernel
theorem d_MD_matched_133 : decode b_MD_matched 133 = .ok (.ireturn, 1) := by decide +kernel
theorem d_MD_suffix_0 : decode b_MD_suffix 0 = .ok (.aload_n 0, 1) := by decide +kernel
theorem d_MD_suffix_1 : decode b_MD_suffix 1 = .ok (.iconst 0, 1) := by decide +kernel
theorem d_MD_suffix_2 : decode b_MD_suffix 2 = .ok (.putfield 7, 3) := by decide +kernel
theorem d_MD_suffix_5 : decode b_MD_suffix 5 = .ok (.aload_n 0, 1) := by decide +kernel
theorem d_MD_suffix_6 : decode b_MD_suffix 6 = .ok (.iconst 1, 1) := by decide +kernel
theorem d_MD_suffix_7 : decode b_MD_suffix 7 = .ok (.iload_n 1, 1) := by decide +kernel
theorem d_MD_suffix_8 : decode b_MD_suffix 8 = .ok (.ifCond .lt 11, 3) := by decide +kernel
theorem d_MD_suffix_11 : decode b_MD_suffix 11 = .ok (.iload_n 1, 1) := by decide +kernel
theorem d_MD_suffix_12 : decode b_MD_suffix 12 = .ok (.aload_n 0, 1) := by decide +kernel
theorem d_MD_suffix_13 : decode b_MD_suffix 13 = .ok (.getfield 41, 3) := by decide +kernel
theorem d_MD_suffix_16 : decode b_MD_suffix 16 = .ok (.if_icmp .lt 7, 3) := by decide +kernel
theorem d_MD_suffix_19 : decode b_MD_suffix 19 = .ok (.iconst 1, 1) := by decide +kernel
theorem d_MD_suffix_20 : decode b_MD_suffix 20 = .ok (.goto 4, 3) := by decide +kernel
theorem d_MD_suffix_23 : decode b_MD_suffix 23 = .ok (.iconst 0, 1) := by decide +kernel
theorem d_MD_suffix_24 : decode b_MD_suffix 24 = .ok (.invokevirtual 79, 3) := by decide +kernel
theorem d_MD_suffix_27 : decode b_MD_suffix 27 = .ok (.ifCond .eq 5, 3) := by decide +kernel
theorem d_MD_suffix_30 : decode b_MD_suffix 30 = .ok (.iconst 0, 1) := by decide +kernel
theorem d_MD_suffix_31 : decode b_MD_suffix 31 = .ok (.ireturn, 1) := by decide +kernel
theorem d_MD_suffix_32 : decode b_MD_suffix 32 = .ok (.aload_n 0, 1) := by decide +kernel
theorem d_MD_suffix_33 : decode b_MD_suffix 33 = .ok (.aload_n 0, 1) := by decide +kernel
theorem d_MD_suffix_34 : decode b_MD_suffix 34 = .ok (.getfield 54, 3) := by decide +kernel
theorem d_MD_suffix_37 : decode b_MD_suffix 37 = .ok (.iload_n 1, 1) := by decide +kernel
theorem d_MD_suffix_38 : decode b_MD_suffix 38 = .ok (.iaload, 1) := by decide +kernel
theorem d_MD_suffix_39 : decode b_MD_suffix 39 = .ok (.invokevirtual 108, 3) := by decide +kernel
theorem d_MD_suffix_42 : decode b_MD_suffix 42 = .ok (.ireturn, 1) := by decide +kernel
theorem d_MD_rank_0 : decode b_MD_rank 0 = .ok (.aload_n 0, 1) := by decide +kernel
theorem d_MD_rank_1 : decode b_MD_rank 1 = .ok (.iconst 0, 1) := by decide +kernel
theorem d_MD_rank_2 : decode b_MD_rank 2 = .ok (.putfield 7, 3) := by decide +kernel
theorem d_MD_rank_5 : decode b_MD_rank 5 = .ok (.aload_n 0, 1) := by decide +kernel
theorem d_MD_rank_6 : decode b_MD_rank 6 = .ok (.iload_n 1, 1) := by decide +kernel
theorem d_MD_rank_7 : decode b_MD_rank 7 = .ok (.invokevirtual 120, 3) := by decide +kernel
theorem d_MD_rank_10 : decode b_MD_rank 10 = .ok (.istore_n 2, 1) := by decide +kernel
theorem d_MD_rank_11 : decode b_MD_rank 11 = .ok (.aload_n 0, 1) := by decide +kernel
theorem d_MD_rank_12 : decode b_MD_rank 12 = .ok (.iconst 1, 1) := by decide +kernel
theorem d_MD_rank_13 : decode b_MD_rank 13 = .ok (.iload_n 2, 1) := by decide +kernel
theorem d_MD_rank_14 : decode b_MD_rank 14 = .ok (.ifCond .ge 7, 3) := by decide +kernel
theorem d_MD_rank_17 : decode b_MD_rank 17 = .ok (.iconst 1, 1) := by decide +kernel
theorem d_MD_rank_18 : decode b_MD_rank 18 = .ok (.goto 4, 3) := by decide +kernel
theorem d_MD_rank_21 : decode b_MD_rank 21 = .ok (.iconst 0, 1) := by decide +kernel
theorem d_MD_rank_22 : decode b_MD_rank 22 = .ok (.invokevirtual 79, 3) := by decide +kernel
theorem d_MD_rank_25 : decode b_MD_rank 25 = .ok (.ifCond .eq 5, 3) := by decide +kernel
theorem d_MD_rank_28 : decode b_MD_rank 28 = .ok (.iconst 0, 1) := by decide +kernel
theorem d_MD_rank_29 : decode b_MD_rank 29 = .ok (.ireturn, 1) := by decide +kernel
theorem d_MD_rank_30 : decode b_MD_rank 30 = .ok (.aload_n 0, 1) := by decide +kernel
theorem d_MD_rank_31 : decode b_MD_rank 31 = .ok (.getfield 57, 3) := by decide +kernel
theorem d_MD_rank_34 : decode b_MD_rank 34 = .ok (.iload_n 2, 1) := by decide +kernel
theorem d_MD_rank_35 : decode b_MD_rank 35 = .ok (.iaload, 1) := by decide +kernel
theorem d_MD_rank_36 : decode b_MD_rank 36 = .ok (.ireturn, 1) := by decide +kernel
theorem d_MD_common_0 : decode b_MD_common 0 = .ok (.aload_n 0, 1) := by decide +kernel
theorem d_MD_common_1 : decode b_MD_common 1 = .ok (.iconst 0, 1) := by decide +kernel
theorem d_MD_common_2 : decode b_MD_common 2 = .ok (.putfield 7, 3) := by decide +kernel
theorem d_MD_common_5 : decode b_MD_common 5 = .ok (.aload_n 0, 1) := by decide +kernel
theorem d_MD_common_6 : decode b_MD_common 6 = .ok (.iload_n 1, 1) := by decide +kernel
theorem d_MD_common_7 : decode b_MD_common 7 = .ok (.invokevirtual 120, 3) := by decide +kernel
theorem d_MD_common_10 : decode b_MD_common 10 = .ok (.istore_n 3, 1) := by decide +kernel
theorem d_MD_common_11 : decode b_MD_common 11 = .ok (.aload_n 0, 1) := by decide +kernel
theorem d_MD_common_12 : decode b_MD_common 12 = .ok (.iload_n 2, 1) := by decide +kernel
theorem d_MD_common_13 : decode b_MD_common 13 = .ok (.invokevirtual 120, 3) := by decide +kernel
theorem d_MD_common_16 : decode b_MD_common 16 = .ok (.istore 4, 2) := by decide +kernel
theorem d_MD_common_18 : decode b_MD_common 18 = .ok (.aload_n 0, 1) := by decide +kernel
theorem d_MD_common_19 : decode b_MD_common 19 = .ok (.iconst 1, 1) := by decide +kernel
theorem d_MD_common_20 : decode b_MD_common 20 = .ok (.iload_n 3, 1) := by decide +kernel
theorem d_MD_common_21 : decode b_MD_common 21 = .ok (.ifCond .lt 8, 3) := by decide +kernel
theorem d_MD_common_24 : decode b_MD_common 24 = .ok (.iload 4, 2) := by decide +kernel
theorem d_MD_common_26 : decode b_MD_common 26 = .ok (.ifCond .ge 7, 3) := by decide +kernel
theorem d_MD_common_29 : decode b_MD_common 29 = .ok (.iconst 1, 1) := by decide +kernel
theorem d_MD_common_30 : decode b_MD_common 30 = .ok (.goto 4, 3) := by decide +kernel
theorem d_MD_common_33 : decode b_MD_common 33 = .ok (.iconst 0, 1) := by decide +kernel
theorem d_MD_common_34 : decode b_MD_common 34 = .ok (.invokevirtual 79, 3) := by decide +kernel
theorem d_MD_common_37 : decode b_MD_common 37 = .ok (.ifCond .eq 5, 3) := by decide +kernel
theorem d_MD_common_40 : decode b_MD_common 40 = .ok (.iconst 0, 1) := by decide +kernel
theorem d_MD_common_41 : decode b_MD_common 41 = .ok (.ireturn, 1) := by decide +kernel
theorem d_MD_common_42 : decode b_MD_common 42 = .ok (.aload_n 0, 1) := by decide +kernel
theorem d_MD_common_43 : decode b_MD_common 43 = .ok (.iload_n 3, 1) := by decide +kernel
theorem d_MD_common_44 : decode b_MD_common 44 = .ok (.iload 4, 2) := by decide +kernel
theorem d_MD_common_46 : decode b_MD_common 46 = .ok (.invokevirtual 99, 3) := by decide +kernel
theorem d_MD_common_49 : decode b_MD_common 49 = .ok (.ireturn, 1) := by decide +kernel
theorem d_MD_repeat_0 : decode b_MD_repeat 0 = .ok (.aload_n 0, 1) := by decide +kernel
theorem d_MD_repeat_1 : decode b_MD_repeat 1 = .ok (.iconst 0, 1) := by decide +kernel
theorem d_MD_repeat_2 : decode b_MD_repeat 2 = .ok (.putfield 7, 3) := by decide +kernel
theorem d_MD_repeat_5 : decode b_MD_repeat 5 = .ok (.aload_n 0, 1) := by decide +kernel
theorem d_MD_repeat_6 : decode b_MD_repeat 6 = .ok (.iconst 1, 1) := by decide +kernel
theorem d_MD_repeat_7 : decode b_MD_repeat 7 = .ok (.iload_n 1, 1) := by decide +kernel
theorem d_MD_repeat_8 : decode b_MD_repeat 8 = .ok (.iconst 2, 1) := by decide +kernel
theorem d_MD_repeat_9 : decode b_MD_repeat 9 = .ok (.if_icmp .lt 9, 3) := by decide +kernel
theorem d_MD_repeat_12 : decode b_MD_repeat 12 = .ok (.iload_n 1, 1) := by decide +kernel
theorem d_MD_repeat_13 : decode b_MD_repeat 13 = .ok (.bipush 20, 2) := by decide +kernel
theorem d_MD_repeat_15 : decode b_MD_repeat 15 = .ok (.if_icmp .le 7, 3) := by decide +kernel
theorem d_MD_repeat_18 : decode b_MD_repeat 18 = .ok (.iconst 1, 1) := by decide +kernel
theorem d_MD_repeat_19 : decode b_MD_repeat 19 = .ok (.goto 4, 3) := by decide +kernel
theorem d_MD_repeat_22 : decode b_MD_repeat 22 = .ok (.iconst 0, 1) := by decide +kernel
theorem d_MD_repeat_23 : decode b_MD_repeat 23 = .ok (.invokevirtual 79, 3) := by decide +kernel
theorem d_MD_repeat_26 : decode b_MD_repeat 26 = .ok (.ifCond .eq 5, 3) := by decide +kernel
theorem d_MD_repeat_29 : decode b_MD_repeat 29 = .ok (.iconst 0, 1) := by decide +kernel
theorem d_MD_repeat_30 : decode b_MD_repeat 30 = .ok (.ireturn, 1) := by decide +kernel
theorem d_MD_repeat_31 : decode b_MD_repeat 31 = .ok (.iconst 0, 1) := by decide +kernel
theorem d_MD_repeat_32 : decode b_MD_repeat 32 = .ok (.istore_n 2, 1) := by decide +kernel
theorem d_MD_repeat_33 : decode b_MD_repeat 33 = .ok (.iconst 0, 1) := by decide +kernel
theorem d_MD_repeat_34 : decode b_MD_repeat 34 = .ok (.istore_n 3, 1) := by decide +kernel
theorem d_MD_repeat_35 : decode b_MD_repeat 35 = .ok (.iconst 0, 1) := by decide +kernel
theorem d_MD_repeat_36 : decode b_MD_repeat 36 = .ok (.istore 4, 2) := by decide +kernel
theorem d_MD_repeat_38 : decode b_MD_repeat 38 = .ok (.iload 4, 2) := by decide +kernel
theorem d_MD_repeat_40 : decode b_MD_repeat 40 = .ok (.iload_n 1, 1) := by decide +kernel
theorem d_MD_repeat_41 : decode b_MD_repeat 41 = .ok (.iadd, 1) := by decide +kernel
theorem d_MD_repeat_42 : decode b_MD_repeat 42 = .ok (.aload_n 0, 1) := by decide +kernel
theorem d_MD_repeat_43 : decode b_MD_repeat 43 = .ok (.getfield 41, 3) := by decide +kernel
theorem d_MD_repeat_46 : decode b_MD_repeat 46 = .ok (.if_icmp .gt 72, 3) := by decide +kernel
theorem d_MD_repeat_49 : decode b_MD_repeat 49 = .ok (.aload_n 0, 1) := by decide +kernel
theorem d_MD_repeat_50 : decode b_MD_repeat 50 = .ok (.getfield 60, 3) := by decide +kernel
theorem d_MD_repeat_53 : decode b_MD_repeat 53 = .ok (.iload 4, 2) := by decide +kernel
theorem d_MD_repeat_55 : decode b_MD_repeat 55 = .ok (.iconst 1, 1) := by decide +kernel
theorem d_MD_repeat_56 : decode b_MD_repeat 56 = .ok (.iadd, 1) := by decide +kernel
theorem d_MD_repeat_57 : decode b_MD_repeat 57 = .ok (.iaload, 1) := by decide +kernel
theorem d_MD_repeat_58 : decode b_MD_repeat 58 = .ok (.istore 5, 2) := by decide +kernel
theorem d_MD_repeat_60 : decode b_MD_repeat 60 = .ok (.iload 4, 2) := by decide +kernel
theorem d_MD_repeat_62 : decode b_MD_repeat 62 = .ok (.iconst 2, 1) := by decide +kernel
theorem d_MD_repeat_63 : decode b_MD_repeat 63 = .ok (.iadd, 1) := by decide +kernel
theorem d_MD_repeat_64 : decode b_MD_repeat 64 = .ok (.istore 6, 2) := by decide +kernel
theorem d_MD_repeat_66 : decode b_MD_repeat 66 = .ok (.iload 6, 2) := by decide +kernel
theorem d_MD_repeat_68 : decode b_MD_repeat 68 = .ok (.iload 4, 2) := by decide +kernel
theorem d_MD_repeat_70 : decode b_MD_repeat 70 = .ok (.iload_n 1, 1) := by decide +kernel
theorem d_MD_repeat_71 : decode b_MD_repeat 71 = .ok (.iadd, 1) := by decide +kernel
theorem d_MD_repeat_72 : decode b_MD_repeat 72 = .ok (.if_icmp .ge 23, 3) := by decide +kernel
theorem d_MD_repeat_75 : decode b_MD_repeat 75 = .ok (.iload 5, 2) := by decide +kernel
theorem d_MD_repeat_77 : decode b_MD_repeat 77 = .ok (.aload_n 0, 1) := by decide +kernel
theorem d_MD_repeat_78 : decode b_MD_repeat 78 = .ok (.getfield 60, 3) := by decide +kernel
theorem d_MD_repeat_81 : decode b_MD_repeat 81 = .ok (.iload 6, 2) := by decide +kernel
theorem d_MD_repeat_83 : decode b_MD_repeat 83 = .ok (.iaload, 1) := by decide +kernel
theorem d_MD_repeat_84 : decode b_MD_repeat 84 = .ok (.invokestatic 123, 3) := by decide +kernel
theorem d_MD_repeat_87 : decode b_MD_repeat 87 = .ok (.istore 5, 2) := by decide +kernel
theorem d_MD_repeat_89 : decode b_MD_repeat 89 = .ok (.iinc 6 1, 3) := by decide +kernel
theorem d_MD_repeat_92 : decode b_MD_repeat 92 = .ok (.goto (-26), 3) := by decide +kernel
theorem d_MD_repeat_95 : decode b_MD_repeat 95 = .ok (.iload 5, 2) := by decide +kernel
theorem d_MD_repeat_97 : decode b_MD_repeat 97 = .ok (.iload_n 2, 1) := by decide +kernel
theorem d_MD_repeat_98 : decode b_MD_repeat 98 = .ok (.if_icmp .le 14, 3) := by decide +kernel
theorem d_MD_repeat_101 : decode b_MD_repeat 101 = .ok (.iload 5, 2) := by decide +kernel
theorem d_MD_repeat_103 : decode b_MD_repeat 103 = .ok (.istore_n 2, 1) := by decide +kernel
theorem d_MD_repeat_104 : decode b_MD_repeat 104 = .ok (.aload_n 0, 1) := by decide +kernel
theorem d_MD_repeat_105 : decode b_MD_repeat 105 = .ok (.getfield 54, 3) := by decide +kernel
theorem d_MD_repeat_108 : decode b_MD_repeat 108 = .ok (.iload 4, 2) := by decide +kernel
theorem d_MD_repeat_110 : decode b_MD_repeat 110 = .ok (.iaload, 1) := by decide +kernel
theorem d_MD_repeat_111 : decode b_MD_repeat 111 = .ok (.istore_n 3, 1) := by decide +kernel
theorem d_MD_repeat_112 : decode b_MD_repeat 112 = .ok (.iinc 4 1, 3) := by decide +kernel
theorem d_MD_repeat_115 : decode b_MD_repeat 115 = .ok (.goto (-77), 3) := by decide +kernel
theorem d_MD_repeat_118 : decode b_MD_repeat 118 = .ok (.aload_n 0, 1) := by decide +kernel
theorem d_MD_repeat_119 : decode b_MD_repeat 119 = .ok (.iload_n 3, 1) := by decide +kernel
theorem d_MD_repeat_120 : decode b_MD_repeat 120 = .ok (.iload_n 2, 1) := by decide +kernel
theorem d_MD_repeat_121 : decode b_MD_repeat 121 = .ok (.invokevirtual 111, 3) := by decide +kernel
theorem d_MD_repeat_124 : decode b_MD_repeat 124 = .ok (.iload_n 2, 1) := by decide +kernel
theorem d_MD_repeat_125 : decode b_MD_repeat 125 = .ok (.ireturn, 1) := by decide +kernel
theorem d_MD_shared_0 : decode b_MD_shared 0 = .ok (.aload_n 0, 1) := by decide +kernel
theorem d_MD_shared_1 : decode b_MD_shared 1 = .ok (.iconst 0, 1) := by decide +kernel
theorem d_MD_shared_2 : decode b_MD_shared 2 = .ok (.putfield 7, 3) := by decide +kernel
theorem d_MD_shared_5 : decode b_MD_shared 5 = .ok (.aload_n 0, 1) := by decide +kernel
theorem d_MD_shared_6 : decode b_MD_shared 6 = .ok (.iconst 1, 1) := by decide +kernel
theorem d_MD_shared_7 : decode b_MD_shared 7 = .ok (.iload_n 1, 1) := by decide +kernel
theorem d_MD_shared_8 : decode b_MD_shared 8 = .ok (.iconst 2, 1) := by decide +kernel
theorem d_MD_shared_9 : decode b_MD_shared 9 = .ok (.if_icmp .lt 9, 3) := by decide +kernel
theorem d_MD_shared_12 : decode b_MD_shared 12 = .ok (.iload_n 1, 1) := by decide +kernel
theorem d_MD_shared_13 : decode b_MD_shared 13 = .ok (.bipush 64, 2) := by decide +kernel
theorem d_MD_shared_15 : decode b_MD_shared 15 = .ok (.if_icmp .le 7, 3) := by decide +kernel
theorem d_MD_shared_18 : decode b_MD_shared 18 = .ok (.iconst 1, 1) := by decide +kernel
theorem d_MD_shared_19 : decode b_MD_shared 19 = .ok (.goto 4, 3) := by decide +kernel
theorem d_MD_shared_22 : decode b_MD_shared 22 = .ok (.iconst 0, 1) := by decide +kernel
theorem d_MD_shared_23 : decode b_MD_shared 23 = .ok (.invokevirtual 79, 3) := by decide +kernel
theorem d_MD_shared_26 : decode b_MD_shared 26 = .ok (.ifCond .eq 5, 3) := by decide +kernel
theorem d_MD_shared_29 : decode b_MD_shared 29 = .ok (.iconst 0, 1) := by decide +kernel
theorem d_MD_shared_30 : decode b_MD_shared 30 = .ok (.ireturn, 1) := by decide +kernel
theorem d_MD_shared_31 : decode b_MD_shared 31 = .ok (.iconst 0, 1) := by decide +kernel
theorem d_MD_shared_32 : decode b_MD_shared 32 = .ok (.istore_n 2, 1) := by decide +kernel
theorem d_MD_shared_33 : decode b_MD_shared 33 = .ok (.iconst 0, 1) := by decide +kernel
theorem d_MD_shared_34 : decode b_MD_shared 34 = .ok (.istore_n 3, 1) := by decide +kernel
theorem d_MD_shared_35 : decode b_MD_shared 35 = .ok (.iconst 0, 1) := by decide +kernel
theorem d_MD_shared_36 : decode b_MD_shared 36 = .ok (.istore 4, 2) := by decide +kernel
theorem d_MD_shared_38 : decode b_MD_shared 38 = .ok (.iload 4, 2) := by decide +kernel
theorem d_MD_shared_40 : decode b_MD_shared 40 = .ok (.aload_n 0, 1) := by decide +kernel
theorem d_MD_shared_41 : decode b_MD_shared 41 = .ok (.getfield 41, 3) := by decide +kernel
theorem d_MD_shared_44 : decode b_MD_shared 44 = .ok (.if_icmp .ge 189, 3) := by decide +kernel
theorem d_MD_shared_47 : decode b_MD_shared 47 = .ok (.iconst 0, 1) := by decide +kernel
theorem d_MD_shared_48 : decode b_MD_shared 48 = .ok (.istore 5, 2) := by decide +kernel
theorem d_MD_shared_50 : decode b_MD_shared 50 = .ok (.iload 5, 2) := by decide +kernel
theorem d_MD_shared_52 : decode b_MD_shared 52 = .ok (.bipush 64, 2) := by decide +kernel
theorem d_MD_shared_54 : decode b_MD_shared 54 = .ok (.if_icmp .ge 17, 3) := by decide +kernel
theorem d_MD_shared_57 : decode b_MD_shared 57 = .ok (.aload_n 0, 1) := by decide +kernel
theorem d_MD_shared_58 : decode b_MD_shared 58 = .ok (.getfield 72, 3) := by decide +kernel
theorem d_MD_shared_61 : decode b_MD_shared 61 = .ok (.iload 5, 2) := by decide +kernel
theorem d_MD_shared_63 : decode b_MD_shared 63 = .ok (.iconst 0, 1) := by decide +kernel
theorem d_MD_shared_64 : decode b_MD_shared 64 = .ok (.bastore, 1) := by decide +kernel
theorem d_MD_shared_65 : decode b_MD_shared 65 = .ok (.iinc 5 1, 3) := by decide +kernel
theorem d_MD_shared_68 : decode b_MD_shared 68 = .ok (.goto (-18), 3) := by decide +kernel
theorem d_MD_shared_71 : decode b_MD_shared 71 = .ok (.aload_n 0, 1) := by decide +kernel
theorem d_MD_shared_72 : decode b_MD_shared 72 = .ok (.getfield 72, 3) := by decide +kernel
theorem d_MD_shared_75 : decode b_MD_shared 75 = .ok (.aload_n 0, 1) := by decide +kernel
theorem d_MD_shared_76 : decode b_MD_shared 76 = .ok (.getfield 51, 3) := by decide +kernel
theorem d_MD_shared_79 : decode b_MD_shared 79 = .ok (.aload_n 0, 1) := by decide +kernel
theorem d_MD_shared_80 : decode b_MD_shared 80 = .ok (.getfield 54, 3) := by decide +kernel
theorem d_MD_shared_83 : decode b_MD_shared 83 = .ok (.iload 4, 2) := by decide +kernel
theorem d_MD_shared_85 : decode b_MD_shared 85 = .ok (.iaload, 1) := by decide +kernel
theorem d_MD_shared_86 : decode b_MD_shared 86 = .ok (.iaload, 1) := by decide +kernel
theorem d_MD_shared_87 : decode b_MD_shared 87 = .ok (.iconst 1, 1) := by decide +kernel
theorem d_MD_shared_88 : decode b_MD_shared 88 = .ok (.bastore, 1) := by decide +kernel
theorem d_MD_shared_89 : decode b_MD_shared 89 = .ok (.iconst 1, 1) := by decide +kernel
theorem d_MD_shared_90 : decode b_MD_shared 90 = .ok (.istore 5, 2) := by decide +kernel
theorem d_MD_shared_92 : decode b_MD_shared 92 = .ok (.aload_n 0, 1) := by decide +kernel
theorem d_MD_shared_93 : decode b_MD_shared 93 = .ok (.aload_n 0, 1) := by decide +kernel
theorem d_MD_shared_94 : decode b_MD_shared 94 = .ok (.getfield 54, 3) := by decide +kernel
theorem d_MD_shared_97 : decode b_MD_shared 97 = .ok (.iload 4, 2) := by decide +kernel
theorem d_MD_shared_99 : decode b_MD_shared 99 = .ok (.iaload, 1) := by decide +kernel
theorem d_MD_shared_100 : decode b_MD_shared 100 = .ok (.invokevirtual 83, 3) := by decide +kernel
theorem d_MD_shared_103 : decode b_MD_shared 103 = .ok (.aload_n 0, 1) := by decide +kernel
theorem d_MD_shared_104 : decode b_MD_shared 104 = .ok (.getfield 54, 3) := by decide +kernel
theorem d_MD_shared_107 : decode b_MD_shared 107 = .ok (.iload 4, 2) := by decide +kernel
theorem d_MD_shared_109 : decode b_MD_shared 109 = .ok (.iaload, 1) := by decide +kernel
theorem d_MD_shared_110 : decode b_MD_shared 110 = .ok (.isub, 1) := by decide +kernel
theorem d_MD_shared_111 : decode b_MD_shared 111 = .ok (.istore 6, 2) := by decide +kernel
theorem d_MD_shared_113 : decode b_MD_shared 113 = .ok (.iload 4, 2) := by decide +kernel
theorem d_MD_shared_115 : decode b_MD_shared 115 = .ok (.iconst 1, 1) := by decide +kernel
theorem d_MD_shared_116 : decode b_MD_shared 116 = .ok (.iadd, 1) := by decide +kernel
theorem d_MD_shared_117 : decode b_MD_shared 117 = .ok (.istore 7, 2) := by decide +kernel
theorem d_MD_shared_119 : decode b_MD_shared 119 = .ok (.iload 7, 2) := by decide +kernel
theorem d_MD_shared_121 : decode b_MD_shared 121 = .ok (.aload_n 0, 1) := by decide +kernel
theorem d_MD_shared_122 : decode b_MD_shared 122 = .ok (.getfield 41, 3) := by decide +kernel
theorem d_MD_shared_125 : decode b_MD_shared 125 = .ok (.if_icmp .ge 102, 3) := by decide +kernel
theorem d_MD_shared_128 : decode b_MD_shared 128 = .ok (.iload 6, 2) := by decide +kernel
theorem d_MD_shared_130 : decode b_MD_shared 130 = .ok (.iload_n 2, 1) := by decide +kernel
theorem d_MD_shared_131 : decode b_MD_shared 131 = .ok (.if_icmp .le 96, 3) := by decide +kernel
theorem d_MD_shared_134 : decode b_MD_shared 134 = .ok (.iload 6, 2) := by decide +kernel
theorem d_MD_shared_136 : decode b_MD_shared 136 = .ok (.aload_n 0, 1) := by decide +kernel
theorem d_MD_shared_137 : decode b_MD_shared 137 = .ok (.getfield 60, 3) := by decide +kernel
theorem d_MD_shared_140 : decode b_MD_shared 140 = .ok (.iload 7, 2) := by decide +kernel
theorem d_MD_shared_142 : decode b_MD_shared 142 = .ok (.iaload, 1) := by decide +kernel
theorem d_MD_shared_143 : decode b_MD_shared 143 = .ok (.invokestatic 123, 3) := by decide +kernel
theorem d_MD_shared_146 : decode b_MD_shared 146 = .ok (.istore 6, 2) := by decide +kernel
theorem d_MD_shared_148 : decode b_MD_shared 148 = .ok (.iload 6, 2) := by decide +kernel
theorem d_MD_shared_150 : decode b_MD_shared 150 = .ok (.iload_n 2, 1) := by decide +kernel
theorem d_MD_shared_151 : decode b_MD_shared 151 = .ok (.if_icmp .gt 6, 3) := by decide +kernel
theorem d_MD_shared_154 : decode b_MD_shared 154 = .ok (.goto 73, 3) := by decide +kernel
theorem d_MD_shared_157 : decode b_MD_shared 157 = .ok (.aload_n 0, 1) := by decide +kernel
theorem d_MD_shared_158 : decode b_MD_shared 158 = .ok (.getfield 72, 3) := by decide +kernel
theorem d_MD_shared_161 : decode b_MD_shared 161 = .ok (.aload_n 0, 1) := by decide +kernel
theorem d_MD_shared_162 : decode b_MD_shared 162 = .ok (.getfield 51, 3) := by decide +kernel
theorem d_MD_shared_165 : decode b_MD_shared 165 = .ok (.aload_n 0, 1) := by decide +kernel
theorem d_MD_shared_166 : decode b_MD_shared 166 = .ok (.getfield 54, 3) := by decide +kernel
theorem d_MD_shared_169 : decode b_MD_shared 169 = .ok (.iload 7, 2) := by decide +kernel
theorem d_MD_shared_171 : decode b_MD_shared 171 = .ok (.iaload, 1) := by decide +kernel
theorem d_MD_shared_172 : decode b_MD_shared 172 = .ok (.iaload, 1) := by decide +kernel
theorem d_MD_shared_173 : decode b_MD_shared 173 = .ok (.baload, 1) := by decide +kernel
theorem d_MD_shared_174 : decode b_MD_shared 174 = .ok (.ifCond .eq 6, 3) := by decide +kernel
theorem d_MD_shared_177 : decode b_MD_shared 177 = .ok (.goto 44, 3) := by decide +kernel
theorem d_MD_shared_180 : decode b_MD_shared 180 = .ok (.aload_n 0, 1) := by decide +kernel
theorem d_MD_shared_181 : decode b_MD_shared 181 = .ok (.getfield 72, 3) := by decide +kernel
theorem d_MD_shared_184 : decode b_MD_shared 184 = .ok (.aload_n 0, 1) := by decide +kernel
theorem d_MD_shared_185 : decode b_MD_shared 185 = .ok (.getfield 51, 3) := by decide +kernel
theorem d_MD_shared_188 : decode b_MD_shared 188 = .ok (.aload_n 0, 1) := by decide +kernel
theorem d_MD_shared_189 : decode b_MD_shared 189 = .ok (.getfield 54, 3) := by decide +kernel
theorem d_MD_shared_192 : decode b_MD_shared 192 = .ok (.iload 7, 2) := by decide +kernel
theorem d_MD_shared_194 : decode b_MD_shared 194 = .ok (.iaload, 1) := by decide +kernel
theorem d_MD_shared_195 : decode b_MD_shared 195 = .ok (.iaload, 1) := by decide +kernel
theorem d_MD_shared_196 : decode b_MD_shared 196 = .ok (.iconst 1, 1) := by decide +kernel
theorem d_MD_shared_197 : decode b_MD_shared 197 = .ok (.bastore, 1) := by decide +kernel
theorem d_MD_shared_198 : decode b_MD_shared 198 = .ok (.iinc 5 1, 3) := by decide +kernel
theorem d_MD_shared_201 : decode b_MD_shared 201 = .ok (.iload 5, 2) := by decide +kernel
theorem d_MD_shared_203 : decode b_MD_shared 203 = .ok (.iload_n 1, 1) := by decide +kernel
theorem d_MD_shared_204 : decode b_MD_shared 204 = .ok (.if_icmp .ge 6, 3) := by decide +kernel
theorem d_MD_shared_207 : decode b_MD_shared 207 = .ok (.goto 14, 3) := by decide +kernel
theorem d_MD_shared_210 : decode b_MD_shared 210 = .ok (.iload 6, 2) := by decide +kernel
theorem d_MD_shared_212 : decode b_MD_shared 212 = .ok (.istore_n 2, 1) := by decide +kernel
theorem d_MD_shared_213 : decode b_MD_shared 213 = .ok (.aload_n 0, 1) := by decide +kernel
theorem d_MD_shared_214 : decode b_MD_shared 214 = .ok (.getfield 54, 3) := by decide +kernel
theorem d_MD_shared_217 : decode b_MD_shared 217 = .ok (.iload 4, 2) := by decide +kernel
theorem d_MD_shared_219 : decode b_MD_shared 219 = .ok (.iaload, 1) := by decide +kernel
theorem d_MD_shared_220 : decode b_MD_shared 220 = .ok (.istore_n 3, 1) := by decide +kernel
theorem d_MD_shared_221 : decode b_MD_shared 221 = .ok (.iinc 7 1, 3) := by decide +kernel
theorem d_MD_shared_224 : decode b_MD_shared 224 = .ok (.goto (-105), 3) := by decide +kernel
theorem d_MD_shared_227 : decode b_MD_shared 227 = .ok (.iinc 4 1, 3) := by decide +kernel
theorem d_MD_shared_230 : decode b_MD_shared 230 = .ok (.goto (-192), 3) := by decide +kernel
theorem d_MD_shared_233 : decode b_MD_shared 233 = .ok (.aload_n 0, 1) := by decide +kernel
theorem d_MD_shared_234 : decode b_MD_shared 234 = .ok (.iload_n 3, 1) := by decide +kernel
theorem d_MD_shared_235 : decode b_MD_shared 235 = .ok (.iload_n 2, 1) := by decide +kernel
theorem d_MD_shared_236 : decode b_MD_shared 236 = .ok (.invokevirtual 111, 3) := by decide +kernel
theorem d_MD_shared_239 : decode b_MD_shared 239 = .ok (.iload_n 2, 1) := by decide +kernel
theorem d_MD_shared_240 : decode b_MD_shared 240 = .ok (.ireturn, 1) := by decide +kernel
theorem d_MD_pieces_0 : decode b_MD_pieces 0 = .ok (.aload_n 0, 1) := by decide +kernel
theorem d_MD_pieces_1 : decode b_MD_pieces 1 = .ok (.iconst 0, 1) := by decide +kernel
theorem d_MD_pieces_2 : decode b_MD_pieces 2 = .ok (.putfield 7, 3) := by decide +kernel
theorem d_MD_pieces_5 : decode b_MD_pieces 5 = .ok (.lconst 0, 1) := by decide +kernel
theorem d_MD_pieces_6 : decode b_MD_pieces 6 = .ok (.lstore_n 1, 1) := by decide +kernel
theorem d_MD_pieces_7 : decode b_MD_pieces 7 = .ok (.iconst 0, 1) := by decide +kernel
theorem d_MD_pieces_8 : decode b_MD_pieces 8 = .ok (.istore_n 3, 1) := by decide +kernel
theorem d_MD_pieces_9 : decode b_MD_pieces 9 = .ok (.iload_n 3, 1) := by decide +kernel
theorem d_MD_pieces_10 : decode b_MD_pieces 10 = .ok (.aload_n 0, 1) := by decide +kernel
theorem d_MD_pieces_11 : decode b_MD_pieces 11 = .ok (.getfield 41, 3) := by decide +kernel
theorem d_MD_pieces_14 : decode b_MD_pieces 14 = .ok (.if_icmp .ge 37, 3) := by decide +kernel
theorem d_MD_pieces_17 : decode b_MD_pieces 17 = .ok (.lload_n 1, 1) := by decide +kernel
theorem d_MD_pieces_18 : decode b_MD_pieces 18 = .ok (.aload_n 0, 1) := by decide +kernel
theorem d_MD_pieces_19 : decode b_MD_pieces 19 = .ok (.aload_n 0, 1) := by decide +kernel
theorem d_MD_pieces_20 : decode b_MD_pieces 20 = .ok (.getfield 54, 3) := by decide +kernel
theorem d_MD_pieces_23 : decode b_MD_pieces 23 = .ok (.iload_n 3, 1) := by decide +kernel
theorem d_MD_pieces_24 : decode b_MD_pieces 24 = .ok (.iaload, 1) := by decide +kernel
theorem d_MD_pieces_25 : decode b_MD_pieces 25 = .ok (.invokevirtual 83, 3) := by decide +kernel
theorem d_MD_pieces_28 : decode b_MD_pieces 28 = .ok (.aload_n 0, 1) := by decide +kernel
theorem d_MD_pieces_29 : decode b_MD_pieces 29 = .ok (.getfield 54, 3) := by decide +kernel
theorem d_MD_pieces_32 : decode b_MD_pieces 32 = .ok (.iload_n 3, 1) := by decide +kernel
theorem d_MD_pieces_33 : decode b_MD_pieces 33 = .ok (.iaload, 1) := by decide +kernel
theorem d_MD_pieces_34 : decode b_MD_pieces 34 = .ok (.isub, 1) := by decide +kernel
theorem d_MD_pieces_35 : decode b_MD_pieces 35 = .ok (.aload_n 0, 1) := by decide +kernel
theorem d_MD_pieces_36 : decode b_MD_pieces 36 = .ok (.getfield 60, 3) := by decide +kernel
theorem d_MD_pieces_39 : decode b_MD_pieces 39 = .ok (.iload_n 3, 1) := by decide +kernel
theorem d_MD_pieces_40 : decode b_MD_pieces 40 = .ok (.iaload, 1) := by decide +kernel
theorem d_MD_pieces_41 : decode b_MD_pieces 41 = .ok (.isub, 1) := by decide +kernel
theorem d_MD_pieces_42 : decode b_MD_pieces 42 = .ok (.i2l, 1) := by decide +kernel
theorem d_MD_pieces_43 : decode b_MD_pieces 43 = .ok (.ladd, 1) := by decide +kernel
theorem d_MD_pieces_44 : decode b_MD_pieces 44 = .ok (.lstore_n 1, 1) := by decide +kernel
theorem d_MD_pieces_45 : decode b_MD_pieces 45 = .ok (.iinc 3 1, 3) := by decide +kernel
theorem d_MD_pieces_48 : decode b_MD_pieces 48 = .ok (.goto (-39), 3) := by decide +kernel
theorem d_MD_pieces_51 : decode b_MD_pieces 51 = .ok (.lload_n 1, 1) := by decide +kernel
theorem d_MD_pieces_52 : decode b_MD_pieces 52 = .ok (.lreturn, 1) := by decide +kernel
theorem d_MD_piece_0 : decode b_MD_piece 0 = .ok (.aload_n 0, 1) := by decide +kernel
theorem d_MD_piece_1 : decode b_MD_piece 1 = .ok (.iconst 0, 1) := by decide +kernel
theorem d_MD_piece_2 : decode b_MD_piece 2 = .ok (.putfield 7, 3) := by decide +kernel
theorem d_MD_piece_5 : decode b_MD_piece 5 = .ok (.lload_n 1, 1) := by decide +kernel
theorem d_MD_piece_6 : decode b_MD_piece 6 = .ok (.lstore_n 3, 1) := by decide +kernel
theorem d_MD_piece_7 : decode b_MD_piece 7 = .ok (.iconst 0, 1) := by decide +kernel
theorem d_MD_piece_8 : decode b_MD_piece 8 = .ok (.istore 5, 2) := by decide +kernel
theorem d_MD_piece_10 : decode b_MD_piece 10 = .ok (.iload 5, 2) := by decide +kernel
theorem d_MD_piece_12 : decode b_MD_piece 12 = .ok (.aload_n 0, 1) := by decide +kernel
theorem d_MD_piece_13 : decode b_MD_piece 13 = .ok (.getfield 41, 3) := by decide +kernel
theorem d_MD_piece_16 : decode b_MD_piece 16 = .ok (.if_icmp .ge 86, 3) := by decide +kernel
theorem d_MD_piece_19 : decode b_MD_piece 19 = .ok (.lload_n 1, 1) := by decide +kernel
theorem d_MD_piece_20 : decode b_MD_piece 20 = .ok (.lconst 0, 1) := by decide +kernel
theorem d_MD_piece_21 : decode b_MD_piece 21 = .ok (.lcmp, 1) := by decide +kernel
theorem d_MD_piece_22 : decode b_MD_piece 22 = .ok (.ifCond .lt 80, 3) := by decide +kernel
theorem d_MD_piece_25 : decode b_MD_piece 25 = .ok (.aload_n 0, 1) := by decide +kernel
theorem d_MD_piece_26 : decode b_MD_piece 26 = .ok (.aload_n 0, 1) := by decide +kernel
theorem d_MD_piece_27 : decode b_MD_piece 27 = .ok (.getfield 54, 3) := by decide +kernel
theorem d_MD_piece_30 : decode b_MD_piece 30 = .ok (.iload 5, 2) := by decide +kernel
theorem d_MD_piece_32 : decode b_MD_piece 32 = .ok (.iaload, 1) := by decide +kernel
theorem d_MD_piece_33 : decode b_MD_piece 33 = .ok (.invokevirtual 83, 3) := by decide +kernel
theorem d_MD_piece_36 : decode b_MD_piece 36 = .ok (.aload_n 0, 1) := by decide +kernel
theorem d_MD_piece_37 : decode b_MD_piece 37 = .ok (.getfield 54, 3) := by decide +kernel
theorem d_MD_piece_40 : decode b_MD_piece 40 = .ok (.iload 5, 2) := by decide +kernel
theorem d_MD_piece_42 : decode b_MD_piece 42 = .ok (.iaload, 1) := by decide +kernel
theorem d_MD_piece_43 : decode b_MD_piece 43 = .ok (.isub, 1) := by decide +kernel
theorem d_MD_piece_44 : decode b_MD_piece 44 = .ok (.aload_n 0, 1) := by decide +kernel
theorem d_MD_piece_45 : decode b_MD_piece 45 = .ok (.getfield 60, 3) := by decide +kernel
theorem d_MD_piece_48 : decode b_MD_piece 48 = .ok (.iload 5, 2) := by decide +kernel
theorem d_MD_piece_50 : decode b_MD_piece 50 = .ok (.iaload, 1) := by decide +kernel
theorem d_MD_piece_51 : decode b_MD_piece 51 = .ok (.isub, 1) := by decide +kernel
theorem d_MD_piece_52 : decode b_MD_piece 52 = .ok (.istore 6, 2) := by decide +kernel
theorem d_MD_piece_54 : decode b_MD_piece 54 = .ok (.lload_n 3, 1) := by decide +kernel
theorem d_MD_piece_55 : decode b_MD_piece 55 = .ok (.iload 6, 2) := by decide +kernel
theorem d_MD_piece_57 : decode b_MD_piece 57 = .ok (.i2l, 1) := by decide +kernel
theorem d_MD_piece_58 : decode b_MD_piece 58 = .ok (.lcmp, 1) := by decide +kernel
theorem d_MD_piece_59 : decode b_MD_piece 59 = .ok (.ifCond .ge 31, 3) := by decide +kernel
theorem d_MD_piece_62 : decode b_MD_piece 62 = .ok (.aload_n 0, 1) := by decide +kernel
theorem d_MD_piece_63 : decode b_MD_piece 63 = .ok (.aload_n 0, 1) := by decide +kernel
theorem d_MD_piece_64 : decode b_MD_piece 64 = .ok (.getfield 54, 3) := by decide +kernel
theorem d_MD_piece_67 : decode b_MD_piece 67 = .ok (.iload 5, 2) := by decide +kernel
theorem d_MD_piece_69 : decode b_MD_piece 69 = .ok (.iaload, 1) := by decide +kernel
theorem d_MD_piece_70 : decode b_MD_piece 70 = .ok (.aload_n 0, 1) := by decide +kernel
theorem d_MD_piece_71 : decode b_MD_piece 71 = .ok (.getfield 60, 3) := by decide +kernel
theorem d_MD_piece_74 : decode b_MD_piece 74 = .ok (.iload 5, 2) := by decide +kernel
theorem d_MD_piece_76 : decode b_MD_piece 76 = .ok (.iaload, 1) := by decide +kernel
theorem d_MD_piece_77 : decode b_MD_piece 77 = .ok (.iconst 1, 1) := by decide +kernel
theorem d_MD_piece_78 : decode b_MD_piece 78 = .ok (.iadd, 1) := by decide +kernel
theorem d_MD_piece_79 : decode b_MD_piece 79 = .ok (.lload_n 3, 1) := by decide +kernel
theorem d_MD_piece_80 : decode b_MD_piece 80 = .ok (.l2i, 1) := by decide +kernel
theorem d_MD_piece_81 : decode b_MD_piece 81 = .ok (.iadd, 1) := by decide +kernel
theorem d_MD_piece_82 : decode b_MD_piece 82 = .ok (.invokevirtual 111, 3) := by decide +kernel
theorem d_MD_piece_85 : decode b_MD_piece 85 = .ok (.aload_n 0, 1) := by decide +kernel
theorem d_MD_piece_86 : decode b_MD_piece 86 = .ok (.getfield 29, 3) := by decide +kernel
theorem d_MD_piece_89 : decode b_MD_piece 89 = .ok (.ireturn, 1) := by decide +kernel
theorem d_MD_piece_90 : decode b_MD_piece 90 = .ok (.lload_n 3, 1) := by decide +kernel
theorem d_MD_piece_91 : decode b_MD_piece 91 = .ok (.iload 6, 2) := by decide +kernel
theorem d_MD_piece_93 : decode b_MD_piece 93 = .ok (.i2l, 1) := by decide +kernel
theorem d_MD_piece_94 : decode b_MD_piece 94 = .ok (.lsub, 1) := by decide +kernel
theorem d_MD_piece_95 : decode b_MD_piece 95 = .ok (.lstore_n 3, 1) := by decide +kernel
theorem d_MD_piece_96 : decode b_MD_piece 96 = .ok (.iinc 5 1, 3) := by decide +kernel
theorem d_MD_piece_99 : decode b_MD_piece 99 = .ok (.goto (-89), 3) := by decide +kernel
theorem d_MD_piece_102 : decode b_MD_piece 102 = .ok (.aload_n 0, 1) := by decide +kernel
theorem d_MD_piece_103 : decode b_MD_piece 103 = .ok (.iconst 1, 1) := by decide +kernel
theorem d_MD_piece_104 : decode b_MD_piece 104 = .ok (.iconst 1, 1) := by decide +kernel
theorem d_MD_piece_105 : decode b_MD_piece 105 = .ok (.invokevirtual 79, 3) := by decide +kernel
theorem d_MD_piece_108 : decode b_MD_piece 108 = .ok (.pop, 1) := by decide +kernel
theorem d_MD_piece_109 : decode b_MD_piece 109 = .ok (.iconst 0, 1) := by decide +kernel
theorem d_MD_piece_110 : decode b_MD_piece 110 = .ok (.ireturn, 1) := by decide +kernel
theorem d_MD_noDocument_0 : decode b_MD_noDocument 0 = .ok (.aload_n 0, 1) := by decide +kernel
theorem d_MD_noDocument_1 : decode b_MD_noDocument 1 = .ok (.iconst 0, 1) := by decide +kernel
theorem d_MD_noDocument_2 : decode b_MD_noDocument 2 = .ok (.putfield 7, 3) := by decide +kernel
theorem d_MD_noDocument_5 : decode b_MD_noDocument 5 = .ok (.aload_n 0, 1) := by decide +kernel
theorem d_MD_noDocument_6 : decode b_MD_noDocument 6 = .ok (.iconst 1, 1) := by decide +kernel
theorem d_MD_noDocument_7 : decode b_MD_noDocument 7 = .ok (.iload_n 1, 1) := by decide +kernel
theorem d_MD_noDocument_8 : decode b_MD_noDocument 8 = .ok (.ifCond .lt 11, 3) := by decide +kernel
theorem d_MD_noDocument_11 : decode b_MD_noDocument 11 = .ok (.iload_n 1, 1) := by decide +kernel
theorem d_MD_noDocument_12 : decode b_MD_noDocument 12 = .ok (.aload_n 0, 1) := by decide +kernel
theorem d_MD_noDocument_13 : decode b_MD_noDocument 13 = .ok (.getfield 38, 3) := by decide +kernel
theorem d_MD_noDocument_16 : decode b_MD_noDocument 16 = .ok (.if_icmp .lt 7, 3) := by decide +kernel
theorem d_MD_noDocument_19 : decode b_MD_noDocument 19 = .ok (.iconst 1, 1) := by decide +kernel
theorem d_MD_noDocument_20 : decode b_MD_noDocument 20 = .ok (.goto 4, 3) := by decide +kernel
theorem d_MD_noDocument_23 : decode b_MD_noDocument 23 = .ok (.iconst 0, 1) := by decide +kernel
theorem d_MD_noDocument_24 : decode b_MD_noDocument 24 = .ok (.invokevirtual 79, 3) := by decide +kernel
theorem d_MD_noDocument_27 : decode b_MD_noDocument 27 = .ok (.ireturn, 1) := by decide +kernel
theorem d_MD_single_0 : decode b_MD_single 0 = .ok (.aload_n 0, 1) := by decide +kernel
theorem d_MD_single_1 : decode b_MD_single 1 = .ok (.iload_n 1, 1) := by decide +kernel
theorem d_MD_single_2 : decode b_MD_single 2 = .ok (.invokevirtual 126, 3) := by decide +kernel
theorem d_MD_single_5 : decode b_MD_single 5 = .ok (.ifCond .eq 5, 3) := by decide +kernel
theorem d_MD_single_8 : decode b_MD_single 8 = .ok (.iconst 0, 1) := by decide +kernel
theorem d_MD_single_9 : decode b_MD_single 9 = .ok (.ireturn, 1) := by decide +kernel
theorem d_MD_single_10 : decode b_MD_single 10 = .ok (.iconst 0, 1) := by decide +kernel
theorem d_MD_single_11 : decode b_MD_single 11 = .ok (.istore_n 2, 1) := by decide +kernel
theorem d_MD_single_12 : decode b_MD_single 12 = .ok (.iconst 0, 1) := by decide +kernel
theorem d_MD_single_13 : decode b_MD_single 13 = .ok (.istore_n 3, 1) := by decide +kernel
theorem d_MD_single_14 : decode b_MD_single 14 = .ok (.aload_n 0, 1) := by decide +kernel
theorem d_MD_single_15 : decode b_MD_single 15 = .ok (.getfield 47, 3) := by decide +kernel
theorem d_MD_single_18 : decode b_MD_single 18 = .ok (.iload_n 1, 1) := by decide +kernel
theorem d_MD_single_19 : decode b_MD_single 19 = .ok (.iaload, 1) := by decide +kernel
theorem d_MD_single_20 : decode b_MD_single 20 = .ok (.istore 4, 2) := by decide +kernel
theorem d_MD_single_22 : decode b_MD_single 22 = .ok (.iload 4, 2) := by decide +kernel
theorem d_MD_single_24 : decode b_MD_single 24 = .ok (.aload_n 0, 1) := by decide +kernel
theorem d_MD_single_25 : decode b_MD_single 25 = .ok (.getfield 47, 3) := by decide +kernel
theorem d_MD_single_28 : decode b_MD_single 28 = .ok (.iload_n 1, 1) := by decide +kernel
theorem d_MD_single_29 : decode b_MD_single 29 = .ok (.iconst 1, 1) := by decide +kernel
theorem d_MD_single_30 : decode b_MD_single 30 = .ok (.iadd, 1) := by decide +kernel
theorem d_MD_single_31 : decode b_MD_single 31 = .ok (.iaload, 1) := by decide +kernel
theorem d_MD_single_32 : decode b_MD_single 32 = .ok (.if_icmp .ge 91, 3) := by decide +kernel
theorem d_MD_single_35 : decode b_MD_single 35 = .ok (.aload_n 0, 1) := by decide +kernel
theorem d_MD_single_36 : decode b_MD_single 36 = .ok (.getfield 57, 3) := by decide +kernel
theorem d_MD_single_39 : decode b_MD_single 39 = .ok (.iload 4, 2) := by decide +kernel
theorem d_MD_single_41 : decode b_MD_single 41 = .ok (.iaload, 1) := by decide +kernel
theorem d_MD_single_42 : decode b_MD_single 42 = .ok (.istore 5, 2) := by decide +kernel
theorem d_MD_single_44 : decode b_MD_single 44 = .ok (.iconst 1, 1) := by decide +kernel
theorem d_MD_single_45 : decode b_MD_single 45 = .ok (.aload_n 0, 1) := by decide +kernel
theorem d_MD_single_46 : decode b_MD_single 46 = .ok (.getfield 60, 3) := by decide +kernel
theorem d_MD_single_49 : decode b_MD_single 49 = .ok (.iload 5, 2) := by decide +kernel
theorem d_MD_single_51 : decode b_MD_single 51 = .ok (.iaload, 1) := by decide +kernel
theorem d_MD_single_52 : decode b_MD_single 52 = .ok (.iload 5, 2) := by decide +kernel
theorem d_MD_single_54 : decode b_MD_single 54 = .ok (.iconst 1, 1) := by decide +kernel
theorem d_MD_single_55 : decode b_MD_single 55 = .ok (.iadd, 1) := by decide +kernel
theorem d_MD_single_56 : decode b_MD_single 56 = .ok (.aload_n 0, 1) := by decide +kernel
theorem d_MD_single_57 : decode b_MD_single 57 = .ok (.getfield 41, 3) := by decide +kernel
theorem d_MD_single_60 : decode b_MD_single 60 = .ok (.if_icmp .ge 15, 3) := by decide +kernel
theorem d_MD_single_63 : decode b_MD_single 63 = .ok (.aload_n 0, 1) := by decide +kernel
theorem d_MD_single_64 : decode b_MD_single 64 = .ok (.getfield 60, 3) := by decide +kernel
theorem d_MD_single_67 : decode b_MD_single 67 = .ok (.iload 5, 2) := by decide +kernel
theorem d_MD_single_69 : decode b_MD_single 69 = .ok (.iconst 1, 1) := by decide +kernel
theorem d_MD_single_70 : decode b_MD_single 70 = .ok (.iadd, 1) := by decide +kernel
theorem d_MD_single_71 : decode b_MD_single 71 = .ok (.iaload, 1) := by decide +kernel
theorem d_MD_single_72 : decode b_MD_single 72 = .ok (.goto 4, 3) := by decide +kernel
theorem d_MD_single_75 : decode b_MD_single 75 = .ok (.iconst 0, 1) := by decide +kernel
theorem d_MD_single_76 : decode b_MD_single 76 = .ok (.invokestatic 115, 3) := by decide +kernel
theorem d_MD_single_79 : decode b_MD_single 79 = .ok (.iadd, 1) := by decide +kernel
theorem d_MD_single_80 : decode b_MD_single 80 = .ok (.istore 6, 2) := by decide +kernel
theorem d_MD_single_82 : decode b_MD_single 82 = .ok (.iload 4, 2) := by decide +kernel
theorem d_MD_single_84 : decode b_MD_single 84 = .ok (.iload 6, 2) := by decide +kernel
theorem d_MD_single_86 : decode b_MD_single 86 = .ok (.iadd, 1) := by decide +kernel
theorem d_MD_single_87 : decode b_MD_single 87 = .ok (.aload_n 0, 1) := by decide +kernel
theorem d_MD_single_88 : decode b_MD_single 88 = .ok (.getfield 47, 3) := by decide +kernel
theorem d_MD_single_91 : decode b_MD_single 91 = .ok (.iload_n 1, 1) := by decide +kernel
theorem d_MD_single_92 : decode b_MD_single 92 = .ok (.iconst 1, 1) := by decide +kernel
theorem d_MD_single_93 : decode b_MD_single 93 = .ok (.iadd, 1) := by decide +kernel
theorem d_MD_single_94 : decode b_MD_single 94 = .ok (.iaload, 1) := by decide +kernel
theorem d_MD_single_95 : decode b_MD_single 95 = .ok (.if_icmp .gt 22, 3) := by decide +kernel
theorem d_MD_single_98 : decode b_MD_single 98 = .ok (.iload_n 2, 1) := by decide +kernel
theorem d_MD_single_99 : decode b_MD_single 99 = .ok (.ifCond .le 12, 3) := by decide +kernel
theorem d_MD_single_102 : decode b_MD_single 102 = .ok (.iload 6, 2) := by decide +kernel
theorem d_MD_single_104 : decode b_MD_single 104 = .ok (.iload_n 2, 1) := by decide +kernel
theorem d_MD_single_105 : decode b_MD_single 105 = .ok (.if_icmp .lt 6, 3) := by decide +kernel
theorem d_MD_single_108 : decode b_MD_single 108 = .ok (.goto 9, 3) := by decide +kernel
theorem d_MD_single_111 : decode b_MD_single 111 = .ok (.iload 6, 2) := by decide +kernel
theorem d_MD_single_113 : decode b_MD_single 113 = .ok (.istore_n 2, 1) := by decide +kernel
theorem d_MD_single_114 : decode b_MD_single 114 = .ok (.iload 4, 2) := by decide +kernel
theorem d_MD_single_116 : decode b_MD_single 116 = .ok (.istore_n 3, 1) := by decide +kernel
theorem d_MD_single_117 : decode b_MD_single 117 = .ok (.iinc 4 1, 3) := by decide +kernel
theorem d_MD_single_120 : decode b_MD_single 120 = .ok (.goto (-98), 3) := by decide +kernel
theorem d_MD_single_123 : decode b_MD_single 123 = .ok (.aload_n 0, 1) := by decide +kernel
theorem d_MD_single_124 : decode b_MD_single 124 = .ok (.iload_n 3, 1) := by decide +kernel
theorem d_MD_single_125 : decode b_MD_single 125 = .ok (.iload_n 2, 1) := by decide +kernel
theorem d_MD_single_126 : decode b_MD_single 126 = .ok (.invokevirtual 111, 3) := by decide +kernel
theorem d_MD_single_129 : decode b_MD_single 129 = .ok (.iload_n 2, 1) := by decide +kernel
theorem d_MD_single_130 : decode b_MD_single 130 = .ok (.ireturn, 1) := by decide +kernel
theorem d_MD_phraseAt_0 : decode b_MD_phraseAt 0 = .ok (.iconst 0, 1) := by decide +kernel
theorem d_MD_phraseAt_1 : decode b_MD_phraseAt 1 = .ok (.istore_n 3, 1) := by decide +kernel
theorem d_MD_phraseAt_2 : decode b_MD_phraseAt 2 = .ok (.aload_n 0, 1) := by decide +kernel
theorem d_MD_phraseAt_3 : decode b_MD_phraseAt 3 = .ok (.iconst (-1), 1) := by decide +kernel
theorem d_MD_phraseAt_4 : decode b_MD_phraseAt 4 = .ok (.putfield 76, 3) := by decide +kernel
theorem d_MD_phraseAt_7 : decode b_MD_phraseAt 7 = .ok (.aload_n 0, 1) := by decide +kernel
theorem d_MD_phraseAt_8 : decode b_MD_phraseAt 8 = .ok (.getfield 47, 3) := by decide +kernel
theorem d_MD_phraseAt_11 : decode b_MD_phraseAt 11 = .ok (.iload_n 1, 1) := by decide +kernel
theorem d_MD_phraseAt_12 : decode b_MD_phraseAt 12 = .ok (.iaload, 1) := by decide +kernel
theorem d_MD_phraseAt_13 : decode b_MD_phraseAt 13 = .ok (.istore 4, 2) := by decide +kernel
theorem d_MD_phraseAt_15 : decode b_MD_phraseAt 15 = .ok (.iload 4, 2) := by decide +kernel
theorem d_MD_phraseAt_17 : decode b_MD_phraseAt 17 = .ok (.iload_n 2, 1) := by decide +kernel
theorem d_MD_phraseAt_18 : decode b_MD_phraseAt 18 = .ok (.if_icmp .ge 41, 3) := by decide +kernel
theorem d_MD_phraseAt_21 : decode b_MD_phraseAt 21 = .ok (.aload_n 0, 1) := by decide +kernel
theorem d_MD_phraseAt_22 : decode b_MD_phraseAt 22 = .ok (.iload 4, 2) := by decide +kernel
theorem d_MD_phraseAt_24 : decode b_MD_phraseAt 24 = .ok (.iload_n 2, 1) := by decide +kernel
theorem d_MD_phraseAt_25 : decode b_MD_phraseAt 25 = .ok (.invokevirtual 99, 3) := by decide +kernel
theorem d_MD_phraseAt_28 : decode b_MD_phraseAt 28 = .ok (.istore 5, 2) := by decide +kernel
theorem d_MD_phraseAt_30 : decode b_MD_phraseAt 30 = .ok (.iload 5, 2) := by decide +kernel
theorem d_MD_phraseAt_32 : decode b_MD_phraseAt 32 = .ok (.ifCond .eq 21, 3) := by decide +kernel
theorem d_MD_phraseAt_35 : decode b_MD_phraseAt 35 = .ok (.iload 5, 2) := by decide +kernel
theorem d_MD_phraseAt_37 : decode b_MD_phraseAt 37 = .ok (.iload_n 3, 1) := by decide +kernel
theorem d_MD_phraseAt_38 : decode b_MD_phraseAt 38 = .ok (.if_icmp .ge 6, 3) := by decide +kernel
theorem d_MD_phraseAt_41 : decode b_MD_phraseAt 41 = .ok (.goto 12, 3) := by decide +kernel
theorem d_MD_phraseAt_44 : decode b_MD_phraseAt 44 = .ok (.iload 5, 2) := by decide +kernel
theorem d_MD_phraseAt_46 : decode b_MD_phraseAt 46 = .ok (.istore_n 3, 1) := by decide +kernel
theorem d_MD_phraseAt_47 : decode b_MD_phraseAt 47 = .ok (.aload_n 0, 1) := by decide +kernel
theorem d_MD_phraseAt_48 : decode b_MD_phraseAt 48 = .ok (.iload 4, 2) := by decide +kernel
theorem d_MD_phraseAt_50 : decode b_MD_phraseAt 50 = .ok (.putfield 76, 3) := by decide +kernel
theorem d_MD_phraseAt_53 : decode b_MD_phraseAt 53 = .ok (.iinc 4 1, 3) := by decide +kernel
theorem d_MD_phraseAt_56 : decode b_MD_phraseAt 56 = .ok (.goto (-41), 3) := by decide +kernel
theorem d_MD_phraseAt_59 : decode b_MD_phraseAt 59 = .ok (.iconst 1, 1) := by decide +kernel
theorem d_MD_phraseAt_60 : decode b_MD_phraseAt 60 = .ok (.iload_n 3, 1) := by decide +kernel
theorem d_MD_phraseAt_61 : decode b_MD_phraseAt 61 = .ok (.invokestatic 115, 3) := by decide +kernel
theorem d_MD_phraseAt_64 : decode b_MD_phraseAt 64 = .ok (.ireturn, 1) := by decide +kernel
theorem d_MD_phrases_0 : decode b_MD_phrases 0 = .ok (.aload_n 0, 1) := by decide +kernel
theorem d_MD_phrases_1 : decode b_MD_phrases 1 = .ok (.iload_n 1, 1) := by decide +kernel
theorem d_MD_phrases_2 : decode b_MD_phrases 2 = .ok (.invokevirtual 126, 3) := by decide +kernel
theorem d_MD_phrases_5 : decode b_MD_phrases 5 = .ok (.ifCond .eq 5, 3) := by decide +kernel
theorem d_MD_phrases_8 : decode b_MD_phrases 8 = .ok (.iconst 0, 1) := by decide +kernel
theorem d_MD_phrases_9 : decode b_MD_phrases 9 = .ok (.ireturn, 1) := by decide +kernel
theorem d_MD_phrases_10 : decode b_MD_phrases 10 = .ok (.iconst 0, 1) := by decide +kernel
theorem d_MD_phrases_11 : decode b_MD_phrases 11 = .ok (.istore_n 2, 1) := by decide +kernel
theorem d_MD_phrases_12 : decode b_MD_phrases 12 = .ok (.aload_n 0, 1) := by decide +kernel
theorem d_MD_phrases_13 : decode b_MD_phrases 13 = .ok (.getfield 47, 3) := by decide +kernel
theorem d_MD_phrases_16 : decode b_MD_phrases 16 = .ok (.iload_n 1, 1) := by decide +kernel
theorem d_MD_phrases_17 : decode b_MD_phrases 17 = .ok (.iaload, 1) := by decide +kernel
theorem d_MD_phrases_18 : decode b_MD_phrases 18 = .ok (.istore_n 3, 1) := by decide +kernel
theorem d_MD_phrases_19 : decode b_MD_phrases 19 = .ok (.iload_n 3, 1) := by decide +kernel
theorem d_MD_phrases_20 : decode b_MD_phrases 20 = .ok (.aload_n 0, 1) := by decide +kernel
theorem d_MD_phrases_21 : decode b_MD_phrases 21 = .ok (.getfield 47, 3) := by decide +kernel
theorem d_MD_phrases_24 : decode b_MD_phrases 24 = .ok (.iload_n 1, 1) := by decide +kernel
theorem d_MD_phrases_25 : decode b_MD_phrases 25 = .ok (.iconst 1, 1) := by decide +kernel
theorem d_MD_phrases_26 : decode b_MD_phrases 26 = .ok (.iadd, 1) := by decide +kernel
theorem d_MD_phrases_27 : decode b_MD_phrases 27 = .ok (.iaload, 1) := by decide +kernel
theorem d_MD_phrases_28 : decode b_MD_phrases 28 = .ok (.if_icmp .ge 18, 3) := by decide +kernel
theorem d_MD_phrases_31 : decode b_MD_phrases 31 = .ok (.iinc 2 1, 3) := by decide +kernel
theorem d_MD_phrases_34 : decode b_MD_phrases 34 = .ok (.iload_n 3, 1) := by decide +kernel
theorem d_MD_phrases_35 : decode b_MD_phrases 35 = .ok (.aload_n 0, 1) := by decide +kernel
theorem d_MD_phrases_36 : decode b_MD_phrases 36 = .ok (.iload_n 1, 1) := by decide +kernel
theorem d_MD_phrases_37 : decode b_MD_phrases 37 = .ok (.iload_n 3, 1) := by decide +kernel
theorem d_MD_phrases_38 : decode b_MD_phrases 38 = .ok (.invokevirtual 129, 3) := by decide +kernel
theorem d_MD_phrases_41 : decode b_MD_phrases 41 = .ok (.iadd, 1) := by decide +kernel
theorem d_MD_phrases_42 : decode b_MD_phrases 42 = .ok (.istore_n 3, 1) := by decide +kernel
theorem d_MD_phrases_43 : decode b_MD_phrases 43 = .ok (.goto (-24), 3) := by decide +kernel
theorem d_MD_phrases_46 : decode b_MD_phrases 46 = .ok (.iload_n 2, 1) := by decide +kernel
theorem d_MD_phrases_47 : decode b_MD_phrases 47 = .ok (.ireturn, 1) := by decide +kernel
theorem d_MD_phrase_0 : decode b_MD_phrase 0 = .ok (.aload_n 0, 1) := by decide +kernel
theorem d_MD_phrase_1 : decode b_MD_phrase 1 = .ok (.iload_n 1, 1) := by decide +kernel
theorem d_MD_phrase_2 : decode b_MD_phrase 2 = .ok (.invokevirtual 126, 3) := by decide +kernel
theorem d_MD_phrase_5 : decode b_MD_phrase 5 = .ok (.ifCond .ne 20, 3) := by decide +kernel
theorem d_MD_phrase_8 : decode b_MD_phrase 8 = .ok (.aload_n 0, 1) := by decide +kernel
theorem d_MD_phrase_9 : decode b_MD_phrase 9 = .ok (.iconst 1, 1) := by decide +kernel
theorem d_MD_phrase_10 : decode b_MD_phrase 10 = .ok (.iload_n 2, 1) := by decide +kernel
theorem d_MD_phrase_11 : decode b_MD_phrase 11 = .ok (.ifCond .ge 7, 3) := by decide +kernel
theorem d_MD_phrase_14 : decode b_MD_phrase 14 = .ok (.iconst 1, 1) := by decide +kernel
theorem d_MD_phrase_15 : decode b_MD_phrase 15 = .ok (.goto 4, 3) := by decide +kernel
theorem d_MD_phrase_18 : decode b_MD_phrase 18 = .ok (.iconst 0, 1) := by decide +kernel
theorem d_MD_phrase_19 : decode b_MD_phrase 19 = .ok (.invokevirtual 79, 3) := by decide +kernel
theorem d_MD_phrase_22 : decode b_MD_phrase 22 = .ok (.ifCond .eq 5, 3) := by decide +kernel
theorem d_MD_phrase_25 : decode b_MD_phrase 25 = .ok (.lconst 0, 1) := by decide +kernel
theorem d_MD_phrase_26 : decode b_MD_phrase 26 = .ok (.lreturn, 1) := by decide +kernel
theorem d_MD_phrase_27 : decode b_MD_phrase 27 = .ok (.iconst 0, 1) := by decide +kernel
theorem d_MD_phrase_28 : decode b_MD_phrase 28 = .ok (.istore_n 3, 1) := by decide +kernel
theorem d_MD_phrase_29 : decode b_MD_phrase 29 = .ok (.aload_n 0, 1) := by decide +kernel
theorem d_MD_phrase_30 : decode b_MD_phrase 30 = .ok (.getfield 47, 3) := by decide +kernel
theorem d_MD_phrase_33 : decode b_MD_phrase 33 = .ok (.iload_n 1, 1) := by decide +kernel
theorem d_MD_phrase_34 : decode b_MD_phrase 34 = .ok (.iaload, 1) := by decide +kernel
theorem d_MD_phrase_35 : decode b_MD_phrase 35 = .ok (.istore 4, 2) := by decide +kernel
theorem d_MD_phrase_37 : decode b_MD_phrase 37 = .ok (.iload 4, 2) := by decide +kernel
theorem d_MD_phrase_39 : decode b_MD_phrase 39 = .ok (.aload_n 0, 1) := by decide +kernel
theorem d_MD_phrase_40 : decode b_MD_phrase 40 = .ok (.getfield 47, 3) := by decide +kernel
theorem d_MD_phrase_43 : decode b_MD_phrase 43 = .ok (.iload_n 1, 1) := by decide +kernel
theorem d_MD_phrase_44 : decode b_MD_phrase 44 = .ok (.iconst 1, 1) := by decide +kernel
theorem d_MD_phrase_45 : decode b_MD_phrase 45 = .ok (.iadd, 1) := by decide +kernel
theorem d_MD_phrase_46 : decode b_MD_phrase 46 = .ok (.iaload, 1) := by decide +kernel
theorem d_MD_phrase_47 : decode b_MD_phrase 47 = .ok (.if_icmp .ge 63, 3) := by decide +kernel
theorem d_MD_phrase_50 : decode b_MD_phrase 50 = .ok (.aload_n 0, 1) := by decide +kernel
theorem d_MD_phrase_51 : decode b_MD_phrase 51 = .ok (.iload_n 1, 1) := by decide +kernel
theorem d_MD_phrase_52 : decode b_MD_phrase 52 = .ok (.iload 4, 2) := by decide +kernel
theorem d_MD_phrase_54 : decode b_MD_phrase 54 = .ok (.invokevirtual 129, 3) := by decide +kernel
theorem d_MD_phrase_57 : decode b_MD_phrase 57 = .ok (.istore 5, 2) := by decide +kernel
theorem d_MD_phrase_59 : decode b_MD_phrase 59 = .ok (.iload_n 3, 1) := by decide +kernel
theorem d_MD_phrase_60 : decode b_MD_phrase 60 = .ok (.iload_n 2, 1) := by decide +kernel
theorem d_MD_phrase_61 : decode b_MD_phrase 61 = .ok (.if_icmp .ne 36, 3) := by decide +kernel
theorem d_MD_phrase_64 : decode b_MD_phrase 64 = .ok (.ldc2_w 132, 3) := by decide +kernel
theorem d_MD_phrase_67 : decode b_MD_phrase 67 = .ok (.iload 5, 2) := by decide +kernel
theorem d_MD_phrase_69 : decode b_MD_phrase 69 = .ok (.i2l, 1) := by decide +kernel
theorem d_MD_phrase_70 : decode b_MD_phrase 70 = .ok (.lmul, 1) := by decide +kernel
theorem d_MD_phrase_71 : decode b_MD_phrase 71 = .ok (.aload_n 0, 1) := by decide +kernel
theorem d_MD_phrase_72 : decode b_MD_phrase 72 = .ok (.getfield 76, 3) := by decide +kernel
theorem d_MD_phrase_75 : decode b_MD_phrase 75 = .ok (.ifCond .ge 8, 3) := by decide +kernel
theorem d_MD_phrase_78 : decode b_MD_phrase 78 = .ok (.ldc 103, 2) := by decide +kernel
theorem d_MD_phrase_80 : decode b_MD_phrase 80 = .ok (.goto 14, 3) := by decide +kernel
theorem d_MD_phrase_83 : decode b_MD_phrase 83 = .ok (.aload_n 0, 1) := by decide +kernel
theorem d_MD_phrase_84 : decode b_MD_phrase 84 = .ok (.getfield 76, 3) := by decide +kernel
theorem d_MD_phrase_87 : decode b_MD_phrase 87 = .ok (.aload_n 0, 1) := by decide +kernel
theorem d_MD_phrase_88 : decode b_MD_phrase 88 = .ok (.getfield 47, 3) := by decide +kernel
theorem d_MD_phrase_91 : decode b_MD_phrase 91 = .ok (.iload_n 1, 1) := by decide +kernel
theorem d_MD_phrase_92 : decode b_MD_phrase 92 = .ok (.iaload, 1) := by decide +kernel
theorem d_MD_phrase_93 : decode b_MD_phrase 93 = .ok (.isub, 1) := by decide +kernel
theorem d_MD_phrase_94 : decode b_MD_phrase 94 = .ok (.i2l, 1) := by decide +kernel
theorem d_MD_phrase_95 : decode b_MD_phrase 95 = .ok (.ladd, 1) := by decide +kernel
theorem d_MD_phrase_96 : decode b_MD_phrase 96 = .ok (.lreturn, 1) := by decide +kernel
theorem d_MD_phrase_97 : decode b_MD_phrase 97 = .ok (.iinc 3 1, 3) := by decide +kernel
theorem d_MD_phrase_100 : decode b_MD_phrase 100 = .ok (.iload 4, 2) := by decide +kernel
theorem d_MD_phrase_102 : decode b_MD_phrase 102 = .ok (.iload 5, 2) := by decide +kernel
theorem d_MD_phrase_104 : decode b_MD_phrase 104 = .ok (.iadd, 1) := by decide +kernel
theorem d_MD_phrase_105 : decode b_MD_phrase 105 = .ok (.istore 4, 2) := by decide +kernel
theorem d_MD_phrase_107 : decode b_MD_phrase 107 = .ok (.goto (-70), 3) := by decide +kernel
theorem d_MD_phrase_110 : decode b_MD_phrase 110 = .ok (.aload_n 0, 1) := by decide +kernel
theorem d_MD_phrase_111 : decode b_MD_phrase 111 = .ok (.iconst 1, 1) := by decide +kernel
theorem d_MD_phrase_112 : decode b_MD_phrase 112 = .ok (.iconst 1, 1) := by decide +kernel
theorem d_MD_phrase_113 : decode b_MD_phrase 113 = .ok (.invokevirtual 79, 3) := by decide +kernel
theorem d_MD_phrase_116 : decode b_MD_phrase 116 = .ok (.pop, 1) := by decide +kernel
theorem d_MD_phrase_117 : decode b_MD_phrase 117 = .ok (.lconst 0, 1) := by decide +kernel
theorem d_MD_phrase_118 : decode b_MD_phrase 118 = .ok (.lreturn, 1) := by decide +kernel
theorem d_MD_out_0 : decode b_MD_out 0 = .ok (.aload_n 0, 1) := by decide +kernel
theorem d_MD_out_1 : decode b_MD_out 1 = .ok (.iconst 0, 1) := by decide +kernel
theorem d_MD_out_2 : decode b_MD_out 2 = .ok (.putfield 7, 3) := by decide +kernel
theorem d_MD_out_5 : decode b_MD_out 5 = .ok (.aload_n 0, 1) := by decide +kernel
theorem d_MD_out_6 : decode b_MD_out 6 = .ok (.iconst 1, 1) := by decide +kernel
theorem d_MD_out_7 : decode b_MD_out 7 = .ok (.iload_n 1, 1) := by decide +kernel
theorem d_MD_out_8 : decode b_MD_out 8 = .ok (.ifCond .lt 11, 3) := by decide +kernel
theorem d_MD_out_11 : decode b_MD_out 11 = .ok (.iload_n 1, 1) := by decide +kernel
theorem d_MD_out_12 : decode b_MD_out 12 = .ok (.aload_n 0, 1) := by decide +kernel
theorem d_MD_out_13 : decode b_MD_out 13 = .ok (.getfield 29, 3) := by decide +kernel
theorem d_MD_out_16 : decode b_MD_out 16 = .ok (.if_icmp .lt 7, 3) := by decide +kernel
theorem d_MD_out_19 : decode b_MD_out 19 = .ok (.iconst 1, 1) := by decide +kernel
theorem d_MD_out_20 : decode b_MD_out 20 = .ok (.goto 4, 3) := by decide +kernel
theorem d_MD_out_23 : decode b_MD_out 23 = .ok (.iconst 0, 1) := by decide +kernel
theorem d_MD_out_24 : decode b_MD_out 24 = .ok (.invokevirtual 79, 3) := by decide +kernel
theorem d_MD_out_27 : decode b_MD_out 27 = .ok (.ifCond .eq 5, 3) := by decide +kernel
theorem d_MD_out_30 : decode b_MD_out 30 = .ok (.iconst 0, 1) := by decide +kernel
theorem d_MD_out_31 : decode b_MD_out 31 = .ok (.ireturn, 1) := by decide +kernel
theorem d_MD_out_32 : decode b_MD_out 32 = .ok (.aload_n 0, 1) := by decide +kernel
theorem d_MD_out_33 : decode b_MD_out 33 = .ok (.getfield 20, 3) := by decide +kernel
theorem d_MD_out_36 : decode b_MD_out 36 = .ok (.iload_n 1, 1) := by decide +kernel
theorem d_MD_out_37 : decode b_MD_out 37 = .ok (.baload, 1) := by decide +kernel
theorem d_MD_out_38 : decode b_MD_out 38 = .ok (.sipush 255, 3) := by decide +kernel
theorem d_MD_out_41 : decode b_MD_out 41 = .ok (.iand, 1) := by decide +kernel
theorem d_MD_out_42 : decode b_MD_out 42 = .ok (.ireturn, 1) := by decide +kernel
theorem d_MD_at_0 : decode b_MD_at 0 = .ok (.aload_n 0, 1) := by decide +kernel
theorem d_MD_at_1 : decode b_MD_at 1 = .ok (.iconst 0, 1) := by decide +kernel
theorem d_MD_at_2 : decode b_MD_at 2 = .ok (.putfield 7, 3) := by decide +kernel
theorem d_MD_at_5 : decode b_MD_at 5 = .ok (.aload_n 0, 1) := by decide +kernel
theorem d_MD_at_6 : decode b_MD_at 6 = .ok (.iload_n 1, 1) := by decide +kernel
theorem d_MD_at_7 : decode b_MD_at 7 = .ok (.invokevirtual 120, 3) := by decide +kernel
theorem d_MD_at_10 : decode b_MD_at 10 = .ok (.istore_n 2, 1) := by decide +kernel
theorem d_MD_at_11 : decode b_MD_at 11 = .ok (.aload_n 0, 1) := by decide +kernel
theorem d_MD_at_12 : decode b_MD_at 12 = .ok (.iconst 1, 1) := by decide +kernel
theorem d_MD_at_13 : decode b_MD_at 13 = .ok (.iload_n 2, 1) := by decide +kernel
theorem d_MD_at_14 : decode b_MD_at 14 = .ok (.ifCond .ge 7, 3) := by decide +kernel
theorem d_MD_at_17 : decode b_MD_at 17 = .ok (.iconst 1, 1) := by decide +kernel
theorem d_MD_at_18 : decode b_MD_at 18 = .ok (.goto 4, 3) := by decide +kernel
theorem d_MD_at_21 : decode b_MD_at 21 = .ok (.iconst 0, 1) := by decide +kernel
theorem d_MD_at_22 : decode b_MD_at 22 = .ok (.invokevirtual 79, 3) := by decide +kernel
theorem d_MD_at_25 : decode b_MD_at 25 = .ok (.ifCond .eq 5, 3) := by decide +kernel
theorem d_MD_at_28 : decode b_MD_at 28 = .ok (.iconst 0, 1) := by decide +kernel
theorem d_MD_at_29 : decode b_MD_at 29 = .ok (.ireturn, 1) := by decide +kernel
theorem d_MD_at_30 : decode b_MD_at 30 = .ok (.aload_n 0, 1) := by decide +kernel
theorem d_MD_at_31 : decode b_MD_at 31 = .ok (.getfield 17, 3) := by decide +kernel
theorem d_MD_at_34 : decode b_MD_at 34 = .ok (.iload_n 2, 1) := by decide +kernel
theorem d_MD_at_35 : decode b_MD_at 35 = .ok (.baload, 1) := by decide +kernel
theorem d_MD_at_36 : decode b_MD_at 36 = .ok (.sipush 255, 3) := by decide +kernel
theorem d_MD_at_39 : decode b_MD_at 39 = .ok (.iand, 1) := by decide +kernel
theorem d_MD_at_40 : decode b_MD_at 40 = .ok (.ireturn, 1) := by decide +kernel
theorem d_MD_count_0 : decode b_MD_count 0 = .ok (.aload_n 0, 1) := by decide +kernel
theorem d_MD_count_1 : decode b_MD_count 1 = .ok (.iconst 0, 1) := by decide +kernel
theorem d_MD_count_2 : decode b_MD_count 2 = .ok (.putfield 7, 3) := by decide +kernel
theorem d_MD_count_5 : decode b_MD_count 5 = .ok (.iload_n 1, 1) := by decide +kernel
theorem d_MD_count_6 : decode b_MD_count 6 = .ok (.tableswitch 68 0 5 #[38, 43, 48, 53, 58, 63], 38) := by decide +kernel
theorem d_MD_count_44 : decode b_MD_count 44 = .ok (.aload_n 0, 1) := by decide +kernel
theorem d_MD_count_45 : decode b_MD_count 45 = .ok (.getfield 35, 3) := by decide +kernel
theorem d_MD_count_48 : decode b_MD_count 48 = .ok (.ireturn, 1) := by decide +kernel
theorem d_MD_count_49 : decode b_MD_count 49 = .ok (.aload_n 0, 1) := by decide +kernel
theorem d_MD_count_50 : decode b_MD_count 50 = .ok (.getfield 38, 3) := by decide +kernel
theorem d_MD_count_53 : decode b_MD_count 53 = .ok (.ireturn, 1) := by decide +kernel
theorem d_MD_count_54 : decode b_MD_count 54 = .ok (.aload_n 0, 1) := by decide +kernel
theorem d_MD_count_55 : decode b_MD_count 55 = .ok (.getfield 41, 3) := by decide +kernel
theorem d_MD_count_58 : decode b_MD_count 58 = .ok (.ireturn, 1) := by decide +kernel
theorem d_MD_count_59 : decode b_MD_count 59 = .ok (.aload_n 0, 1) := by decide +kernel
theorem d_MD_count_60 : decode b_MD_count 60 = .ok (.getfield 26, 3) := by decide +kernel
theorem d_MD_count_63 : decode b_MD_count 63 = .ok (.ireturn, 1) := by decide +kernel
theorem d_MD_count_64 : decode b_MD_count 64 = .ok (.aload_n 0, 1) := by decide +kernel
theorem d_MD_count_65 : decode b_MD_count 65 = .ok (.getfield 29, 3) := by decide +kernel
theorem d_MD_count_68 : decode b_MD_count 68 = .ok (.ireturn, 1) := by decide +kernel
theorem d_MD_count_69 : decode b_MD_count 69 = .ok (.aload_n 0, 1) := by decide +kernel
theorem d_MD_count_70 : decode b_MD_count 70 = .ok (.getfield 32, 3) := by decide +kernel
theorem d_MD_count_73 : decode b_MD_count 73 = .ok (.ireturn, 1) := by decide +kernel
theorem d_MD_count_74 : decode b_MD_count 74 = .ok (.iconst (-1), 1) := by decide +kernel
theorem d_MD_count_75 : decode b_MD_count 75 = .ok (.ireturn, 1) := by decide +kernel
def vc_MD_seek_102 (z_suffixes : Int32) (z_tape : Nat → Int32) (z_row : Nat → Int32) (z_start : Nat → Int32) (z_documentOf : Nat → Int32) (post : Int32 → Int32 → Int32 → Int32 → (Nat → Int32) → Prop) (K83 : Int32 → Int32 → Int32 → Int32 → Int32 → (Nat → Int32) → Prop) (x1 : Int32) (x2 : Int32) (z_thrown : Int32) (z_size : Int32) (z_soughtSize : Int32) (z_sought : Nat → Int32) : Prop :=
  K83 x1 (x2 + 1) z_thrown z_size z_soughtSize z_sought
def vc_MD_seek_83 (z_suffixes : Int32) (z_tape : Nat → Int32) (z_row : Nat → Int32) (z_start : Nat → Int32) (z_documentOf : Nat → Int32) (post : Int32 → Int32 → Int32 → Int32 → (Nat → Int32) → Prop) : Nat → Int32 → Int32 → Int32 → Int32 → Int32 → (Nat → Int32) → Prop
  | 0, _, _, _, _, _, _ => False
  | k + 1, x1, x2, z_thrown, z_size, z_soughtSize, z_sought => ((z_suffixes ≤ x2 → post x1 z_thrown z_size z_soughtSize z_sought) ∧ (¬ (z_suffixes ≤ x2) → vc_MD_stands x2 z_soughtSize z_row z_sought z_start z_documentOf (fun r2 => ((r2 = 0 → vc_MD_seek_102 z_suffixes z_tape z_row z_start z_documentOf post (fun x1' x2' z_thrown' z_size' z_soughtSize' z_sought' => vc_MD_seek_83 z_suffixes z_tape z_row z_start z_documentOf post k x1' x2' z_thrown' z_size' z_soughtSize' z_sought') x1 x2 z_thrown z_size z_soughtSize z_sought) ∧ (¬ (r2 = 0) → vc_MD_seek_102 z_suffixes z_tape z_row z_start z_documentOf post (fun x1' x2' z_thrown' z_size' z_soughtSize' z_sought' => vc_MD_seek_83 z_suffixes z_tape z_row z_start z_documentOf post k x1' x2' z_thrown' z_size' z_soughtSize' z_sought') (x1 + 1) x2 z_thrown z_size z_soughtSize z_sought)))))
def vc_MD_seek_40 (z_suffixes : Int32) (z_tape : Nat → Int32) (z_row : Nat → Int32) (z_start : Nat → Int32) (z_documentOf : Nat → Int32) (post : Int32 → Int32 → Int32 → Int32 → (Nat → Int32) → Prop) : Nat → Int32 → Int32 → Int32 → Int32 → (Nat → Int32) → Prop
  | 0, _, _, _, _, _ => False
  | k + 1, x1, z_thrown, z_size, z_soughtSize, z_sought => ((z_size ≤ x1 → ∃ j : Nat, vc_MD_seek_83 z_suffixes z_tape z_row z_start z_documentOf post j 0 0 z_thrown 0 z_size z_sought) ∧ (¬ (z_size ≤ x1) → vp_in x1 16384 ∧ vp_in x1 200 ∧ vc_MD_seek_40 z_suffixes z_tape z_row z_start z_documentOf post k (x1 + 1) z_thrown z_size z_soughtSize (upd z_sought x1.toNatClampNeg (vp_nar .byte (z_tape x1.toNatClampNeg)))))
def vc_MD_seek_30 (z_suffixes : Int32) (z_tape : Nat → Int32) (z_row : Nat → Int32) (z_start : Nat → Int32) (z_documentOf : Nat → Int32) (post : Int32 → Int32 → Int32 → Int32 → (Nat → Int32) → Prop) (k1 : Int32) (k2 : Int32) (z_thrown : Int32) (z_size : Int32) (z_soughtSize : Int32) (z_sought : Nat → Int32) : Prop :=
  vc_MD_refuse k1 k2 (fun r5 u5_0 => ((r5 = 0 → ∃ j : Nat, vc_MD_seek_40 z_suffixes z_tape z_row z_start z_documentOf post j 0 u5_0 z_size z_soughtSize z_sought) ∧ (¬ (r5 = 0) → post 0 u5_0 z_size z_soughtSize z_sought))) z_thrown
def vc_MD_seek_25 (z_suffixes : Int32) (z_tape : Nat → Int32) (z_row : Nat → Int32) (z_start : Nat → Int32) (z_documentOf : Nat → Int32) (post : Int32 → Int32 → Int32 → Int32 → (Nat → Int32) → Prop) (k1 : Int32) (z_thrown : Int32) (z_size : Int32) (z_soughtSize : Int32) (z_sought : Nat → Int32) : Prop :=
  vc_MD_seek_30 z_suffixes z_tape z_row z_start z_documentOf post k1 1 z_thrown z_size z_soughtSize z_sought
def vc_MD_seek (z_suffixes : Int32) (z_tape : Nat → Int32) (z_row : Nat → Int32) (z_start : Nat → Int32) (z_documentOf : Nat → Int32) (post : Int32 → Int32 → Int32 → Int32 → (Nat → Int32) → Prop) (z_thrown : Int32) (z_size : Int32) (z_soughtSize : Int32) (z_sought : Nat → Int32) : Prop :=
  ((z_size < 1 → vc_MD_seek_25 z_suffixes z_tape z_row z_start z_documentOf post 1 0 z_size z_soughtSize z_sought) ∧ (¬ (z_size < 1) → ((z_size ≤ 200 → vc_MD_seek_30 z_suffixes z_tape z_row z_start z_documentOf post 1 0 0 z_size z_soughtSize z_sought) ∧ (¬ (z_size ≤ 200) → vc_MD_seek_25 z_suffixes z_tape z_row z_start z_documentOf post 1 0 z_size z_soughtSize z_sought))))
def vc_MD_found_55 (a_p1 : Int32) (z_soughtSize : Int32) (z_suffixes : Int32) (z_row : Nat → Int32) (z_sought : Nat → Int32) (z_start : Nat → Int32) (z_documentOf : Nat → Int32) (post : Int32 → Int32 → Prop) (z_thrown : Int32) : Prop :=
  vc_MD_refuse 1 1 (fun r1 u1_0 => post 0 u1_0) z_thrown
def vc_MD_found_49 (a_p1 : Int32) (z_soughtSize : Int32) (z_suffixes : Int32) (z_row : Nat → Int32) (z_sought : Nat → Int32) (z_start : Nat → Int32) (z_documentOf : Nat → Int32) (post : Int32 → Int32 → Prop) (K9 : Int32 → Int32 → Int32 → Prop) (x2 : Int32) (x3 : Int32) (z_thrown : Int32) : Prop :=
  K9 x2 (x3 + 1) z_thrown
def vc_MD_found_9 (a_p1 : Int32) (z_soughtSize : Int32) (z_suffixes : Int32) (z_row : Nat → Int32) (z_sought : Nat → Int32) (z_start : Nat → Int32) (z_documentOf : Nat → Int32) (post : Int32 → Int32 → Prop) : Nat → Int32 → Int32 → Int32 → Prop
  | 0, _, _, _ => False
  | k + 1, x2, x3, z_thrown => ((z_suffixes ≤ x3 → vc_MD_found_55 a_p1 z_soughtSize z_suffixes z_row z_sought z_start z_documentOf post z_thrown) ∧ (¬ (z_suffixes ≤ x3) → ((z_soughtSize ≤ 0 → vc_MD_found_55 a_p1 z_soughtSize z_suffixes z_row z_sought z_start z_documentOf post z_thrown) ∧ (¬ (z_soughtSize ≤ 0) → vc_MD_stands x3 z_soughtSize z_row z_sought z_start z_documentOf (fun r4 => ((¬ r4 = 0 → ((¬ x2 = a_p1 → vc_MD_found_49 a_p1 z_soughtSize z_suffixes z_row z_sought z_start z_documentOf post (fun x2' x3' z_thrown' => vc_MD_found_9 a_p1 z_soughtSize z_suffixes z_row z_sought z_start z_documentOf post k x2' x3' z_thrown') (x2 + 1) x3 z_thrown) ∧ (x2 = a_p1 → vc_MD_where x3 z_start z_documentOf (fun r7 => post r7 z_thrown)))) ∧ (r4 = 0 → vc_MD_found_49 a_p1 z_soughtSize z_suffixes z_row z_sought z_start z_documentOf post (fun x2' x3' z_thrown' => vc_MD_found_9 a_p1 z_soughtSize z_suffixes z_row z_sought z_start z_documentOf post k x2' x3' z_thrown') x2 x3 z_thrown)))))))
def vc_MD_found (a_p1 : Int32) (z_soughtSize : Int32) (z_suffixes : Int32) (z_row : Nat → Int32) (z_sought : Nat → Int32) (z_start : Nat → Int32) (z_documentOf : Nat → Int32) (post : Int32 → Int32 → Prop) (z_thrown : Int32) : Prop :=
  ∃ j : Nat, vc_MD_found_9 a_p1 z_soughtSize z_suffixes z_row z_sought z_start z_documentOf post j 0 0 0
def vc_MD_most_140 (a_p1 : Int32) (z_soughtSize : Int32) (z_indexed : Int32) (z_suffixes : Int32) (z_row : Nat → Int32) (z_sought : Nat → Int32) (z_start : Nat → Int32) (z_documentOf : Nat → Int32) (post : Int32 → Int32 → (Nat → Int32) → Prop) (K98 : Int32 → Int32 → Int32 → Int32 → (Nat → Int32) → Prop) (x2 : Int32) (x3 : Int32) (x4 : Int32) (z_thrown : Int32) (z_often : Nat → Int32) : Prop :=
  K98 x2 x3 (x4 + 1) z_thrown z_often
def vc_MD_most_137 (a_p1 : Int32) (z_soughtSize : Int32) (z_indexed : Int32) (z_suffixes : Int32) (z_row : Nat → Int32) (z_sought : Nat → Int32) (z_start : Nat → Int32) (z_documentOf : Nat → Int32) (post : Int32 → Int32 → (Nat → Int32) → Prop) (K98 : Int32 → Int32 → Int32 → Int32 → (Nat → Int32) → Prop) (x2 : Int32) (x4 : Int32) (z_thrown : Int32) (z_often : Nat → Int32) : Prop :=
  vc_MD_most_140 a_p1 z_soughtSize z_indexed z_suffixes z_row z_sought z_start z_documentOf post K98 x2 x4 x4 z_thrown z_often
def vc_MD_most_157 (a_p1 : Int32) (z_soughtSize : Int32) (z_indexed : Int32) (z_suffixes : Int32) (z_row : Nat → Int32) (z_sought : Nat → Int32) (z_start : Nat → Int32) (z_documentOf : Nat → Int32) (post : Int32 → Int32 → (Nat → Int32) → Prop) (K93 : Int32 → Int32 → (Nat → Int32) → Prop) (x2 : Int32) (x3 : Int32) (k1 : Int32) (k2 : Int32) (z_thrown : Int32) (z_often : Nat → Int32) : Prop :=
  vc_MD_refuse k1 k2 (fun r1 u1_0 => ((r1 = 0 → ((¬ x2 = 0 → vp_in x3 64 ∧ K93 (x2 + (-1)) u1_0 (upd z_often x3.toNatClampNeg 0)) ∧ (x2 = 0 → vp_in x3 64 ∧ post ((64 * (z_often x3.toNatClampNeg)) + x3) u1_0 z_often))) ∧ (¬ (r1 = 0) → post 0 u1_0 z_often))) z_thrown
def vc_MD_most_98 (a_p1 : Int32) (z_soughtSize : Int32) (z_indexed : Int32) (z_suffixes : Int32) (z_row : Nat → Int32) (z_sought : Nat → Int32) (z_start : Nat → Int32) (z_documentOf : Nat → Int32) (post : Int32 → Int32 → (Nat → Int32) → Prop) (K93 : Int32 → Int32 → (Nat → Int32) → Prop) : Nat → Int32 → Int32 → Int32 → Int32 → (Nat → Int32) → Prop
  | 0, _, _, _, _, _ => False
  | k + 1, x2, x3, x4, z_thrown, z_often => ((z_indexed ≤ x4 → ((0 ≤ x3 → vc_MD_most_157 a_p1 z_soughtSize z_indexed z_suffixes z_row z_sought z_start z_documentOf post K93 x2 x3 1 0 z_thrown z_often) ∧ (¬ (0 ≤ x3) → vc_MD_most_157 a_p1 z_soughtSize z_indexed z_suffixes z_row z_sought z_start z_documentOf post K93 x2 x3 1 1 z_thrown z_often))) ∧ (¬ (z_indexed ≤ x4) → vp_in x4 64 ∧ (((z_often x4.toNatClampNeg) ≤ 0 → vc_MD_most_140 a_p1 z_soughtSize z_indexed z_suffixes z_row z_sought z_start z_documentOf post (fun x2' x3' x4' z_thrown' z_often' => vc_MD_most_98 a_p1 z_soughtSize z_indexed z_suffixes z_row z_sought z_start z_documentOf post K93 k x2' x3' x4' z_thrown' z_often') x2 x3 x4 z_thrown z_often) ∧ (¬ ((z_often x4.toNatClampNeg) ≤ 0) → ((x3 < 0 → vc_MD_most_137 a_p1 z_soughtSize z_indexed z_suffixes z_row z_sought z_start z_documentOf post (fun x2' x3' x4' z_thrown' z_often' => vc_MD_most_98 a_p1 z_soughtSize z_indexed z_suffixes z_row z_sought z_start z_documentOf post K93 k x2' x3' x4' z_thrown' z_often') x2 x4 z_thrown z_often) ∧ (¬ (x3 < 0) → vp_in x4 64 ∧ vp_in x3 64 ∧ (((z_often x4.toNatClampNeg) ≤ (z_often x3.toNatClampNeg) → vc_MD_most_140 a_p1 z_soughtSize z_indexed z_suffixes z_row z_sought z_start z_documentOf post (fun x2' x3' x4' z_thrown' z_often' => vc_MD_most_98 a_p1 z_soughtSize z_indexed z_suffixes z_row z_sought z_start z_documentOf post K93 k x2' x3' x4' z_thrown' z_often') x2 x3 x4 z_thrown z_often) ∧ (¬ ((z_often x4.toNatClampNeg) ≤ (z_often x3.toNatClampNeg)) → vc_MD_most_137 a_p1 z_soughtSize z_indexed z_suffixes z_row z_sought z_start z_documentOf post (fun x2' x3' x4' z_thrown' z_often' => vc_MD_most_98 a_p1 z_soughtSize z_indexed z_suffixes z_row z_sought z_start z_documentOf post K93 k x2' x3' x4' z_thrown' z_often') x2 x4 z_thrown z_often))))))))
def vc_MD_most_93 (a_p1 : Int32) (z_soughtSize : Int32) (z_indexed : Int32) (z_suffixes : Int32) (z_row : Nat → Int32) (z_sought : Nat → Int32) (z_start : Nat → Int32) (z_documentOf : Nat → Int32) (post : Int32 → Int32 → (Nat → Int32) → Prop) : Nat → Int32 → Int32 → (Nat → Int32) → Prop
  | 0, _, _, _ => False
  | k + 1, x2, z_thrown, z_often => ∃ j : Nat, vc_MD_most_98 a_p1 z_soughtSize z_indexed z_suffixes z_row z_sought z_start z_documentOf post (fun x2' z_thrown' z_often' => vc_MD_most_93 a_p1 z_soughtSize z_indexed z_suffixes z_row z_sought z_start z_documentOf post k x2' z_thrown' z_often') j x2 (-1) 0 z_thrown z_often
def vc_MD_most_83 (a_p1 : Int32) (z_soughtSize : Int32) (z_indexed : Int32) (z_suffixes : Int32) (z_row : Nat → Int32) (z_sought : Nat → Int32) (z_start : Nat → Int32) (z_documentOf : Nat → Int32) (post : Int32 → Int32 → (Nat → Int32) → Prop) (k1 : Int32) (k2 : Int32) (z_thrown : Int32) (z_often : Nat → Int32) : Prop :=
  vc_MD_refuse k1 k2 (fun r9 u9_0 => ((r9 = 0 → ∃ j : Nat, vc_MD_most_93 a_p1 z_soughtSize z_indexed z_suffixes z_row z_sought z_start z_documentOf post j a_p1 u9_0 z_often) ∧ (¬ (r9 = 0) → post 0 u9_0 z_often))) z_thrown
def vc_MD_most_72 (a_p1 : Int32) (z_soughtSize : Int32) (z_indexed : Int32) (z_suffixes : Int32) (z_row : Nat → Int32) (z_sought : Nat → Int32) (z_start : Nat → Int32) (z_documentOf : Nat → Int32) (post : Int32 → Int32 → (Nat → Int32) → Prop) (z_thrown : Int32) (z_often : Nat → Int32) : Prop :=
  ((0 ≤ a_p1 → vc_MD_most_83 a_p1 z_soughtSize z_indexed z_suffixes z_row z_sought z_start z_documentOf post 1 0 z_thrown z_often) ∧ (¬ (0 ≤ a_p1) → vc_MD_most_83 a_p1 z_soughtSize z_indexed z_suffixes z_row z_sought z_start z_documentOf post 1 1 z_thrown z_often))
def vc_MD_most_66 (a_p1 : Int32) (z_soughtSize : Int32) (z_indexed : Int32) (z_suffixes : Int32) (z_row : Nat → Int32) (z_sought : Nat → Int32) (z_start : Nat → Int32) (z_documentOf : Nat → Int32) (post : Int32 → Int32 → (Nat → Int32) → Prop) (K28 : Int32 → Int32 → (Nat → Int32) → Prop) (x2 : Int32) (z_thrown : Int32) (z_often : Nat → Int32) : Prop :=
  K28 (x2 + 1) z_thrown z_often
def vc_MD_most_28 (a_p1 : Int32) (z_soughtSize : Int32) (z_indexed : Int32) (z_suffixes : Int32) (z_row : Nat → Int32) (z_sought : Nat → Int32) (z_start : Nat → Int32) (z_documentOf : Nat → Int32) (post : Int32 → Int32 → (Nat → Int32) → Prop) : Nat → Int32 → Int32 → (Nat → Int32) → Prop
  | 0, _, _, _ => False
  | k + 1, x2, z_thrown, z_often => ((z_suffixes ≤ x2 → vc_MD_most_72 a_p1 z_soughtSize z_indexed z_suffixes z_row z_sought z_start z_documentOf post z_thrown z_often) ∧ (¬ (z_suffixes ≤ x2) → ((z_soughtSize ≤ 0 → vc_MD_most_72 a_p1 z_soughtSize z_indexed z_suffixes z_row z_sought z_start z_documentOf post z_thrown z_often) ∧ (¬ (z_soughtSize ≤ 0) → vc_MD_stands x2 z_soughtSize z_row z_sought z_start z_documentOf (fun r14 => ((r14 = 0 → vc_MD_most_66 a_p1 z_soughtSize z_indexed z_suffixes z_row z_sought z_start z_documentOf post (fun x2' z_thrown' z_often' => vc_MD_most_28 a_p1 z_soughtSize z_indexed z_suffixes z_row z_sought z_start z_documentOf post k x2' z_thrown' z_often') x2 z_thrown z_often) ∧ (¬ (r14 = 0) → vp_in x2 16384 ∧ vp_in (z_documentOf x2.toNatClampNeg) 64 ∧ vp_in (z_documentOf x2.toNatClampNeg) 64 ∧ vc_MD_most_66 a_p1 z_soughtSize z_indexed z_suffixes z_row z_sought z_start z_documentOf post (fun x2' z_thrown' z_often' => vc_MD_most_28 a_p1 z_soughtSize z_indexed z_suffixes z_row z_sought z_start z_documentOf post k x2' z_thrown' z_often') x2 z_thrown (upd z_often (z_documentOf x2.toNatClampNeg).toNatClampNeg ((z_often (z_documentOf x2.toNatClampNeg).toNatClampNeg) + 1)))))))))
def vc_MD_most_7 (a_p1 : Int32) (z_soughtSize : Int32) (z_indexed : Int32) (z_suffixes : Int32) (z_row : Nat → Int32) (z_sought : Nat → Int32) (z_start : Nat → Int32) (z_documentOf : Nat → Int32) (post : Int32 → Int32 → (Nat → Int32) → Prop) : Nat → Int32 → Int32 → (Nat → Int32) → Prop
  | 0, _, _, _ => False
  | k + 1, x2, z_thrown, z_often => ((64 ≤ x2 → ∃ j : Nat, vc_MD_most_28 a_p1 z_soughtSize z_indexed z_suffixes z_row z_sought z_start z_documentOf post j 0 z_thrown z_often) ∧ (¬ (64 ≤ x2) → vp_in x2 64 ∧ vc_MD_most_7 a_p1 z_soughtSize z_indexed z_suffixes z_row z_sought z_start z_documentOf post k (x2 + 1) z_thrown (upd z_often x2.toNatClampNeg 0)))
def vc_MD_most (a_p1 : Int32) (z_soughtSize : Int32) (z_indexed : Int32) (z_suffixes : Int32) (z_row : Nat → Int32) (z_sought : Nat → Int32) (z_start : Nat → Int32) (z_documentOf : Nat → Int32) (post : Int32 → Int32 → (Nat → Int32) → Prop) (z_thrown : Int32) (z_often : Nat → Int32) : Prop :=
  ∃ j : Nat, vc_MD_most_7 a_p1 z_soughtSize z_indexed z_suffixes z_row z_sought z_start z_documentOf post j 0 0 z_often
def vc_MD_tell_2 (a_p1 : Int32) (a_p2 : Int32) (z_row : Nat → Int32) (post : Int32 → (Nat → Int32) → Prop) : Nat → Int32 → Int32 → (Nat → Int32) → Prop
  | 0, _, _, _ => False
  | k + 1, x3, z_outSize, z_out => ((a_p2 ≤ x3 → post a_p2 z_out) ∧ (¬ (a_p2 ≤ x3) → vp_in (a_p1 + x3) 16384 ∧ vp_in x3 16384 ∧ vc_MD_tell_2 a_p1 a_p2 z_row post k (x3 + 1) z_outSize (upd z_out x3.toNatClampNeg (vp_nar .byte (z_row (a_p1 + x3).toNatClampNeg)))))
def vc_MD_tell (a_p1 : Int32) (a_p2 : Int32) (z_row : Nat → Int32) (post : Int32 → (Nat → Int32) → Prop) (z_outSize : Int32) (z_out : Nat → Int32) : Prop :=
  ∃ j : Nat, vc_MD_tell_2 a_p1 a_p2 z_row post j 0 z_outSize z_out
def vc_MD_near_149 (a_p1 : Int32) (z_soughtSize : Int32) (z_suffixes : Int32) (z_row : Nat → Int32) (z_sought : Nat → Int32) (z_start : Nat → Int32) (z_documentOf : Nat → Int32) (post : Int32 → Int32 → Int32 → (Nat → Int32) → Prop) (K56 : Int32 → Int32 → Int32 → Int32 → Int32 → (Nat → Int32) → Prop) (x2 : Int32) (x3 : Int32) (x4 : Int32) (z_thrown : Int32) (z_outSize : Int32) (z_out : Nat → Int32) : Prop :=
  K56 x2 x3 (x4 + 1) z_thrown z_outSize z_out
def vc_MD_near_134 (a_p1 : Int32) (z_soughtSize : Int32) (z_suffixes : Int32) (z_row : Nat → Int32) (z_sought : Nat → Int32) (z_start : Nat → Int32) (z_documentOf : Nat → Int32) (post : Int32 → Int32 → Int32 → (Nat → Int32) → Prop) (K56 : Int32 → Int32 → Int32 → Int32 → Int32 → (Nat → Int32) → Prop) (x2 : Int32) (x3 : Int32) (x4 : Int32) (x5 : Int32) (z_thrown : Int32) (z_outSize : Int32) (z_out : Nat → Int32) : Prop :=
  ((x5 ≤ a_p1 → vc_MD_near_149 a_p1 z_soughtSize z_suffixes z_row z_sought z_start z_documentOf post K56 (x2 + 1) x4 x4 z_thrown z_outSize z_out) ∧ (¬ (x5 ≤ a_p1) → vc_MD_near_149 a_p1 z_soughtSize z_suffixes z_row z_sought z_start z_documentOf post K56 x2 x3 x4 z_thrown z_outSize z_out))
def vc_MD_near_128 (a_p1 : Int32) (z_soughtSize : Int32) (z_suffixes : Int32) (z_row : Nat → Int32) (z_sought : Nat → Int32) (z_start : Nat → Int32) (z_documentOf : Nat → Int32) (post : Int32 → Int32 → Int32 → (Nat → Int32) → Prop) (K90 : Int32 → Int32 → Int32 → Int32 → Int32 → Int32 → Int32 → (Nat → Int32) → Prop) (x2 : Int32) (x3 : Int32) (x4 : Int32) (x5 : Int32) (x6 : Int32) (z_thrown : Int32) (z_outSize : Int32) (z_out : Nat → Int32) : Prop :=
  K90 x2 x3 x4 x5 (x6 + 1) z_thrown z_outSize z_out
def vc_MD_near_90 (a_p1 : Int32) (z_soughtSize : Int32) (z_suffixes : Int32) (z_row : Nat → Int32) (z_sought : Nat → Int32) (z_start : Nat → Int32) (z_documentOf : Nat → Int32) (post : Int32 → Int32 → Int32 → (Nat → Int32) → Prop) (K56 : Int32 → Int32 → Int32 → Int32 → Int32 → (Nat → Int32) → Prop) : Nat → Int32 → Int32 → Int32 → Int32 → Int32 → Int32 → Int32 → (Nat → Int32) → Prop
  | 0, _, _, _, _, _, _, _, _ => False
  | k + 1, x2, x3, x4, x5, x6, z_thrown, z_outSize, z_out => ((z_soughtSize ≤ x6 → vc_MD_near_134 a_p1 z_soughtSize z_suffixes z_row z_sought z_start z_documentOf post K56 x2 x3 x4 x5 z_thrown z_outSize z_out) ∧ (¬ (z_soughtSize ≤ x6) → ((a_p1 < x5 → vc_MD_near_134 a_p1 z_soughtSize z_suffixes z_row z_sought z_start z_documentOf post K56 x2 x3 x4 x5 z_thrown z_outSize z_out) ∧ (¬ (a_p1 < x5) → vp_in (x4 + x6) 16384 ∧ vp_in x6 200 ∧ (((z_row (x4 + x6).toNatClampNeg) = (z_sought x6.toNatClampNeg) → vc_MD_near_128 a_p1 z_soughtSize z_suffixes z_row z_sought z_start z_documentOf post (fun x2' x3' x4' x5' x6' z_thrown' z_outSize' z_out' => vc_MD_near_90 a_p1 z_soughtSize z_suffixes z_row z_sought z_start z_documentOf post K56 k x2' x3' x4' x5' x6' z_thrown' z_outSize' z_out') x2 x3 x4 x5 x6 z_thrown z_outSize z_out) ∧ (¬ ((z_row (x4 + x6).toNatClampNeg) = (z_sought x6.toNatClampNeg)) → vc_MD_near_128 a_p1 z_soughtSize z_suffixes z_row z_sought z_start z_documentOf post (fun x2' x3' x4' x5' x6' z_thrown' z_outSize' z_out' => vc_MD_near_90 a_p1 z_soughtSize z_suffixes z_row z_sought z_start z_documentOf post K56 k x2' x3' x4' x5' x6' z_thrown' z_outSize' z_out') x2 x3 x4 (x5 + 1) x6 z_thrown z_outSize z_out))))))
def vc_MD_near_56 (a_p1 : Int32) (z_soughtSize : Int32) (z_suffixes : Int32) (z_row : Nat → Int32) (z_sought : Nat → Int32) (z_start : Nat → Int32) (z_documentOf : Nat → Int32) (post : Int32 → Int32 → Int32 → (Nat → Int32) → Prop) : Nat → Int32 → Int32 → Int32 → Int32 → Int32 → (Nat → Int32) → Prop
  | 0, _, _, _, _, _, _ => False
  | k + 1, x2, x3, x4, z_thrown, z_outSize, z_out => ((z_suffixes ≤ x4 → ((x3 < 0 → post x2 z_thrown z_outSize z_out) ∧ (¬ (x3 < 0) → vc_MD_tell x3 z_soughtSize z_row (fun u7_0 u7_1 => post x2 z_thrown u7_0 u7_1) z_outSize z_out))) ∧ (¬ (z_suffixes ≤ x4) → vc_MD_endOf x4 z_start z_documentOf (fun r8 => (((x4 + z_soughtSize) ≤ r8 → ∃ j : Nat, vc_MD_near_90 a_p1 z_soughtSize z_suffixes z_row z_sought z_start z_documentOf post (fun x2' x3' x4' z_thrown' z_outSize' z_out' => vc_MD_near_56 a_p1 z_soughtSize z_suffixes z_row z_sought z_start z_documentOf post k x2' x3' x4' z_thrown' z_outSize' z_out') j x2 x3 x4 0 0 z_thrown z_outSize z_out) ∧ (¬ ((x4 + z_soughtSize) ≤ r8) → vc_MD_near_149 a_p1 z_soughtSize z_suffixes z_row z_sought z_start z_documentOf post (fun x2' x3' x4' z_thrown' z_outSize' z_out' => vc_MD_near_56 a_p1 z_soughtSize z_suffixes z_row z_sought z_start z_documentOf post k x2' x3' x4' z_thrown' z_outSize' z_out') x2 x3 x4 z_thrown z_outSize z_out)))))
def vc_MD_near_41 (a_p1 : Int32) (z_soughtSize : Int32) (z_suffixes : Int32) (z_row : Nat → Int32) (z_sought : Nat → Int32) (z_start : Nat → Int32) (z_documentOf : Nat → Int32) (post : Int32 → Int32 → Int32 → (Nat → Int32) → Prop) (k1 : Int32) (k2 : Int32) (z_thrown : Int32) (z_outSize : Int32) (z_out : Nat → Int32) : Prop :=
  vc_MD_refuse k1 k2 (fun r10 u10_0 => ((r10 = 0 → ∃ j : Nat, vc_MD_near_56 a_p1 z_soughtSize z_suffixes z_row z_sought z_start z_documentOf post j 0 (-1) 0 u10_0 z_outSize z_out) ∧ (¬ (r10 = 0) → post 0 u10_0 z_outSize z_out))) z_thrown
def vc_MD_near_21 (a_p1 : Int32) (z_soughtSize : Int32) (z_suffixes : Int32) (z_row : Nat → Int32) (z_sought : Nat → Int32) (z_start : Nat → Int32) (z_documentOf : Nat → Int32) (post : Int32 → Int32 → Int32 → (Nat → Int32) → Prop) (k1 : Int32) (k2 : Int32) (z_thrown : Int32) (z_outSize : Int32) (z_out : Nat → Int32) : Prop :=
  vc_MD_refuse k1 k2 (fun r12 u12_0 => ((¬ r12 = 0 → post 0 u12_0 z_outSize z_out) ∧ (r12 = 0 → ((¬ z_soughtSize = 0 → vc_MD_near_41 a_p1 z_soughtSize z_suffixes z_row z_sought z_start z_documentOf post 2 0 u12_0 z_outSize z_out) ∧ (z_soughtSize = 0 → vc_MD_near_41 a_p1 z_soughtSize z_suffixes z_row z_sought z_start z_documentOf post 2 1 u12_0 z_outSize z_out))))) z_thrown
def vc_MD_near_16 (a_p1 : Int32) (z_soughtSize : Int32) (z_suffixes : Int32) (z_row : Nat → Int32) (z_sought : Nat → Int32) (z_start : Nat → Int32) (z_documentOf : Nat → Int32) (post : Int32 → Int32 → Int32 → (Nat → Int32) → Prop) (k1 : Int32) (z_thrown : Int32) (z_outSize : Int32) (z_out : Nat → Int32) : Prop :=
  vc_MD_near_21 a_p1 z_soughtSize z_suffixes z_row z_sought z_start z_documentOf post k1 1 z_thrown z_outSize z_out
def vc_MD_near (a_p1 : Int32) (z_soughtSize : Int32) (z_suffixes : Int32) (z_row : Nat → Int32) (z_sought : Nat → Int32) (z_start : Nat → Int32) (z_documentOf : Nat → Int32) (post : Int32 → Int32 → Int32 → (Nat → Int32) → Prop) (z_thrown : Int32) (z_outSize : Int32) (z_out : Nat → Int32) : Prop :=
  ((a_p1 < 0 → vc_MD_near_16 a_p1 z_soughtSize z_suffixes z_row z_sought z_start z_documentOf post 1 0 z_outSize z_out) ∧ (¬ (a_p1 < 0) → ((a_p1 ≤ 3 → vc_MD_near_21 a_p1 z_soughtSize z_suffixes z_row z_sought z_start z_documentOf post 1 0 0 z_outSize z_out) ∧ (¬ (a_p1 ≤ 3) → vc_MD_near_16 a_p1 z_soughtSize z_suffixes z_row z_sought z_start z_documentOf post 1 0 z_outSize z_out))))
def vc_MD_matched_109 (z_soughtSize : Int32) (z_suffixes : Int32) (z_row : Nat → Int32) (z_sought : Nat → Int32) (z_start : Nat → Int32) (z_documentOf : Nat → Int32) (post : Int32 → Int32 → Prop) (K44 : Int32 → Int32 → Int32 → Int32 → Int32 → Prop) (x1 : Int32) (x2 : Int32) (x3 : Int32) (x4 : Int32) (x5 : Int32) (z_thrown : Int32) : Prop :=
  K44 x1 x2 (if x3 < x5 then x5 else x3) (x4 + 1) z_thrown
def vc_MD_matched_56 (z_soughtSize : Int32) (z_suffixes : Int32) (z_row : Nat → Int32) (z_sought : Nat → Int32) (z_start : Nat → Int32) (z_documentOf : Nat → Int32) (post : Int32 → Int32 → Prop) (K44 : Int32 → Int32 → Int32 → Int32 → Int32 → Prop) : Nat → Int32 → Int32 → Int32 → Int32 → Int32 → Int32 → Prop
  | 0, _, _, _, _, _, _ => False
  | k + 1, x1, x2, x3, x4, x5, z_thrown => ((z_soughtSize ≤ (x2 + x5) → vc_MD_matched_109 z_soughtSize z_suffixes z_row z_sought z_start z_documentOf post K44 x1 x2 x3 x4 x5 z_thrown) ∧ (¬ (z_soughtSize ≤ (x2 + x5)) → vc_MD_endOf x4 z_start z_documentOf (fun r2 => ((r2 ≤ (x4 + x5) → vc_MD_matched_109 z_soughtSize z_suffixes z_row z_sought z_start z_documentOf post K44 x1 x2 x3 x4 x5 z_thrown) ∧ (¬ (r2 ≤ (x4 + x5)) → vp_in (x4 + x5) 16384 ∧ vp_in (x2 + x5) 200 ∧ ((¬ (z_row (x4 + x5).toNatClampNeg) = (z_sought (x2 + x5).toNatClampNeg) → vc_MD_matched_109 z_soughtSize z_suffixes z_row z_sought z_start z_documentOf post K44 x1 x2 x3 x4 x5 z_thrown) ∧ ((z_row (x4 + x5).toNatClampNeg) = (z_sought (x2 + x5).toNatClampNeg) → vc_MD_matched_56 z_soughtSize z_suffixes z_row z_sought z_start z_documentOf post K44 k x1 x2 x3 x4 (x5 + 1) z_thrown)))))))
def vc_MD_matched_44 (z_soughtSize : Int32) (z_suffixes : Int32) (z_row : Nat → Int32) (z_sought : Nat → Int32) (z_start : Nat → Int32) (z_documentOf : Nat → Int32) (post : Int32 → Int32 → Prop) (K31 : Int32 → Int32 → Int32 → Prop) : Nat → Int32 → Int32 → Int32 → Int32 → Int32 → Prop
  | 0, _, _, _, _, _ => False
  | k + 1, x1, x2, x3, x4, z_thrown => ((z_suffixes ≤ x4 → K31 (x1 + x3) (x2 + 1) z_thrown) ∧ (¬ (z_suffixes ≤ x4) → ∃ j : Nat, vc_MD_matched_56 z_soughtSize z_suffixes z_row z_sought z_start z_documentOf post (fun x1' x2' x3' x4' z_thrown' => vc_MD_matched_44 z_soughtSize z_suffixes z_row z_sought z_start z_documentOf post K31 k x1' x2' x3' x4' z_thrown') j x1 x2 x3 x4 0 z_thrown))
def vc_MD_matched_31 (z_soughtSize : Int32) (z_suffixes : Int32) (z_row : Nat → Int32) (z_sought : Nat → Int32) (z_start : Nat → Int32) (z_documentOf : Nat → Int32) (post : Int32 → Int32 → Prop) : Nat → Int32 → Int32 → Int32 → Prop
  | 0, _, _, _ => False
  | k + 1, x1, x2, z_thrown => ((z_soughtSize ≤ x2 → post x1 z_thrown) ∧ (¬ (z_soughtSize ≤ x2) → ∃ j : Nat, vc_MD_matched_44 z_soughtSize z_suffixes z_row z_sought z_start z_documentOf post (fun x1' x2' z_thrown' => vc_MD_matched_31 z_soughtSize z_suffixes z_row z_sought z_start z_documentOf post k x1' x2' z_thrown') j x1 x2 0 0 z_thrown))
def vc_MD_matched_19 (z_soughtSize : Int32) (z_suffixes : Int32) (z_row : Nat → Int32) (z_sought : Nat → Int32) (z_start : Nat → Int32) (z_documentOf : Nat → Int32) (post : Int32 → Int32 → Prop) (k1 : Int32) (k2 : Int32) (z_thrown : Int32) : Prop :=
  vc_MD_refuse k1 k2 (fun r7 u7_0 => ((r7 = 0 → ∃ j : Nat, vc_MD_matched_31 z_soughtSize z_suffixes z_row z_sought z_start z_documentOf post j 0 0 u7_0) ∧ (¬ (r7 = 0) → post 0 u7_0))) z_thrown
def vc_MD_matched (z_soughtSize : Int32) (z_suffixes : Int32) (z_row : Nat → Int32) (z_sought : Nat → Int32) (z_start : Nat → Int32) (z_documentOf : Nat → Int32) (post : Int32 → Int32 → Prop) (z_thrown : Int32) : Prop :=
  ((¬ z_soughtSize = 0 → vc_MD_matched_19 z_soughtSize z_suffixes z_row z_sought z_start z_documentOf post 1 0 0) ∧ (z_soughtSize = 0 → vc_MD_matched_19 z_soughtSize z_suffixes z_row z_sought z_start z_documentOf post 1 1 0))
def vc_MD_suffix_24 (a_p1 : Int32) (z_suffixes : Int32) (z_start : Nat → Int32) (z_documentOf : Nat → Int32) (z_order : Nat → Int32) (post : Int32 → Int32 → Prop) (k1 : Int32) (k2 : Int32) (z_thrown : Int32) : Prop :=
  vc_MD_refuse k1 k2 (fun r1 u1_0 => ((r1 = 0 → vp_in a_p1 16384 ∧ vc_MD_where (z_order a_p1.toNatClampNeg) z_start z_documentOf (fun r3 => post r3 u1_0)) ∧ (¬ (r1 = 0) → post 0 u1_0))) z_thrown
def vc_MD_suffix_19 (a_p1 : Int32) (z_suffixes : Int32) (z_start : Nat → Int32) (z_documentOf : Nat → Int32) (z_order : Nat → Int32) (post : Int32 → Int32 → Prop) (k1 : Int32) (z_thrown : Int32) : Prop :=
  vc_MD_suffix_24 a_p1 z_suffixes z_start z_documentOf z_order post k1 1 z_thrown
def vc_MD_suffix (a_p1 : Int32) (z_suffixes : Int32) (z_start : Nat → Int32) (z_documentOf : Nat → Int32) (z_order : Nat → Int32) (post : Int32 → Int32 → Prop) (z_thrown : Int32) : Prop :=
  ((a_p1 < 0 → vc_MD_suffix_19 a_p1 z_suffixes z_start z_documentOf z_order post 1 0) ∧ (¬ (a_p1 < 0) → ((a_p1 < z_suffixes → vc_MD_suffix_24 a_p1 z_suffixes z_start z_documentOf z_order post 1 0 0) ∧ (¬ (a_p1 < z_suffixes) → vc_MD_suffix_19 a_p1 z_suffixes z_start z_documentOf z_order post 1 0))))
def vc_MD_rank_22 (a_p1 : Int32) (z_indexed : Int32) (z_start : Nat → Int32) (z_rankOf : Nat → Int32) (post : Int32 → Int32 → Prop) (x2 : Int32) (k1 : Int32) (k2 : Int32) (z_thrown : Int32) : Prop :=
  vc_MD_refuse k1 k2 (fun r1 u1_0 => ((r1 = 0 → vp_in x2 16384 ∧ post (z_rankOf x2.toNatClampNeg) u1_0) ∧ (¬ (r1 = 0) → post 0 u1_0))) z_thrown
def vc_MD_rank (a_p1 : Int32) (z_indexed : Int32) (z_start : Nat → Int32) (z_rankOf : Nat → Int32) (post : Int32 → Int32 → Prop) (z_thrown : Int32) : Prop :=
  vc_MD_placeOf a_p1 z_indexed z_start (fun r3 => ((0 ≤ r3 → vc_MD_rank_22 a_p1 z_indexed z_start z_rankOf post r3 1 0 0) ∧ (¬ (0 ≤ r3) → vc_MD_rank_22 a_p1 z_indexed z_start z_rankOf post r3 1 1 0)))
def vc_MD_common_34 (a_p1 : Int32) (a_p2 : Int32) (z_indexed : Int32) (z_row : Nat → Int32) (z_start : Nat → Int32) (z_documentOf : Nat → Int32) (post : Int32 → Int32 → Prop) (x3 : Int32) (x4 : Int32) (k1 : Int32) (k2 : Int32) (z_thrown : Int32) : Prop :=
  vc_MD_refuse k1 k2 (fun r1 u1_0 => ((r1 = 0 → vc_MD_alike x3 x4 z_row z_start z_documentOf (fun r3 => post r3 u1_0)) ∧ (¬ (r1 = 0) → post 0 u1_0))) z_thrown
def vc_MD_common_29 (a_p1 : Int32) (a_p2 : Int32) (z_indexed : Int32) (z_row : Nat → Int32) (z_start : Nat → Int32) (z_documentOf : Nat → Int32) (post : Int32 → Int32 → Prop) (x3 : Int32) (x4 : Int32) (k1 : Int32) (z_thrown : Int32) : Prop :=
  vc_MD_common_34 a_p1 a_p2 z_indexed z_row z_start z_documentOf post x3 x4 k1 1 z_thrown
def vc_MD_common (a_p1 : Int32) (a_p2 : Int32) (z_indexed : Int32) (z_row : Nat → Int32) (z_start : Nat → Int32) (z_documentOf : Nat → Int32) (post : Int32 → Int32 → Prop) (z_thrown : Int32) : Prop :=
  vc_MD_placeOf a_p1 z_indexed z_start (fun r4 => vc_MD_placeOf a_p2 z_indexed z_start (fun r5 => ((r4 < 0 → vc_MD_common_29 a_p1 a_p2 z_indexed z_row z_start z_documentOf post r4 r5 1 0) ∧ (¬ (r4 < 0) → ((0 ≤ r5 → vc_MD_common_34 a_p1 a_p2 z_indexed z_row z_start z_documentOf post r4 r5 1 0 0) ∧ (¬ (0 ≤ r5) → vc_MD_common_29 a_p1 a_p2 z_indexed z_row z_start z_documentOf post r4 r5 1 0))))))
def vc_MD_repeat_112 (a_p1 : Int32) (z_suffixes : Int32) (z_row : Nat → Int32) (z_order : Nat → Int32) (z_same : Nat → Int32) (post : Int32 → Int32 → Int32 → (Nat → Int32) → Prop) (K38 : Int32 → Int32 → Int32 → Int32 → Int32 → (Nat → Int32) → Prop) (x2 : Int32) (x3 : Int32) (x4 : Int32) (z_thrown : Int32) (z_outSize : Int32) (z_out : Nat → Int32) : Prop :=
  K38 x2 x3 (x4 + 1) z_thrown z_outSize z_out
def vc_MD_repeat_66 (a_p1 : Int32) (z_suffixes : Int32) (z_row : Nat → Int32) (z_order : Nat → Int32) (z_same : Nat → Int32) (post : Int32 → Int32 → Int32 → (Nat → Int32) → Prop) (K38 : Int32 → Int32 → Int32 → Int32 → Int32 → (Nat → Int32) → Prop) : Nat → Int32 → Int32 → Int32 → Int32 → Int32 → Int32 → Int32 → (Nat → Int32) → Prop
  | 0, _, _, _, _, _, _, _, _ => False
  | k + 1, x2, x3, x4, x5, x6, z_thrown, z_outSize, z_out => (((x4 + a_p1) ≤ x6 → ((x5 ≤ x2 → vc_MD_repeat_112 a_p1 z_suffixes z_row z_order z_same post K38 x2 x3 x4 z_thrown z_outSize z_out) ∧ (¬ (x5 ≤ x2) → vp_in x4 16384 ∧ vc_MD_repeat_112 a_p1 z_suffixes z_row z_order z_same post K38 x5 (z_order x4.toNatClampNeg) x4 z_thrown z_outSize z_out))) ∧ (¬ ((x4 + a_p1) ≤ x6) → vp_in x6 16385 ∧ vc_MD_repeat_66 a_p1 z_suffixes z_row z_order z_same post K38 k x2 x3 x4 (if (z_same x6.toNatClampNeg) < x5 then (z_same x6.toNatClampNeg) else x5) (x6 + 1) z_thrown z_outSize z_out))
def vc_MD_repeat_38 (a_p1 : Int32) (z_suffixes : Int32) (z_row : Nat → Int32) (z_order : Nat → Int32) (z_same : Nat → Int32) (post : Int32 → Int32 → Int32 → (Nat → Int32) → Prop) : Nat → Int32 → Int32 → Int32 → Int32 → Int32 → (Nat → Int32) → Prop
  | 0, _, _, _, _, _, _ => False
  | k + 1, x2, x3, x4, z_thrown, z_outSize, z_out => ((z_suffixes < (x4 + a_p1) → vc_MD_tell x3 x2 z_row (fun u4_0 u4_1 => post x2 z_thrown u4_0 u4_1) z_outSize z_out) ∧ (¬ (z_suffixes < (x4 + a_p1)) → vp_in (x4 + 1) 16385 ∧ ∃ j : Nat, vc_MD_repeat_66 a_p1 z_suffixes z_row z_order z_same post (fun x2' x3' x4' z_thrown' z_outSize' z_out' => vc_MD_repeat_38 a_p1 z_suffixes z_row z_order z_same post k x2' x3' x4' z_thrown' z_outSize' z_out') j x2 x3 x4 (z_same (x4 + 1).toNatClampNeg) (x4 + 2) z_thrown z_outSize z_out))
def vc_MD_repeat_23 (a_p1 : Int32) (z_suffixes : Int32) (z_row : Nat → Int32) (z_order : Nat → Int32) (z_same : Nat → Int32) (post : Int32 → Int32 → Int32 → (Nat → Int32) → Prop) (k1 : Int32) (k2 : Int32) (z_thrown : Int32) (z_outSize : Int32) (z_out : Nat → Int32) : Prop :=
  vc_MD_refuse k1 k2 (fun r5 u5_0 => ((r5 = 0 → ∃ j : Nat, vc_MD_repeat_38 a_p1 z_suffixes z_row z_order z_same post j 0 0 0 u5_0 z_outSize z_out) ∧ (¬ (r5 = 0) → post 0 u5_0 z_outSize z_out))) z_thrown
def vc_MD_repeat_18 (a_p1 : Int32) (z_suffixes : Int32) (z_row : Nat → Int32) (z_order : Nat → Int32) (z_same : Nat → Int32) (post : Int32 → Int32 → Int32 → (Nat → Int32) → Prop) (k1 : Int32) (z_thrown : Int32) (z_outSize : Int32) (z_out : Nat → Int32) : Prop :=
  vc_MD_repeat_23 a_p1 z_suffixes z_row z_order z_same post k1 1 z_thrown z_outSize z_out
def vc_MD_repeat (a_p1 : Int32) (z_suffixes : Int32) (z_row : Nat → Int32) (z_order : Nat → Int32) (z_same : Nat → Int32) (post : Int32 → Int32 → Int32 → (Nat → Int32) → Prop) (z_thrown : Int32) (z_outSize : Int32) (z_out : Nat → Int32) : Prop :=
  ((a_p1 < 2 → vc_MD_repeat_18 a_p1 z_suffixes z_row z_order z_same post 1 0 z_outSize z_out) ∧ (¬ (a_p1 < 2) → ((a_p1 ≤ 20 → vc_MD_repeat_23 a_p1 z_suffixes z_row z_order z_same post 1 0 0 z_outSize z_out) ∧ (¬ (a_p1 ≤ 20) → vc_MD_repeat_18 a_p1 z_suffixes z_row z_order z_same post 1 0 z_outSize z_out))))
def vc_MD_shared_227 (a_p1 : Int32) (z_suffixes : Int32) (z_row : Nat → Int32) (z_start : Nat → Int32) (z_documentOf : Nat → Int32) (z_order : Nat → Int32) (z_same : Nat → Int32) (post : Int32 → Int32 → Int32 → (Nat → Int32) → (Nat → Int32) → Prop) (K38 : Int32 → Int32 → Int32 → Int32 → Int32 → (Nat → Int32) → (Nat → Int32) → Prop) (x2 : Int32) (x3 : Int32) (x4 : Int32) (z_thrown : Int32) (z_outSize : Int32) (z_out : Nat → Int32) (z_has : Nat → Int32) : Prop :=
  K38 x2 x3 (x4 + 1) z_thrown z_outSize z_out z_has
def vc_MD_shared_221 (a_p1 : Int32) (z_suffixes : Int32) (z_row : Nat → Int32) (z_start : Nat → Int32) (z_documentOf : Nat → Int32) (z_order : Nat → Int32) (z_same : Nat → Int32) (post : Int32 → Int32 → Int32 → (Nat → Int32) → (Nat → Int32) → Prop) (K119 : Int32 → Int32 → Int32 → Int32 → Int32 → Int32 → Int32 → Int32 → (Nat → Int32) → (Nat → Int32) → Prop) (x2 : Int32) (x3 : Int32) (x4 : Int32) (x5 : Int32) (x6 : Int32) (x7 : Int32) (z_thrown : Int32) (z_outSize : Int32) (z_out : Nat → Int32) (z_has : Nat → Int32) : Prop :=
  K119 x2 x3 x4 x5 x6 (x7 + 1) z_thrown z_outSize z_out z_has
def vc_MD_shared_119 (a_p1 : Int32) (z_suffixes : Int32) (z_row : Nat → Int32) (z_start : Nat → Int32) (z_documentOf : Nat → Int32) (z_order : Nat → Int32) (z_same : Nat → Int32) (post : Int32 → Int32 → Int32 → (Nat → Int32) → (Nat → Int32) → Prop) (K38 : Int32 → Int32 → Int32 → Int32 → Int32 → (Nat → Int32) → (Nat → Int32) → Prop) : Nat → Int32 → Int32 → Int32 → Int32 → Int32 → Int32 → Int32 → Int32 → (Nat → Int32) → (Nat → Int32) → Prop
  | 0, _, _, _, _, _, _, _, _, _, _ => False
  | k + 1, x2, x3, x4, x5, x6, x7, z_thrown, z_outSize, z_out, z_has => ((z_suffixes ≤ x7 → vc_MD_shared_227 a_p1 z_suffixes z_row z_start z_documentOf z_order z_same post K38 x2 x3 x4 z_thrown z_outSize z_out z_has) ∧ (¬ (z_suffixes ≤ x7) → ((x6 ≤ x2 → vc_MD_shared_227 a_p1 z_suffixes z_row z_start z_documentOf z_order z_same post K38 x2 x3 x4 z_thrown z_outSize z_out z_has) ∧ (¬ (x6 ≤ x2) → vp_in x7 16385 ∧ ((x2 < (if (z_same x7.toNatClampNeg) < x6 then (z_same x7.toNatClampNeg) else x6) → vp_in x7 16384 ∧ vp_in (z_order x7.toNatClampNeg) 16384 ∧ vp_in (z_documentOf (z_order x7.toNatClampNeg).toNatClampNeg) 64 ∧ (((z_has (z_documentOf (z_order x7.toNatClampNeg).toNatClampNeg).toNatClampNeg) = 0 → vp_in x7 16384 ∧ vp_in (z_order x7.toNatClampNeg) 16384 ∧ vp_in (z_documentOf (z_order x7.toNatClampNeg).toNatClampNeg) 64 ∧ ((a_p1 ≤ (x5 + 1) → vp_in x4 16384 ∧ vc_MD_shared_221 a_p1 z_suffixes z_row z_start z_documentOf z_order z_same post (fun x2' x3' x4' x5' x6' x7' z_thrown' z_outSize' z_out' z_has' => vc_MD_shared_119 a_p1 z_suffixes z_row z_start z_documentOf z_order z_same post K38 k x2' x3' x4' x5' x6' x7' z_thrown' z_outSize' z_out' z_has') (if (z_same x7.toNatClampNeg) < x6 then (z_same x7.toNatClampNeg) else x6) (z_order x4.toNatClampNeg) x4 (x5 + 1) (if (z_same x7.toNatClampNeg) < x6 then (z_same x7.toNatClampNeg) else x6) x7 z_thrown z_outSize z_out (upd z_has (z_documentOf (z_order x7.toNatClampNeg).toNatClampNeg).toNatClampNeg (vp_nar .boolean 1))) ∧ (¬ (a_p1 ≤ (x5 + 1)) → vc_MD_shared_221 a_p1 z_suffixes z_row z_start z_documentOf z_order z_same post (fun x2' x3' x4' x5' x6' x7' z_thrown' z_outSize' z_out' z_has' => vc_MD_shared_119 a_p1 z_suffixes z_row z_start z_documentOf z_order z_same post K38 k x2' x3' x4' x5' x6' x7' z_thrown' z_outSize' z_out' z_has') x2 x3 x4 (x5 + 1) (if (z_same x7.toNatClampNeg) < x6 then (z_same x7.toNatClampNeg) else x6) x7 z_thrown z_outSize z_out (upd z_has (z_documentOf (z_order x7.toNatClampNeg).toNatClampNeg).toNatClampNeg (vp_nar .boolean 1))))) ∧ (¬ ((z_has (z_documentOf (z_order x7.toNatClampNeg).toNatClampNeg).toNatClampNeg) = 0) → vc_MD_shared_221 a_p1 z_suffixes z_row z_start z_documentOf z_order z_same post (fun x2' x3' x4' x5' x6' x7' z_thrown' z_outSize' z_out' z_has' => vc_MD_shared_119 a_p1 z_suffixes z_row z_start z_documentOf z_order z_same post K38 k x2' x3' x4' x5' x6' x7' z_thrown' z_outSize' z_out' z_has') x2 x3 x4 x5 (if (z_same x7.toNatClampNeg) < x6 then (z_same x7.toNatClampNeg) else x6) x7 z_thrown z_outSize z_out z_has))) ∧ (¬ (x2 < (if (z_same x7.toNatClampNeg) < x6 then (z_same x7.toNatClampNeg) else x6)) → vc_MD_shared_227 a_p1 z_suffixes z_row z_start z_documentOf z_order z_same post K38 x2 x3 x4 z_thrown z_outSize z_out z_has))))))
def vc_MD_shared_50 (a_p1 : Int32) (z_suffixes : Int32) (z_row : Nat → Int32) (z_start : Nat → Int32) (z_documentOf : Nat → Int32) (z_order : Nat → Int32) (z_same : Nat → Int32) (post : Int32 → Int32 → Int32 → (Nat → Int32) → (Nat → Int32) → Prop) (K38 : Int32 → Int32 → Int32 → Int32 → Int32 → (Nat → Int32) → (Nat → Int32) → Prop) : Nat → Int32 → Int32 → Int32 → Int32 → Int32 → Int32 → (Nat → Int32) → (Nat → Int32) → Prop
  | 0, _, _, _, _, _, _, _, _ => False
  | k + 1, x2, x3, x4, x5, z_thrown, z_outSize, z_out, z_has => ((64 ≤ x5 → vp_in x4 16384 ∧ vp_in (z_order x4.toNatClampNeg) 16384 ∧ vp_in (z_documentOf (z_order x4.toNatClampNeg).toNatClampNeg) 64 ∧ vp_in x4 16384 ∧ vc_MD_endOf (z_order x4.toNatClampNeg) z_start z_documentOf (fun r7 => vp_in x4 16384 ∧ ∃ j : Nat, vc_MD_shared_119 a_p1 z_suffixes z_row z_start z_documentOf z_order z_same post K38 j x2 x3 x4 1 (r7 - (z_order x4.toNatClampNeg)) (x4 + 1) z_thrown z_outSize z_out (upd z_has (z_documentOf (z_order x4.toNatClampNeg).toNatClampNeg).toNatClampNeg (vp_nar .boolean 1)))) ∧ (¬ (64 ≤ x5) → vp_in x5 64 ∧ vc_MD_shared_50 a_p1 z_suffixes z_row z_start z_documentOf z_order z_same post K38 k x2 x3 x4 (x5 + 1) z_thrown z_outSize z_out (upd z_has x5.toNatClampNeg (vp_nar .boolean 0))))
def vc_MD_shared_38 (a_p1 : Int32) (z_suffixes : Int32) (z_row : Nat → Int32) (z_start : Nat → Int32) (z_documentOf : Nat → Int32) (z_order : Nat → Int32) (z_same : Nat → Int32) (post : Int32 → Int32 → Int32 → (Nat → Int32) → (Nat → Int32) → Prop) : Nat → Int32 → Int32 → Int32 → Int32 → Int32 → (Nat → Int32) → (Nat → Int32) → Prop
  | 0, _, _, _, _, _, _, _ => False
  | k + 1, x2, x3, x4, z_thrown, z_outSize, z_out, z_has => ((z_suffixes ≤ x4 → vc_MD_tell x3 x2 z_row (fun u9_0 u9_1 => post x2 z_thrown u9_0 u9_1 z_has) z_outSize z_out) ∧ (¬ (z_suffixes ≤ x4) → ∃ j : Nat, vc_MD_shared_50 a_p1 z_suffixes z_row z_start z_documentOf z_order z_same post (fun x2' x3' x4' z_thrown' z_outSize' z_out' z_has' => vc_MD_shared_38 a_p1 z_suffixes z_row z_start z_documentOf z_order z_same post k x2' x3' x4' z_thrown' z_outSize' z_out' z_has') j x2 x3 x4 0 z_thrown z_outSize z_out z_has))
def vc_MD_shared_23 (a_p1 : Int32) (z_suffixes : Int32) (z_row : Nat → Int32) (z_start : Nat → Int32) (z_documentOf : Nat → Int32) (z_order : Nat → Int32) (z_same : Nat → Int32) (post : Int32 → Int32 → Int32 → (Nat → Int32) → (Nat → Int32) → Prop) (k1 : Int32) (k2 : Int32) (z_thrown : Int32) (z_outSize : Int32) (z_out : Nat → Int32) (z_has : Nat → Int32) : Prop :=
  vc_MD_refuse k1 k2 (fun r10 u10_0 => ((r10 = 0 → ∃ j : Nat, vc_MD_shared_38 a_p1 z_suffixes z_row z_start z_documentOf z_order z_same post j 0 0 0 u10_0 z_outSize z_out z_has) ∧ (¬ (r10 = 0) → post 0 u10_0 z_outSize z_out z_has))) z_thrown
def vc_MD_shared_18 (a_p1 : Int32) (z_suffixes : Int32) (z_row : Nat → Int32) (z_start : Nat → Int32) (z_documentOf : Nat → Int32) (z_order : Nat → Int32) (z_same : Nat → Int32) (post : Int32 → Int32 → Int32 → (Nat → Int32) → (Nat → Int32) → Prop) (k1 : Int32) (z_thrown : Int32) (z_outSize : Int32) (z_out : Nat → Int32) (z_has : Nat → Int32) : Prop :=
  vc_MD_shared_23 a_p1 z_suffixes z_row z_start z_documentOf z_order z_same post k1 1 z_thrown z_outSize z_out z_has
def vc_MD_shared (a_p1 : Int32) (z_suffixes : Int32) (z_row : Nat → Int32) (z_start : Nat → Int32) (z_documentOf : Nat → Int32) (z_order : Nat → Int32) (z_same : Nat → Int32) (post : Int32 → Int32 → Int32 → (Nat → Int32) → (Nat → Int32) → Prop) (z_thrown : Int32) (z_outSize : Int32) (z_out : Nat → Int32) (z_has : Nat → Int32) : Prop :=
  ((a_p1 < 2 → vc_MD_shared_18 a_p1 z_suffixes z_row z_start z_documentOf z_order z_same post 1 0 z_outSize z_out z_has) ∧ (¬ (a_p1 < 2) → ((a_p1 ≤ 64 → vc_MD_shared_23 a_p1 z_suffixes z_row z_start z_documentOf z_order z_same post 1 0 0 z_outSize z_out z_has) ∧ (¬ (a_p1 ≤ 64) → vc_MD_shared_18 a_p1 z_suffixes z_row z_start z_documentOf z_order z_same post 1 0 z_outSize z_out z_has))))
def vc_MD_pieces_9 (z_suffixes : Int32) (z_start : Nat → Int32) (z_documentOf : Nat → Int32) (z_order : Nat → Int32) (z_same : Nat → Int32) (post : Int64 → Int32 → Prop) : Nat → Int64 → Int32 → Int32 → Prop
  | 0, _, _, _ => False
  | k + 1, x1, x3, z_thrown => ((z_suffixes ≤ x3 → post x1 z_thrown) ∧ (¬ (z_suffixes ≤ x3) → vp_in x3 16384 ∧ vc_MD_endOf (z_order x3.toNatClampNeg) z_start z_documentOf (fun r2 => vp_in x3 16384 ∧ vp_in x3 16385 ∧ vc_MD_pieces_9 z_suffixes z_start z_documentOf z_order z_same post k (x1 + (((r2 - (z_order x3.toNatClampNeg)) - (z_same x3.toNatClampNeg)).toInt64)) (x3 + 1) z_thrown)))
def vc_MD_pieces (z_suffixes : Int32) (z_start : Nat → Int32) (z_documentOf : Nat → Int32) (z_order : Nat → Int32) (z_same : Nat → Int32) (post : Int64 → Int32 → Prop) (z_thrown : Int32) : Prop :=
  ∃ j : Nat, vc_MD_pieces_9 z_suffixes z_start z_documentOf z_order z_same post j 0 0 0
def vc_MD_piece_102 (a_p1 : Int64) (z_suffixes : Int32) (z_row : Nat → Int32) (z_start : Nat → Int32) (z_documentOf : Nat → Int32) (z_order : Nat → Int32) (z_same : Nat → Int32) (post : Int32 → Int32 → Int32 → (Nat → Int32) → Prop) (z_thrown : Int32) (z_outSize : Int32) (z_out : Nat → Int32) : Prop :=
  vc_MD_refuse 1 1 (fun r1 u1_0 => post 0 u1_0 z_outSize z_out) z_thrown
def vc_MD_piece_10 (a_p1 : Int64) (z_suffixes : Int32) (z_row : Nat → Int32) (z_start : Nat → Int32) (z_documentOf : Nat → Int32) (z_order : Nat → Int32) (z_same : Nat → Int32) (post : Int32 → Int32 → Int32 → (Nat → Int32) → Prop) : Nat → Int64 → Int32 → Int32 → Int32 → (Nat → Int32) → Prop
  | 0, _, _, _, _, _ => False
  | k + 1, x3, x5, z_thrown, z_outSize, z_out => ((z_suffixes ≤ x5 → vc_MD_piece_102 a_p1 z_suffixes z_row z_start z_documentOf z_order z_same post z_thrown z_outSize z_out) ∧ (¬ (z_suffixes ≤ x5) → (((lg_cmp a_p1 0) < 0 → vc_MD_piece_102 a_p1 z_suffixes z_row z_start z_documentOf z_order z_same post z_thrown z_outSize z_out) ∧ (¬ ((lg_cmp a_p1 0) < 0) → vp_in x5 16384 ∧ vc_MD_endOf (z_order x5.toNatClampNeg) z_start z_documentOf (fun r4 => vp_in x5 16384 ∧ vp_in x5 16385 ∧ ((0 ≤ (lg_cmp x3 (((r4 - (z_order x5.toNatClampNeg)) - (z_same x5.toNatClampNeg)).toInt64)) → vc_MD_piece_10 a_p1 z_suffixes z_row z_start z_documentOf z_order z_same post k (x3 - (((r4 - (z_order x5.toNatClampNeg)) - (z_same x5.toNatClampNeg)).toInt64)) (x5 + 1) z_thrown z_outSize z_out) ∧ (¬ (0 ≤ (lg_cmp x3 (((r4 - (z_order x5.toNatClampNeg)) - (z_same x5.toNatClampNeg)).toInt64))) → vp_in x5 16384 ∧ vp_in x5 16385 ∧ vc_MD_tell (z_order x5.toNatClampNeg) (((z_same x5.toNatClampNeg) + 1) + x3.toInt32) z_row (fun u6_0 u6_1 => post u6_0 z_thrown u6_0 u6_1) z_outSize z_out)))))))
def vc_MD_piece (a_p1 : Int64) (z_suffixes : Int32) (z_row : Nat → Int32) (z_start : Nat → Int32) (z_documentOf : Nat → Int32) (z_order : Nat → Int32) (z_same : Nat → Int32) (post : Int32 → Int32 → Int32 → (Nat → Int32) → Prop) (z_thrown : Int32) (z_outSize : Int32) (z_out : Nat → Int32) : Prop :=
  ∃ j : Nat, vc_MD_piece_10 a_p1 z_suffixes z_row z_start z_documentOf z_order z_same post j a_p1 0 0 z_outSize z_out
def vc_MD_noDocument_24 (a_p1 : Int32) (z_indexed : Int32) (post : Int32 → Int32 → Prop) (k1 : Int32) (k2 : Int32) (z_thrown : Int32) : Prop :=
  vc_MD_refuse k1 k2 (fun r1 u1_0 => narrow .boolean (.int r1) = .int r1 ∧ post r1 u1_0) z_thrown
def vc_MD_noDocument_19 (a_p1 : Int32) (z_indexed : Int32) (post : Int32 → Int32 → Prop) (k1 : Int32) (z_thrown : Int32) : Prop :=
  vc_MD_noDocument_24 a_p1 z_indexed post k1 1 z_thrown
def vc_MD_noDocument (a_p1 : Int32) (z_indexed : Int32) (post : Int32 → Int32 → Prop) (z_thrown : Int32) : Prop :=
  ((a_p1 < 0 → vc_MD_noDocument_19 a_p1 z_indexed post 1 0) ∧ (¬ (a_p1 < 0) → ((a_p1 < z_indexed → vc_MD_noDocument_24 a_p1 z_indexed post 1 0 0) ∧ (¬ (a_p1 < z_indexed) → vc_MD_noDocument_19 a_p1 z_indexed post 1 0))))
def vc_MD_single_117 (a_p1 : Int32) (z_indexed : Int32) (z_suffixes : Int32) (z_row : Nat → Int32) (z_start : Nat → Int32) (z_rankOf : Nat → Int32) (z_same : Nat → Int32) (post : Int32 → Int32 → Int32 → (Nat → Int32) → Prop) (K22 : Int32 → Int32 → Int32 → Int32 → Int32 → (Nat → Int32) → Prop) (x2 : Int32) (x3 : Int32) (x4 : Int32) (z_thrown : Int32) (z_outSize : Int32) (z_out : Nat → Int32) : Prop :=
  K22 x2 x3 (x4 + 1) z_thrown z_outSize z_out
def vc_MD_single_111 (a_p1 : Int32) (z_indexed : Int32) (z_suffixes : Int32) (z_row : Nat → Int32) (z_start : Nat → Int32) (z_rankOf : Nat → Int32) (z_same : Nat → Int32) (post : Int32 → Int32 → Int32 → (Nat → Int32) → Prop) (K22 : Int32 → Int32 → Int32 → Int32 → Int32 → (Nat → Int32) → Prop) (x4 : Int32) (x6 : Int32) (z_thrown : Int32) (z_outSize : Int32) (z_out : Nat → Int32) : Prop :=
  vc_MD_single_117 a_p1 z_indexed z_suffixes z_row z_start z_rankOf z_same post K22 x6 x4 x4 z_thrown z_outSize z_out
def vc_MD_single_76 (a_p1 : Int32) (z_indexed : Int32) (z_suffixes : Int32) (z_row : Nat → Int32) (z_start : Nat → Int32) (z_rankOf : Nat → Int32) (z_same : Nat → Int32) (post : Int32 → Int32 → Int32 → (Nat → Int32) → Prop) (K22 : Int32 → Int32 → Int32 → Int32 → Int32 → (Nat → Int32) → Prop) (x2 : Int32) (x3 : Int32) (x4 : Int32) (k0 : Int32) (k1 : Int32) (k2 : Int32) (z_thrown : Int32) (z_outSize : Int32) (z_out : Nat → Int32) : Prop :=
  vp_in (a_p1 + 1) 66 ∧ (((z_start (a_p1 + 1).toNatClampNeg) < (x4 + (k0 + (if k1 < k2 then k2 else k1))) → vc_MD_single_117 a_p1 z_indexed z_suffixes z_row z_start z_rankOf z_same post K22 x2 x3 x4 z_thrown z_outSize z_out) ∧ (¬ ((z_start (a_p1 + 1).toNatClampNeg) < (x4 + (k0 + (if k1 < k2 then k2 else k1)))) → ((x2 ≤ 0 → vc_MD_single_111 a_p1 z_indexed z_suffixes z_row z_start z_rankOf z_same post K22 x4 (k0 + (if k1 < k2 then k2 else k1)) z_thrown z_outSize z_out) ∧ (¬ (x2 ≤ 0) → (((k0 + (if k1 < k2 then k2 else k1)) < x2 → vc_MD_single_111 a_p1 z_indexed z_suffixes z_row z_start z_rankOf z_same post K22 x4 (k0 + (if k1 < k2 then k2 else k1)) z_thrown z_outSize z_out) ∧ (¬ ((k0 + (if k1 < k2 then k2 else k1)) < x2) → vc_MD_single_117 a_p1 z_indexed z_suffixes z_row z_start z_rankOf z_same post K22 x2 x3 x4 z_thrown z_outSize z_out))))))
def vc_MD_single_22 (a_p1 : Int32) (z_indexed : Int32) (z_suffixes : Int32) (z_row : Nat → Int32) (z_start : Nat → Int32) (z_rankOf : Nat → Int32) (z_same : Nat → Int32) (post : Int32 → Int32 → Int32 → (Nat → Int32) → Prop) : Nat → Int32 → Int32 → Int32 → Int32 → Int32 → (Nat → Int32) → Prop
  | 0, _, _, _, _, _, _ => False
  | k + 1, x2, x3, x4, z_thrown, z_outSize, z_out => vp_in (a_p1 + 1) 66 ∧ (((z_start (a_p1 + 1).toNatClampNeg) ≤ x4 → vc_MD_tell x3 x2 z_row (fun u5_0 u5_1 => post x2 z_thrown u5_0 u5_1) z_outSize z_out) ∧ (¬ ((z_start (a_p1 + 1).toNatClampNeg) ≤ x4) → vp_in x4 16384 ∧ vp_in (z_rankOf x4.toNatClampNeg) 16385 ∧ ((z_suffixes ≤ ((z_rankOf x4.toNatClampNeg) + 1) → vc_MD_single_76 a_p1 z_indexed z_suffixes z_row z_start z_rankOf z_same post (fun x2' x3' x4' z_thrown' z_outSize' z_out' => vc_MD_single_22 a_p1 z_indexed z_suffixes z_row z_start z_rankOf z_same post k x2' x3' x4' z_thrown' z_outSize' z_out') x2 x3 x4 1 (z_same (z_rankOf x4.toNatClampNeg).toNatClampNeg) 0 z_thrown z_outSize z_out) ∧ (¬ (z_suffixes ≤ ((z_rankOf x4.toNatClampNeg) + 1)) → vp_in ((z_rankOf x4.toNatClampNeg) + 1) 16385 ∧ vc_MD_single_76 a_p1 z_indexed z_suffixes z_row z_start z_rankOf z_same post (fun x2' x3' x4' z_thrown' z_outSize' z_out' => vc_MD_single_22 a_p1 z_indexed z_suffixes z_row z_start z_rankOf z_same post k x2' x3' x4' z_thrown' z_outSize' z_out') x2 x3 x4 1 (z_same (z_rankOf x4.toNatClampNeg).toNatClampNeg) (z_same ((z_rankOf x4.toNatClampNeg) + 1).toNatClampNeg) z_thrown z_outSize z_out))))
def vc_MD_single (a_p1 : Int32) (z_indexed : Int32) (z_suffixes : Int32) (z_row : Nat → Int32) (z_start : Nat → Int32) (z_rankOf : Nat → Int32) (z_same : Nat → Int32) (post : Int32 → Int32 → Int32 → (Nat → Int32) → Prop) (z_thrown : Int32) (z_outSize : Int32) (z_out : Nat → Int32) : Prop :=
  vc_MD_noDocument a_p1 z_indexed (fun r7 u7_0 => ((r7 = 0 → vp_in a_p1 66 ∧ ∃ j : Nat, vc_MD_single_22 a_p1 z_indexed z_suffixes z_row z_start z_rankOf z_same post j 0 0 (z_start a_p1.toNatClampNeg) u7_0 z_outSize z_out) ∧ (¬ (r7 = 0) → post 0 u7_0 z_outSize z_out))) z_thrown
def vc_MD_phraseAt_53 (a_p1 : Int32) (a_p2 : Int32) (z_row : Nat → Int32) (z_start : Nat → Int32) (z_documentOf : Nat → Int32) (post : Int32 → Int32 → Prop) (K15 : Int32 → Int32 → Int32 → Prop) (x3 : Int32) (x4 : Int32) (z_lesser : Int32) : Prop :=
  K15 x3 (x4 + 1) z_lesser
def vc_MD_phraseAt_15 (a_p1 : Int32) (a_p2 : Int32) (z_row : Nat → Int32) (z_start : Nat → Int32) (z_documentOf : Nat → Int32) (post : Int32 → Int32 → Prop) : Nat → Int32 → Int32 → Int32 → Prop
  | 0, _, _, _ => False
  | k + 1, x3, x4, z_lesser => ((a_p2 ≤ x4 → post (if 1 < x3 then x3 else 1) z_lesser) ∧ (¬ (a_p2 ≤ x4) → vc_MD_alike x4 a_p2 z_row z_start z_documentOf (fun r2 => ((r2 = 0 → vc_MD_phraseAt_53 a_p1 a_p2 z_row z_start z_documentOf post (fun x3' x4' z_lesser' => vc_MD_phraseAt_15 a_p1 a_p2 z_row z_start z_documentOf post k x3' x4' z_lesser') x3 x4 z_lesser) ∧ (¬ (r2 = 0) → ((x3 ≤ r2 → vc_MD_phraseAt_53 a_p1 a_p2 z_row z_start z_documentOf post (fun x3' x4' z_lesser' => vc_MD_phraseAt_15 a_p1 a_p2 z_row z_start z_documentOf post k x3' x4' z_lesser') r2 x4 x4) ∧ (¬ (x3 ≤ r2) → vc_MD_phraseAt_53 a_p1 a_p2 z_row z_start z_documentOf post (fun x3' x4' z_lesser' => vc_MD_phraseAt_15 a_p1 a_p2 z_row z_start z_documentOf post k x3' x4' z_lesser') x3 x4 z_lesser)))))))
def vc_MD_phraseAt (a_p1 : Int32) (a_p2 : Int32) (z_row : Nat → Int32) (z_start : Nat → Int32) (z_documentOf : Nat → Int32) (post : Int32 → Int32 → Prop) (z_lesser : Int32) : Prop :=
  vp_in a_p1 66 ∧ ∃ j : Nat, vc_MD_phraseAt_15 a_p1 a_p2 z_row z_start z_documentOf post j 0 (z_start a_p1.toNatClampNeg) (-1)
def vc_MD_phrases_19 (a_p1 : Int32) (z_indexed : Int32) (z_row : Nat → Int32) (z_start : Nat → Int32) (z_documentOf : Nat → Int32) (post : Int32 → Int32 → Int32 → Prop) : Nat → Int32 → Int32 → Int32 → Int32 → Prop
  | 0, _, _, _, _ => False
  | k + 1, x2, x3, z_thrown, z_lesser => vp_in (a_p1 + 1) 66 ∧ (((z_start (a_p1 + 1).toNatClampNeg) ≤ x3 → post x2 z_thrown z_lesser) ∧ (¬ ((z_start (a_p1 + 1).toNatClampNeg) ≤ x3) → vc_MD_phraseAt a_p1 x3 z_row z_start z_documentOf (fun r2 u2_0 => vc_MD_phrases_19 a_p1 z_indexed z_row z_start z_documentOf post k (x2 + 1) (x3 + r2) z_thrown u2_0) z_lesser))
def vc_MD_phrases (a_p1 : Int32) (z_indexed : Int32) (z_row : Nat → Int32) (z_start : Nat → Int32) (z_documentOf : Nat → Int32) (post : Int32 → Int32 → Int32 → Prop) (z_thrown : Int32) (z_lesser : Int32) : Prop :=
  vc_MD_noDocument a_p1 z_indexed (fun r3 u3_0 => ((r3 = 0 → vp_in a_p1 66 ∧ ∃ j : Nat, vc_MD_phrases_19 a_p1 z_indexed z_row z_start z_documentOf post j 0 (z_start a_p1.toNatClampNeg) u3_0 z_lesser) ∧ (¬ (r3 = 0) → post 0 u3_0 z_lesser))) z_thrown
def vc_MD_phrase_37 (a_p1 : Int32) (a_p2 : Int32) (z_indexed : Int32) (z_row : Nat → Int32) (z_start : Nat → Int32) (z_documentOf : Nat → Int32) (post : Int64 → Int32 → Int32 → Prop) : Nat → Int32 → Int32 → Int32 → Int32 → Prop
  | 0, _, _, _, _ => False
  | k + 1, x3, x4, z_thrown, z_lesser => vp_in (a_p1 + 1) 66 ∧ (((z_start (a_p1 + 1).toNatClampNeg) ≤ x4 → vc_MD_refuse 1 1 (fun r2 u2_0 => post 0 u2_0 z_lesser) z_thrown) ∧ (¬ ((z_start (a_p1 + 1).toNatClampNeg) ≤ x4) → vc_MD_phraseAt a_p1 x4 z_row z_start z_documentOf (fun r3 u3_0 => ((¬ x3 = a_p2 → vc_MD_phrase_37 a_p1 a_p2 z_indexed z_row z_start z_documentOf post k (x3 + 1) (x4 + r3) z_thrown u3_0) ∧ (x3 = a_p2 → ((0 ≤ u3_0 → vp_in a_p1 66 ∧ post ((65536 * r3.toInt64) + ((u3_0 - (z_start a_p1.toNatClampNeg)).toInt64)) z_thrown u3_0) ∧ (¬ (0 ≤ u3_0) → post ((65536 * r3.toInt64) + ((65535 : Int32).toInt64)) z_thrown u3_0))))) z_lesser))
def vc_MD_phrase_19 (a_p1 : Int32) (a_p2 : Int32) (z_indexed : Int32) (z_row : Nat → Int32) (z_start : Nat → Int32) (z_documentOf : Nat → Int32) (post : Int64 → Int32 → Int32 → Prop) (k1 : Int32) (k2 : Int32) (z_thrown : Int32) (z_lesser : Int32) : Prop :=
  vc_MD_refuse k1 k2 (fun r6 u6_0 => ((r6 = 0 → vp_in a_p1 66 ∧ ∃ j : Nat, vc_MD_phrase_37 a_p1 a_p2 z_indexed z_row z_start z_documentOf post j 0 (z_start a_p1.toNatClampNeg) u6_0 z_lesser) ∧ (¬ (r6 = 0) → post 0 u6_0 z_lesser))) z_thrown
def vc_MD_phrase (a_p1 : Int32) (a_p2 : Int32) (z_indexed : Int32) (z_row : Nat → Int32) (z_start : Nat → Int32) (z_documentOf : Nat → Int32) (post : Int64 → Int32 → Int32 → Prop) (z_thrown : Int32) (z_lesser : Int32) : Prop :=
  vc_MD_noDocument a_p1 z_indexed (fun r8 u8_0 => ((¬ r8 = 0 → post 0 u8_0 z_lesser) ∧ (r8 = 0 → ((0 ≤ a_p2 → vc_MD_phrase_19 a_p1 a_p2 z_indexed z_row z_start z_documentOf post 1 0 u8_0 z_lesser) ∧ (¬ (0 ≤ a_p2) → vc_MD_phrase_19 a_p1 a_p2 z_indexed z_row z_start z_documentOf post 1 1 u8_0 z_lesser))))) z_thrown
def vc_MD_out_24 (a_p1 : Int32) (z_outSize : Int32) (z_out : Nat → Int32) (post : Int32 → Int32 → Prop) (k1 : Int32) (k2 : Int32) (z_thrown : Int32) : Prop :=
  vc_MD_refuse k1 k2 (fun r1 u1_0 => ((r1 = 0 → vp_in a_p1 16384 ∧ post ((z_out a_p1.toNatClampNeg) &&& 255) u1_0) ∧ (¬ (r1 = 0) → post 0 u1_0))) z_thrown
def vc_MD_out_19 (a_p1 : Int32) (z_outSize : Int32) (z_out : Nat → Int32) (post : Int32 → Int32 → Prop) (k1 : Int32) (z_thrown : Int32) : Prop :=
  vc_MD_out_24 a_p1 z_outSize z_out post k1 1 z_thrown
def vc_MD_out (a_p1 : Int32) (z_outSize : Int32) (z_out : Nat → Int32) (post : Int32 → Int32 → Prop) (z_thrown : Int32) : Prop :=
  ((a_p1 < 0 → vc_MD_out_19 a_p1 z_outSize z_out post 1 0) ∧ (¬ (a_p1 < 0) → ((a_p1 < z_outSize → vc_MD_out_24 a_p1 z_outSize z_out post 1 0 0) ∧ (¬ (a_p1 < z_outSize) → vc_MD_out_19 a_p1 z_outSize z_out post 1 0))))
def vc_MD_at_22 (a_p1 : Int32) (z_indexed : Int32) (z_row : Nat → Int32) (z_start : Nat → Int32) (post : Int32 → Int32 → Prop) (x2 : Int32) (k1 : Int32) (k2 : Int32) (z_thrown : Int32) : Prop :=
  vc_MD_refuse k1 k2 (fun r1 u1_0 => ((r1 = 0 → vp_in x2 16384 ∧ post ((z_row x2.toNatClampNeg) &&& 255) u1_0) ∧ (¬ (r1 = 0) → post 0 u1_0))) z_thrown
def vc_MD_at (a_p1 : Int32) (z_indexed : Int32) (z_row : Nat → Int32) (z_start : Nat → Int32) (post : Int32 → Int32 → Prop) (z_thrown : Int32) : Prop :=
  vc_MD_placeOf a_p1 z_indexed z_start (fun r3 => ((0 ≤ r3 → vc_MD_at_22 a_p1 z_indexed z_row z_start post r3 1 0 0) ∧ (¬ (0 ≤ r3) → vc_MD_at_22 a_p1 z_indexed z_row z_start post r3 1 1 0)))
def vc_MD_count (a_p1 : Int32) (z_size : Int32) (z_outSize : Int32) (z_soughtSize : Int32) (z_documents : Int32) (z_indexed : Int32) (z_suffixes : Int32) (post : Int32 → Int32 → Prop) (z_thrown : Int32) : Prop :=
  ((a_p1 = 0 → post z_documents 0) ∧ (¬ (a_p1 = 0) → ((a_p1 = 1 → post z_indexed 0) ∧ (¬ (a_p1 = 1) → ((a_p1 = 2 → post z_suffixes 0) ∧ (¬ (a_p1 = 2) → ((a_p1 = 3 → post z_size 0) ∧ (¬ (a_p1 = 3) → ((a_p1 = 4 → post z_outSize 0) ∧ (¬ (a_p1 = 4) → ((a_p1 = 5 → post z_soughtSize 0) ∧ (¬ (a_p1 = 5) → post (-1) 0))))))))))))
set_option maxHeartbeats 4000000 in
set_option maxRecDepth 100000 in
theorem wk_MD_seek_102 {p : Program} {l : Launch} {e : Env} {s : State} {m : MethodId} {below : List Frame} {meth : Method} {c : Code} {A : Nat → Prop} {dC : Nat → ClassId} {dI : Nat → Nat → Nat} {cI cJ cB cZ : ClassId} {h_t : Nat} {h_tape : Nat} {h_row : Nat} {h_out : Nat} {h_sought : Nat} {h_start : Nat} {h_documentOf : Nat} {h_order : Nat} {h_rankOf : Nat} {h_same : Nat} {h_work : Nat} {h_next : Nat} {h_often : Nat} {h_has : Nat} {z_suffixes : Int32} {z_tape : Nat → Int32} {z_row : Nat → Int32} {z_start : Nat → Int32} {z_documentOf : Nat → Int32} {z_outSize : Int32} {z_documents : Int32} {z_indexed : Int32} {z_rows : Int32} {z_lesser : Int32} {post : Int32 → Int32 → Int32 → Int32 → (Nat → Int32) → Prop} {K83 : Int32 → Int32 → Int32 → Int32 → Int32 → (Nat → Int32) → Prop} (F : CallFix p m c b_MD_seek 3 s ([.ref h_t] : List Value).toArray WT "SuffixIndexModel") (hr : meth.sig.returnType = (some .int)) (hlk : meth.locks = false) (hK : va_K (dC, dI) classes (TYS cI cJ cB cZ) s) (hA : ∀ q, s.heap.size ≤ q → A q) (hK83 : ∀ (x1 : Int32) (x2 : Int32) (z_thrown : Int32) (z_size : Int32) (z_soughtSize : Int32) (z_sought : Nat → Int32), K83 x1 x2 z_thrown z_size z_soughtSize z_sought → ∀ (H : Heap) (locs : List Loc) (ls : Array Slot), va_P (dC, dI) classes [(h_t, .inr (8, [.int z_thrown, .ref h_tape, .ref h_row, .ref h_out, .ref h_sought, .int z_size, .int z_outSize, .int z_soughtSize, .int z_documents, .int z_indexed, .int z_suffixes, .int z_rows, .ref h_start, .ref h_documentOf, .ref h_order, .ref h_rankOf, .ref h_same, .ref h_work, .ref h_next, .ref h_often, .ref h_has, .int z_lesser])), (h_tape, .inl (cB, 16384, .inl z_tape)), (h_row, .inl (cB, 16384, .inl z_row)), (h_sought, .inl (cB, 200, .inl z_sought)), (h_start, .inl (cI, 66, .inl z_start)), (h_documentOf, .inl (cI, 16384, .inl z_documentOf))] H → va_D A [(h_t, .inr (8, [.int z_thrown, .ref h_tape, .ref h_row, .ref h_out, .ref h_sought, .int z_size, .int z_outSize, .int z_soughtSize, .int z_documents, .int z_indexed, .int z_suffixes, .int z_rows, .ref h_start, .ref h_documentOf, .ref h_order, .ref h_rankOf, .ref h_same, .ref h_work, .ref h_next, .ref h_often, .ref h_has, .int z_lesser])), (h_tape, .inl (cB, 16384, .inl z_tape)), (h_row, .inl (cB, 16384, .inl z_row)), (h_sought, .inl (cB, 200, .inl z_sought)), (h_start, .inl (cI, 66, .inl z_start)), (h_documentOf, .inl (cI, 16384, .inl z_documentOf))] → va_S A s.heap H locs → lv_has ls 3 [(0, .ref h_t), (1, .int x1), (2, .int x2)] → W p l e rm_MD_seek s m ([.ref h_t] : List Value).toArray below meth c H locs 0 0 (MQ below (va_Qi (fun (r : Int32) (u : Int32 × Int32 × Int32 × (Nat → Int32)) => post r u.1 u.2.1 u.2.2.1 u.2.2.2) (fun u t => cAft (dC, dI) classes (TYS cI cJ cB cZ) A [(h_t, .inr (8, [.int u.1, .ref h_tape, .ref h_row, .ref h_out, .ref h_sought, .int u.2.1, .int z_outSize, .int u.2.2.1, .int z_documents, .int z_indexed, .int z_suffixes, .int z_rows, .ref h_start, .ref h_documentOf, .ref h_order, .ref h_rankOf, .ref h_same, .ref h_work, .ref h_next, .ref h_often, .ref h_has, .int z_lesser])), (h_tape, .inl (cB, 16384, .inl z_tape)), (h_row, .inl (cB, 16384, .inl z_row)), (h_sought, .inl (cB, 200, .inl u.2.2.2)), (h_start, .inl (cI, 66, .inl z_start)), (h_documentOf, .inl (cI, 16384, .inl z_documentOf))] t) A) ([.ref h_t] : List Value).toArray s 0 0 A) (F0 m 83 ls [])) : ∀ (x1 : Int32) (x2 : Int32) (z_thrown : Int32) (z_size : Int32) (z_soughtSize : Int32) (z_sought : Nat → Int32), vc_MD_seek_102 z_suffixes z_tape z_row z_start z_documentOf post K83 x1 x2 z_thrown z_size z_soughtSize z_sought → ∀ (H : Heap) (locs : List Loc) (ls : Array Slot), va_P (dC, dI) classes [(h_t, .inr (8, [.int z_thrown, .ref h_tape, .ref h_row, .ref h_out, .ref h_sought, .int z_size, .int z_outSize, .int z_soughtSize, .int z_documents, .int z_indexed, .int z_suffixes, .int z_rows, .ref h_start, .ref h_documentOf, .ref h_order, .ref h_rankOf, .ref h_same, .ref h_work, .ref h_next, .ref h_often, .ref h_has, .int z_lesser])), (h_tape, .inl (cB, 16384, .inl z_tape)), (h_row, .inl (cB, 16384, .inl z_row)), (h_sought, .inl (cB, 200, .inl z_sought)), (h_start, .inl (cI, 66, .inl z_start)), (h_documentOf, .inl (cI, 16384, .inl z_documentOf))] H → va_D A [(h_t, .inr (8, [.int z_thrown, .ref h_tape, .ref h_row, .ref h_out, .ref h_sought, .int z_size, .int z_outSize, .int z_soughtSize, .int z_documents, .int z_indexed, .int z_suffixes, .int z_rows, .ref h_start, .ref h_documentOf, .ref h_order, .ref h_rankOf, .ref h_same, .ref h_work, .ref h_next, .ref h_often, .ref h_has, .int z_lesser])), (h_tape, .inl (cB, 16384, .inl z_tape)), (h_row, .inl (cB, 16384, .inl z_row)), (h_sought, .inl (cB, 200, .inl z_sought)), (h_start, .inl (cI, 66, .inl z_start)), (h_documentOf, .inl (cI, 16384, .inl z_documentOf))] → va_S A s.heap H locs → lv_has ls 3 [(0, .ref h_t), (1, .int x1), (2, .int x2)] → W p l e rm_MD_seek s m ([.ref h_t] : List Value).toArray below meth c H locs 0 0 (MQ below (va_Qi (fun (r : Int32) (u : Int32 × Int32 × Int32 × (Nat → Int32)) => post r u.1 u.2.1 u.2.2.1 u.2.2.2) (fun u t => cAft (dC, dI) classes (TYS cI cJ cB cZ) A [(h_t, .inr (8, [.int u.1, .ref h_tape, .ref h_row, .ref h_out, .ref h_sought, .int u.2.1, .int z_outSize, .int u.2.2.1, .int z_documents, .int z_indexed, .int z_suffixes, .int z_rows, .ref h_start, .ref h_documentOf, .ref h_order, .ref h_rankOf, .ref h_same, .ref h_work, .ref h_next, .ref h_often, .ref h_has, .int z_lesser])), (h_tape, .inl (cB, 16384, .inl z_tape)), (h_row, .inl (cB, 16384, .inl z_row)), (h_sought, .inl (cB, 200, .inl u.2.2.2)), (h_start, .inl (cI, 66, .inl z_start)), (h_documentOf, .inl (cI, 16384, .inl z_documentOf))] t) A) ([.ref h_t] : List Value).toArray s 0 0 A) (F0 m 102 ls []) := by
  obtain ⟨hx, hb, hml, hown, hw⟩ := id F
  intro x1 x2 z_thrown z_size z_soughtSize z_sought hv H locs ls hP hD hS hl
  refine lv_iinc (v := x2 + 1) (lv' := [(2, .int (x2 + 1)), (0, .ref h_t), (1, .int x1)]) hx hb d_MD_seek_102 hl (k := 2) rfl (iinc_v (by decide)) (by decide) rfl (fun ls hl => ?_)
  refine lv_goto (tgt := 83) hx hb d_MD_seek_105 (by decide) ?_
  exact hK83 x1 (x2 + 1) z_thrown z_size z_soughtSize z_sought hv _ _ _ hP hD hS (lv_sub hl [1, 2, 0] rfl)

set_option maxHeartbeats 4000000 in
set_option maxRecDepth 100000 in
theorem wk_MD_seek_83 {p : Program} {l : Launch} {e : Env} {s : State} {m : MethodId} {below : List Frame} {meth : Method} {c : Code} {A : Nat → Prop} {dC : Nat → ClassId} {dI : Nat → Nat → Nat} {cI cJ cB cZ : ClassId} {h_t : Nat} {h_tape : Nat} {h_row : Nat} {h_out : Nat} {h_sought : Nat} {h_start : Nat} {h_documentOf : Nat} {h_order : Nat} {h_rankOf : Nat} {h_same : Nat} {h_work : Nat} {h_next : Nat} {h_often : Nat} {h_has : Nat} {z_suffixes : Int32} {z_tape : Nat → Int32} {z_row : Nat → Int32} {z_start : Nat → Int32} {z_documentOf : Nat → Int32} {z_outSize : Int32} {z_documents : Int32} {z_indexed : Int32} {z_rows : Int32} {z_lesser : Int32} {post : Int32 → Int32 → Int32 → Int32 → (Nat → Int32) → Prop} (F : CallFix p m c b_MD_seek 3 s ([.ref h_t] : List Value).toArray WT "SuffixIndexModel") (hr : meth.sig.returnType = (some .int)) (hlk : meth.locks = false) (hK : va_K (dC, dI) classes (TYS cI cJ cB cZ) s) (hA : ∀ q, s.heap.size ≤ q → A q) : ∀ (k : Nat) (x1 : Int32) (x2 : Int32) (z_thrown : Int32) (z_size : Int32) (z_soughtSize : Int32) (z_sought : Nat → Int32), vc_MD_seek_83 z_suffixes z_tape z_row z_start z_documentOf post k x1 x2 z_thrown z_size z_soughtSize z_sought → ∀ (H : Heap) (locs : List Loc) (ls : Array Slot), va_P (dC, dI) classes [(h_t, .inr (8, [.int z_thrown, .ref h_tape, .ref h_row, .ref h_out, .ref h_sought, .int z_size, .int z_outSize, .int z_soughtSize, .int z_documents, .int z_indexed, .int z_suffixes, .int z_rows, .ref h_start, .ref h_documentOf, .ref h_order, .ref h_rankOf, .ref h_same, .ref h_work, .ref h_next, .ref h_often, .ref h_has, .int z_lesser])), (h_tape, .inl (cB, 16384, .inl z_tape)), (h_row, .inl (cB, 16384, .inl z_row)), (h_sought, .inl (cB, 200, .inl z_sought)), (h_start, .inl (cI, 66, .inl z_start)), (h_documentOf, .inl (cI, 16384, .inl z_documentOf))] H → va_D A [(h_t, .inr (8, [.int z_thrown, .ref h_tape, .ref h_row, .ref h_out, .ref h_sought, .int z_size, .int z_outSize, .int z_soughtSize, .int z_documents, .int z_indexed, .int z_suffixes, .int z_rows, .ref h_start, .ref h_documentOf, .ref h_order, .ref h_rankOf, .ref h_same, .ref h_work, .ref h_next, .ref h_often, .ref h_has, .int z_lesser])), (h_tape, .inl (cB, 16384, .inl z_tape)), (h_row, .inl (cB, 16384, .inl z_row)), (h_sought, .inl (cB, 200, .inl z_sought)), (h_start, .inl (cI, 66, .inl z_start)), (h_documentOf, .inl (cI, 16384, .inl z_documentOf))] → va_S A s.heap H locs → lv_has ls 3 [(0, .ref h_t), (1, .int x1), (2, .int x2)] → W p l e rm_MD_seek s m ([.ref h_t] : List Value).toArray below meth c H locs 0 0 (MQ below (va_Qi (fun (r : Int32) (u : Int32 × Int32 × Int32 × (Nat → Int32)) => post r u.1 u.2.1 u.2.2.1 u.2.2.2) (fun u t => cAft (dC, dI) classes (TYS cI cJ cB cZ) A [(h_t, .inr (8, [.int u.1, .ref h_tape, .ref h_row, .ref h_out, .ref h_sought, .int u.2.1, .int z_outSize, .int u.2.2.1, .int z_documents, .int z_indexed, .int z_suffixes, .int z_rows, .ref h_start, .ref h_documentOf, .ref h_order, .ref h_rankOf, .ref h_same, .ref h_work, .ref h_next, .ref h_often, .ref h_has, .int z_lesser])), (h_tape, .inl (cB, 16384, .inl z_tape)), (h_row, .inl (cB, 16384, .inl z_row)), (h_sought, .inl (cB, 200, .inl u.2.2.2)), (h_start, .inl (cI, 66, .inl z_start)), (h_documentOf, .inl (cI, 16384, .inl z_documentOf))] t) A) ([.ref h_t] : List Value).toArray s 0 0 A) (F0 m 83 ls []) := by
  obtain ⟨hx, hb, hml, hown, hw⟩ := id F
  intro k
  induction k with
  | zero =>
    intro x1 x2 z_thrown z_size z_soughtSize z_sought hv
    exact False.elim hv
  | succ k ih =>
    intro x1 x2 z_thrown z_size z_soughtSize z_sought hv H locs ls hP hD hS hl
    refine lv_iload_n hx hb d_MD_seek_83 rfl (lv_at hl 2 rfl) ?_
    refine lv_aload_n hx hb d_MD_seek_84 rfl (lv_at hl 0 rfl) ?_
    refine va_get (D := (dC, dI)) (ci := 8) (v := .int z_suffixes) (C := "SuffixIndexModel") (T := F_MD) (N := 22) hx hb hw i_MD hown hK hP 0 rfl rfl 10 (by decide) (hw _ m_1111) (fun _ h9 => h9) rfl d_MD_seek_85 ?_
    obtain ⟨hvt, hvf⟩ := hv
    refine lv_icmp_ge (tgt := 108) hx hb d_MD_seek_88 (by decide) (fun c1 => ?_) (fun c1 => ?_)
    · have hv := hvt c1
      refine lv_iload_n hx hb d_MD_seek_108 rfl (lv_at hl 1 rfl) ?_
      exact W.iret (v := x1) hx hb hr (fun t ht hW => ⟨⟨x1, (z_thrown, z_size, z_soughtSize, z_sought), rfl, hv, by rw [ht]; exact hP, va_K.moved hW.alike hK, hD⟩, hS.F ht⟩) hS.2.2 d_MD_seek_109
    · have hv := hvf c1
      refine lv_aload_n hx hb d_MD_seek_91 rfl (lv_at hl 0 rfl) ?_
      refine lv_iload_n hx hb d_MD_seek_92 rfl (lv_at hl 2 rfl) ?_
      refine cV_i (wr := [(h_tape, .inl (cB, 16384, .inl z_tape))]) (rest := []) (c_MD_stands l dC dI cI cJ cB cZ h_t h_tape h_row h_out h_sought h_start h_documentOf h_order h_rankOf h_same h_work h_next h_often h_has H.size z_thrown z_size z_outSize z_soughtSize z_documents z_indexed z_suffixes z_rows z_lesser z_row z_sought z_start z_documentOf x2 _ hv) F (cw_V (fun _ h => h) 1 hw m_1221 m_1223 ms_35 m_9 m_1224 rfl rfl (by decide +kernel) ⟨by decide, by decide⟩) hK hP hD hS hA [0, 2, 3, 4, 5] [1] rfl rfl rfl rfl (by decide) 0 8 rfl rfl rfl hl.1 rfl (Nat.le_of_ble_eq_true rfl) d_MD_seek_93 ⟨Nat.le_of_ble_eq_true rfl, Nat.le_of_ble_eq_true rfl⟩ (fun r2 u H locs hv hP hD hS => ?_)
      have hP : va_P (dC, dI) classes [(h_t, .inr (8, [.int z_thrown, .ref h_tape, .ref h_row, .ref h_out, .ref h_sought, .int z_size, .int z_outSize, .int z_soughtSize, .int z_documents, .int z_indexed, .int z_suffixes, .int z_rows, .ref h_start, .ref h_documentOf, .ref h_order, .ref h_rankOf, .ref h_same, .ref h_work, .ref h_next, .ref h_often, .ref h_has, .int z_lesser])), (h_tape, .inl (cB, 16384, .inl z_tape)), (h_row, .inl (cB, 16384, .inl z_row)), (h_sought, .inl (cB, 200, .inl z_sought)), (h_start, .inl (cI, 66, .inl z_start)), (h_documentOf, .inl (cI, 16384, .inl z_documentOf))] H := P_sub hP [1, 0, 2, 3, 4, 5] rfl
      have hD : va_D A [(h_t, .inr (8, [.int z_thrown, .ref h_tape, .ref h_row, .ref h_out, .ref h_sought, .int z_size, .int z_outSize, .int z_soughtSize, .int z_documents, .int z_indexed, .int z_suffixes, .int z_rows, .ref h_start, .ref h_documentOf, .ref h_order, .ref h_rankOf, .ref h_same, .ref h_work, .ref h_next, .ref h_often, .ref h_has, .int z_lesser])), (h_tape, .inl (cB, 16384, .inl z_tape)), (h_row, .inl (cB, 16384, .inl z_row)), (h_sought, .inl (cB, 200, .inl z_sought)), (h_start, .inl (cI, 66, .inl z_start)), (h_documentOf, .inl (cI, 16384, .inl z_documentOf))] := hD.sub [1, 0, 2, 3, 4, 5] rfl rfl
      obtain ⟨hvt, hvf⟩ := hv
      refine lv_if_eq (tgt := 102) hx hb d_MD_seek_96 (by decide) (fun c3 => ?_) (fun c3 => ?_)
      · have hv := hvt c3
        exact wk_MD_seek_102 F hr hlk hK hA ih x1 x2 z_thrown z_size z_soughtSize z_sought hv _ _ _ hP hD hS (lv_sub hl [0, 1, 2] rfl)
      · have hv := hvf c3
        refine lv_iinc (v := x1 + 1) (lv' := [(1, .int (x1 + 1)), (0, .ref h_t), (2, .int x2)]) hx hb d_MD_seek_99 hl (k := 1) rfl (iinc_v (by decide)) (by decide) rfl (fun ls hl => ?_)
        exact wk_MD_seek_102 F hr hlk hK hA ih (x1 + 1) x2 z_thrown z_size z_soughtSize z_sought hv _ _ _ hP hD hS (lv_sub hl [1, 0, 2] rfl)

set_option maxHeartbeats 4000000 in
set_option maxRecDepth 100000 in
theorem wk_MD_seek_40 {p : Program} {l : Launch} {e : Env} {s : State} {m : MethodId} {below : List Frame} {meth : Method} {c : Code} {A : Nat → Prop} {dC : Nat → ClassId} {dI : Nat → Nat → Nat} {cI cJ cB cZ : ClassId} {h_t : Nat} {h_tape : Nat} {h_row : Nat} {h_out : Nat} {h_sought : Nat} {h_start : Nat} {h_documentOf : Nat} {h_order : Nat} {h_rankOf : Nat} {h_same : Nat} {h_work : Nat} {h_next : Nat} {h_often : Nat} {h_has : Nat} {z_suffixes : Int32} {z_tape : Nat → Int32} {z_row : Nat → Int32} {z_start : Nat → Int32} {z_documentOf : Nat → Int32} {z_outSize : Int32} {z_documents : Int32} {z_indexed : Int32} {z_rows : Int32} {z_lesser : Int32} {post : Int32 → Int32 → Int32 → Int32 → (Nat → Int32) → Prop} (F : CallFix p m c b_MD_seek 3 s ([.ref h_t] : List Value).toArray WT "SuffixIndexModel") (hr : meth.sig.returnType = (some .int)) (hlk : meth.locks = false) (hK : va_K (dC, dI) classes (TYS cI cJ cB cZ) s) (hA : ∀ q, s.heap.size ≤ q → A q) : ∀ (k : Nat) (x1 : Int32) (z_thrown : Int32) (z_size : Int32) (z_soughtSize : Int32) (z_sought : Nat → Int32), vc_MD_seek_40 z_suffixes z_tape z_row z_start z_documentOf post k x1 z_thrown z_size z_soughtSize z_sought → ∀ (H : Heap) (locs : List Loc) (ls : Array Slot), va_P (dC, dI) classes [(h_t, .inr (8, [.int z_thrown, .ref h_tape, .ref h_row, .ref h_out, .ref h_sought, .int z_size, .int z_outSize, .int z_soughtSize, .int z_documents, .int z_indexed, .int z_suffixes, .int z_rows, .ref h_start, .ref h_documentOf, .ref h_order, .ref h_rankOf, .ref h_same, .ref h_work, .ref h_next, .ref h_often, .ref h_has, .int z_lesser])), (h_tape, .inl (cB, 16384, .inl z_tape)), (h_row, .inl (cB, 16384, .inl z_row)), (h_sought, .inl (cB, 200, .inl z_sought)), (h_start, .inl (cI, 66, .inl z_start)), (h_documentOf, .inl (cI, 16384, .inl z_documentOf))] H → va_D A [(h_t, .inr (8, [.int z_thrown, .ref h_tape, .ref h_row, .ref h_out, .ref h_sought, .int z_size, .int z_outSize, .int z_soughtSize, .int z_documents, .int z_indexed, .int z_suffixes, .int z_rows, .ref h_start, .ref h_documentOf, .ref h_order, .ref h_rankOf, .ref h_same, .ref h_work, .ref h_next, .ref h_often, .ref h_has, .int z_lesser])), (h_tape, .inl (cB, 16384, .inl z_tape)), (h_row, .inl (cB, 16384, .inl z_row)), (h_sought, .inl (cB, 200, .inl z_sought)), (h_start, .inl (cI, 66, .inl z_start)), (h_documentOf, .inl (cI, 16384, .inl z_documentOf))] → va_S A s.heap H locs → lv_has ls 3 [(0, .ref h_t), (1, .int x1)] → W p l e rm_MD_seek s m ([.ref h_t] : List Value).toArray below meth c H locs 0 0 (MQ below (va_Qi (fun (r : Int32) (u : Int32 × Int32 × Int32 × (Nat → Int32)) => post r u.1 u.2.1 u.2.2.1 u.2.2.2) (fun u t => cAft (dC, dI) classes (TYS cI cJ cB cZ) A [(h_t, .inr (8, [.int u.1, .ref h_tape, .ref h_row, .ref h_out, .ref h_sought, .int u.2.1, .int z_outSize, .int u.2.2.1, .int z_documents, .int z_indexed, .int z_suffixes, .int z_rows, .ref h_start, .ref h_documentOf, .ref h_order, .ref h_rankOf, .ref h_same, .ref h_work, .ref h_next, .ref h_often, .ref h_has, .int z_lesser])), (h_tape, .inl (cB, 16384, .inl z_tape)), (h_row, .inl (cB, 16384, .inl z_row)), (h_sought, .inl (cB, 200, .inl u.2.2.2)), (h_start, .inl (cI, 66, .inl z_start)), (h_documentOf, .inl (cI, 16384, .inl z_documentOf))] t) A) ([.ref h_t] : List Value).toArray s 0 0 A) (F0 m 40 ls []) := by
  obtain ⟨hx, hb, hml, hown, hw⟩ := id F
  intro k
  induction k with
  | zero =>
    intro x1 z_thrown z_size z_soughtSize z_sought hv
    exact False.elim hv
  | succ k ih =>
    intro x1 z_thrown z_size z_soughtSize z_sought hv H locs ls hP hD hS hl
    refine lv_iload_n hx hb d_MD_seek_40 rfl (lv_at hl 1 rfl) ?_
    refine lv_aload_n hx hb d_MD_seek_41 rfl (lv_at hl 0 rfl) ?_
    refine va_get (D := (dC, dI)) (ci := 8) (v := .int z_size) (C := "SuffixIndexModel") (T := F_MD) (N := 22) hx hb hw i_MD hown hK hP 0 rfl rfl 5 (by decide) (hw _ m_1106) (fun _ h9 => h9) rfl d_MD_seek_42 ?_
    obtain ⟨hvt, hvf⟩ := hv
    refine lv_icmp_ge (tgt := 66) hx hb d_MD_seek_45 (by decide) (fun c4 => ?_) (fun c4 => ?_)
    · have hv := hvt c4
      refine lv_aload_n hx hb d_MD_seek_66 rfl (lv_at hl 0 rfl) ?_
      refine lv_aload_n hx hb d_MD_seek_67 rfl (lv_at hl 0 rfl) ?_
      refine va_get (D := (dC, dI)) (ci := 8) (v := .int z_size) (C := "SuffixIndexModel") (T := F_MD) (N := 22) hx hb hw i_MD hown hK hP 0 rfl rfl 5 (by decide) (hw _ m_1106) (fun _ h9 => h9) rfl d_MD_seek_68 ?_
      refine va_put (D := (dC, dI)) (ci := 8) (v := .int z_size) (ty := .int) (C := "SuffixIndexModel") (T := F_MD) (N := 22) hx hb hw i_MD t_MD t_MD_ok n_MD hown hK hP hD hS 0 rfl rfl 7 (by decide) (hw _ m_1108) (fun _ h9 => h9) rfl (by decide +kernel) rfl rfl (Nat.le_of_ble_eq_true rfl) d_MD_seek_71 (fun H locs hP hD hS => ?_)
      have hP : va_P (dC, dI) classes [(h_t, .inr (8, [.int z_thrown, .ref h_tape, .ref h_row, .ref h_out, .ref h_sought, .int z_size, .int z_outSize, .int z_size, .int z_documents, .int z_indexed, .int z_suffixes, .int z_rows, .ref h_start, .ref h_documentOf, .ref h_order, .ref h_rankOf, .ref h_same, .ref h_work, .ref h_next, .ref h_often, .ref h_has, .int z_lesser])), (h_tape, .inl (cB, 16384, .inl z_tape)), (h_row, .inl (cB, 16384, .inl z_row)), (h_sought, .inl (cB, 200, .inl z_sought)), (h_start, .inl (cI, 66, .inl z_start)), (h_documentOf, .inl (cI, 16384, .inl z_documentOf))] H := hP
      have hD : va_D A [(h_t, .inr (8, [.int z_thrown, .ref h_tape, .ref h_row, .ref h_out, .ref h_sought, .int z_size, .int z_outSize, .int z_size, .int z_documents, .int z_indexed, .int z_suffixes, .int z_rows, .ref h_start, .ref h_documentOf, .ref h_order, .ref h_rankOf, .ref h_same, .ref h_work, .ref h_next, .ref h_often, .ref h_has, .int z_lesser])), (h_tape, .inl (cB, 16384, .inl z_tape)), (h_row, .inl (cB, 16384, .inl z_row)), (h_sought, .inl (cB, 200, .inl z_sought)), (h_start, .inl (cI, 66, .inl z_start)), (h_documentOf, .inl (cI, 16384, .inl z_documentOf))] := hD
      refine lv_aload_n hx hb d_MD_seek_74 rfl (lv_at hl 0 rfl) ?_
      refine lv_iconst (v := 0) hx hb d_MD_seek_75 (by decide) ?_
      refine va_put (D := (dC, dI)) (ci := 8) (v := .int 0) (ty := .int) (C := "SuffixIndexModel") (T := F_MD) (N := 22) hx hb hw i_MD t_MD t_MD_ok n_MD hown hK hP hD hS 0 rfl rfl 5 (by decide) (hw _ m_1106) (fun _ h9 => h9) rfl (by decide +kernel) rfl rfl (Nat.le_of_ble_eq_true rfl) d_MD_seek_76 (fun H locs hP hD hS => ?_)
      have hP : va_P (dC, dI) classes [(h_t, .inr (8, [.int z_thrown, .ref h_tape, .ref h_row, .ref h_out, .ref h_sought, .int 0, .int z_outSize, .int z_size, .int z_documents, .int z_indexed, .int z_suffixes, .int z_rows, .ref h_start, .ref h_documentOf, .ref h_order, .ref h_rankOf, .ref h_same, .ref h_work, .ref h_next, .ref h_often, .ref h_has, .int z_lesser])), (h_tape, .inl (cB, 16384, .inl z_tape)), (h_row, .inl (cB, 16384, .inl z_row)), (h_sought, .inl (cB, 200, .inl z_sought)), (h_start, .inl (cI, 66, .inl z_start)), (h_documentOf, .inl (cI, 16384, .inl z_documentOf))] H := hP
      have hD : va_D A [(h_t, .inr (8, [.int z_thrown, .ref h_tape, .ref h_row, .ref h_out, .ref h_sought, .int 0, .int z_outSize, .int z_size, .int z_documents, .int z_indexed, .int z_suffixes, .int z_rows, .ref h_start, .ref h_documentOf, .ref h_order, .ref h_rankOf, .ref h_same, .ref h_work, .ref h_next, .ref h_often, .ref h_has, .int z_lesser])), (h_tape, .inl (cB, 16384, .inl z_tape)), (h_row, .inl (cB, 16384, .inl z_row)), (h_sought, .inl (cB, 200, .inl z_sought)), (h_start, .inl (cI, 66, .inl z_start)), (h_documentOf, .inl (cI, 16384, .inl z_documentOf))] := hD
      refine lv_iconst (v := 0) hx hb d_MD_seek_79 (by decide) ?_
      refine lv_istore_n (lv' := [(1, .int 0), (0, .ref h_t)]) hx hb d_MD_seek_80 rfl hl (by decide) rfl (fun ls hl => ?_)
      refine lv_iconst (v := 0) hx hb d_MD_seek_81 (by decide) ?_
      refine lv_istore_n (lv' := [(2, .int 0), (1, .int 0), (0, .ref h_t)]) hx hb d_MD_seek_82 rfl hl (by decide) rfl (fun ls hl => ?_)
      obtain ⟨j, hv⟩ := hv
      exact wk_MD_seek_83 F hr hlk hK hA j 0 0 z_thrown 0 z_size z_sought hv _ _ _ hP hD hS (lv_sub hl [2, 1, 0] rfl)
    · have hv := hvf c4
      refine lv_aload_n hx hb d_MD_seek_48 rfl (lv_at hl 0 rfl) ?_
      refine va_get (D := (dC, dI)) (ci := 8) (v := .ref h_sought) (C := "SuffixIndexModel") (T := F_MD) (N := 22) hx hb hw i_MD hown hK hP 0 rfl rfl 4 (by decide) (hw _ m_1105) (fun _ h9 => h9) rfl d_MD_seek_49 ?_
      refine lv_iload_n hx hb d_MD_seek_52 rfl (lv_at hl 1 rfl) ?_
      refine lv_aload_n hx hb d_MD_seek_53 rfl (lv_at hl 0 rfl) ?_
      refine va_get (D := (dC, dI)) (ci := 8) (v := .ref h_tape) (C := "SuffixIndexModel") (T := F_MD) (N := 22) hx hb hw i_MD hown hK hP 0 rfl rfl 1 (by decide) (hw _ m_1102) (fun _ h9 => h9) rfl d_MD_seek_54 ?_
      refine lv_iload_n hx hb d_MD_seek_57 rfl (lv_at hl 1 rfl) ?_
      obtain ⟨hin, hv⟩ := hv
      refine va_bald hx hb hK hP 1 2 rfl rfl hin d_MD_seek_58 ?_
      obtain ⟨hin, hv⟩ := hv
      refine va_bast hx hb hK hP hD hS 3 2 rfl rfl hin d_MD_seek_59 (fun H locs hP hD hS => ?_)
      have hP : va_P (dC, dI) classes [(h_t, .inr (8, [.int z_thrown, .ref h_tape, .ref h_row, .ref h_out, .ref h_sought, .int z_size, .int z_outSize, .int z_soughtSize, .int z_documents, .int z_indexed, .int z_suffixes, .int z_rows, .ref h_start, .ref h_documentOf, .ref h_order, .ref h_rankOf, .ref h_same, .ref h_work, .ref h_next, .ref h_often, .ref h_has, .int z_lesser])), (h_tape, .inl (cB, 16384, .inl z_tape)), (h_row, .inl (cB, 16384, .inl z_row)), (h_sought, .inl (cB, 200, .inl (upd z_sought x1.toNatClampNeg (vp_nar .byte (z_tape x1.toNatClampNeg))))), (h_start, .inl (cI, 66, .inl z_start)), (h_documentOf, .inl (cI, 16384, .inl z_documentOf))] H := hP
      have hD : va_D A [(h_t, .inr (8, [.int z_thrown, .ref h_tape, .ref h_row, .ref h_out, .ref h_sought, .int z_size, .int z_outSize, .int z_soughtSize, .int z_documents, .int z_indexed, .int z_suffixes, .int z_rows, .ref h_start, .ref h_documentOf, .ref h_order, .ref h_rankOf, .ref h_same, .ref h_work, .ref h_next, .ref h_often, .ref h_has, .int z_lesser])), (h_tape, .inl (cB, 16384, .inl z_tape)), (h_row, .inl (cB, 16384, .inl z_row)), (h_sought, .inl (cB, 200, .inl (upd z_sought x1.toNatClampNeg (vp_nar .byte (z_tape x1.toNatClampNeg))))), (h_start, .inl (cI, 66, .inl z_start)), (h_documentOf, .inl (cI, 16384, .inl z_documentOf))] := hD
      refine lv_iinc (v := x1 + 1) (lv' := [(1, .int (x1 + 1)), (0, .ref h_t)]) hx hb d_MD_seek_60 hl (k := 1) rfl (iinc_v (by decide)) (by decide) rfl (fun ls hl => ?_)
      refine lv_goto (tgt := 40) hx hb d_MD_seek_63 (by decide) ?_
      exact ih (x1 + 1) z_thrown z_size z_soughtSize (upd z_sought x1.toNatClampNeg (vp_nar .byte (z_tape x1.toNatClampNeg))) hv _ _ _ hP hD hS (lv_sub hl [1, 0] rfl)

set_option maxHeartbeats 4000000 in
set_option maxRecDepth 100000 in
theorem wk_MD_seek_30 {p : Program} {l : Launch} {e : Env} {s : State} {m : MethodId} {below : List Frame} {meth : Method} {c : Code} {A : Nat → Prop} {dC : Nat → ClassId} {dI : Nat → Nat → Nat} {cI cJ cB cZ : ClassId} {h_t : Nat} {h_tape : Nat} {h_row : Nat} {h_out : Nat} {h_sought : Nat} {h_start : Nat} {h_documentOf : Nat} {h_order : Nat} {h_rankOf : Nat} {h_same : Nat} {h_work : Nat} {h_next : Nat} {h_often : Nat} {h_has : Nat} {z_suffixes : Int32} {z_tape : Nat → Int32} {z_row : Nat → Int32} {z_start : Nat → Int32} {z_documentOf : Nat → Int32} {z_outSize : Int32} {z_documents : Int32} {z_indexed : Int32} {z_rows : Int32} {z_lesser : Int32} {post : Int32 → Int32 → Int32 → Int32 → (Nat → Int32) → Prop} (F : CallFix p m c b_MD_seek 3 s ([.ref h_t] : List Value).toArray WT "SuffixIndexModel") (hr : meth.sig.returnType = (some .int)) (hlk : meth.locks = false) (hK : va_K (dC, dI) classes (TYS cI cJ cB cZ) s) (hA : ∀ q, s.heap.size ≤ q → A q) : ∀ (k1 : Int32) (k2 : Int32) (z_thrown : Int32) (z_size : Int32) (z_soughtSize : Int32) (z_sought : Nat → Int32), vc_MD_seek_30 z_suffixes z_tape z_row z_start z_documentOf post k1 k2 z_thrown z_size z_soughtSize z_sought → ∀ (H : Heap) (locs : List Loc) (ls : Array Slot), va_P (dC, dI) classes [(h_t, .inr (8, [.int z_thrown, .ref h_tape, .ref h_row, .ref h_out, .ref h_sought, .int z_size, .int z_outSize, .int z_soughtSize, .int z_documents, .int z_indexed, .int z_suffixes, .int z_rows, .ref h_start, .ref h_documentOf, .ref h_order, .ref h_rankOf, .ref h_same, .ref h_work, .ref h_next, .ref h_often, .ref h_has, .int z_lesser])), (h_tape, .inl (cB, 16384, .inl z_tape)), (h_row, .inl (cB, 16384, .inl z_row)), (h_sought, .inl (cB, 200, .inl z_sought)), (h_start, .inl (cI, 66, .inl z_start)), (h_documentOf, .inl (cI, 16384, .inl z_documentOf))] H → va_D A [(h_t, .inr (8, [.int z_thrown, .ref h_tape, .ref h_row, .ref h_out, .ref h_sought, .int z_size, .int z_outSize, .int z_soughtSize, .int z_documents, .int z_indexed, .int z_suffixes, .int z_rows, .ref h_start, .ref h_documentOf, .ref h_order, .ref h_rankOf, .ref h_same, .ref h_work, .ref h_next, .ref h_often, .ref h_has, .int z_lesser])), (h_tape, .inl (cB, 16384, .inl z_tape)), (h_row, .inl (cB, 16384, .inl z_row)), (h_sought, .inl (cB, 200, .inl z_sought)), (h_start, .inl (cI, 66, .inl z_start)), (h_documentOf, .inl (cI, 16384, .inl z_documentOf))] → va_S A s.heap H locs → lv_has ls 3 [(0, .ref h_t)] → W p l e rm_MD_seek s m ([.ref h_t] : List Value).toArray below meth c H locs 0 0 (MQ below (va_Qi (fun (r : Int32) (u : Int32 × Int32 × Int32 × (Nat → Int32)) => post r u.1 u.2.1 u.2.2.1 u.2.2.2) (fun u t => cAft (dC, dI) classes (TYS cI cJ cB cZ) A [(h_t, .inr (8, [.int u.1, .ref h_tape, .ref h_row, .ref h_out, .ref h_sought, .int u.2.1, .int z_outSize, .int u.2.2.1, .int z_documents, .int z_indexed, .int z_suffixes, .int z_rows, .ref h_start, .ref h_documentOf, .ref h_order, .ref h_rankOf, .ref h_same, .ref h_work, .ref h_next, .ref h_often, .ref h_has, .int z_lesser])), (h_tape, .inl (cB, 16384, .inl z_tape)), (h_row, .inl (cB, 16384, .inl z_row)), (h_sought, .inl (cB, 200, .inl u.2.2.2)), (h_start, .inl (cI, 66, .inl z_start)), (h_documentOf, .inl (cI, 16384, .inl z_documentOf))] t) A) ([.ref h_t] : List Value).toArray s 0 0 A) (F0 m 30 ls [.int k2, .int k1, .ref h_t]) := by
  obtain ⟨hx, hb, hml, hown, hw⟩ := id F
  intro k1 k2 z_thrown z_size z_soughtSize z_sought hv H locs ls hP hD hS hl
  refine cV_i (wr := [(h_tape, .inl (cB, 16384, .inl z_tape)), (h_row, .inl (cB, 16384, .inl z_row)), (h_sought, .inl (cB, 200, .inl z_sought)), (h_start, .inl (cI, 66, .inl z_start)), (h_documentOf, .inl (cI, 16384, .inl z_documentOf))]) (rest := []) (c_MD_refuse l dC dI cI cJ cB cZ h_t h_tape h_row h_out h_sought h_start h_documentOf h_order h_rankOf h_same h_work h_next h_often h_has H.size z_thrown z_size z_outSize z_soughtSize z_documents z_indexed z_suffixes z_rows z_lesser k1 k2 _ hv) F (cw_V (fun _ h => h) 2 hw m_1177 m_1179 ms_29 m_9 m_1180 rfl rfl (by decide +kernel) ⟨by decide, by decide⟩) hK hP hD hS hA [0] [1, 2, 3, 4, 5] rfl rfl rfl rfl (by decide) 0 8 rfl rfl rfl hl.1 rfl (Nat.le_of_ble_eq_true rfl) d_MD_seek_30 ⟨Nat.le_of_ble_eq_true rfl, Nat.le_of_ble_eq_true rfl⟩ (fun r5 u H locs hv hP hD hS => ?_)
  obtain ⟨u5_0, rfl⟩ : ∃ z, z = u := ⟨_, rfl⟩
  have hP : va_P (dC, dI) classes [(h_t, .inr (8, [.int u5_0, .ref h_tape, .ref h_row, .ref h_out, .ref h_sought, .int z_size, .int z_outSize, .int z_soughtSize, .int z_documents, .int z_indexed, .int z_suffixes, .int z_rows, .ref h_start, .ref h_documentOf, .ref h_order, .ref h_rankOf, .ref h_same, .ref h_work, .ref h_next, .ref h_often, .ref h_has, .int z_lesser])), (h_tape, .inl (cB, 16384, .inl z_tape)), (h_row, .inl (cB, 16384, .inl z_row)), (h_sought, .inl (cB, 200, .inl z_sought)), (h_start, .inl (cI, 66, .inl z_start)), (h_documentOf, .inl (cI, 16384, .inl z_documentOf))] H := P_sub hP [5, 0, 1, 2, 3, 4] rfl
  have hD : va_D A [(h_t, .inr (8, [.int u5_0, .ref h_tape, .ref h_row, .ref h_out, .ref h_sought, .int z_size, .int z_outSize, .int z_soughtSize, .int z_documents, .int z_indexed, .int z_suffixes, .int z_rows, .ref h_start, .ref h_documentOf, .ref h_order, .ref h_rankOf, .ref h_same, .ref h_work, .ref h_next, .ref h_often, .ref h_has, .int z_lesser])), (h_tape, .inl (cB, 16384, .inl z_tape)), (h_row, .inl (cB, 16384, .inl z_row)), (h_sought, .inl (cB, 200, .inl z_sought)), (h_start, .inl (cI, 66, .inl z_start)), (h_documentOf, .inl (cI, 16384, .inl z_documentOf))] := hD.sub [5, 0, 1, 2, 3, 4] rfl rfl
  obtain ⟨hvt, hvf⟩ := hv
  refine lv_if_eq (tgt := 38) hx hb d_MD_seek_33 (by decide) (fun c6 => ?_) (fun c6 => ?_)
  · have hv := hvt c6
    refine lv_iconst (v := 0) hx hb d_MD_seek_38 (by decide) ?_
    refine lv_istore_n (lv' := [(1, .int 0), (0, .ref h_t)]) hx hb d_MD_seek_39 rfl hl (by decide) rfl (fun ls hl => ?_)
    obtain ⟨j, hv⟩ := hv
    exact wk_MD_seek_40 F hr hlk hK hA j 0 u5_0 z_size z_soughtSize z_sought hv _ _ _ hP hD hS (lv_sub hl [1, 0] rfl)
  · have hv := hvf c6
    refine lv_iconst (v := 0) hx hb d_MD_seek_36 (by decide) ?_
    exact W.iret (v := 0) hx hb hr (fun t ht hW => ⟨⟨0, (u5_0, z_size, z_soughtSize, z_sought), rfl, hv, by rw [ht]; exact hP, va_K.moved hW.alike hK, hD⟩, hS.F ht⟩) hS.2.2 d_MD_seek_37

set_option maxHeartbeats 4000000 in
set_option maxRecDepth 100000 in
theorem wk_MD_seek_25 {p : Program} {l : Launch} {e : Env} {s : State} {m : MethodId} {below : List Frame} {meth : Method} {c : Code} {A : Nat → Prop} {dC : Nat → ClassId} {dI : Nat → Nat → Nat} {cI cJ cB cZ : ClassId} {h_t : Nat} {h_tape : Nat} {h_row : Nat} {h_out : Nat} {h_sought : Nat} {h_start : Nat} {h_documentOf : Nat} {h_order : Nat} {h_rankOf : Nat} {h_same : Nat} {h_work : Nat} {h_next : Nat} {h_often : Nat} {h_has : Nat} {z_suffixes : Int32} {z_tape : Nat → Int32} {z_row : Nat → Int32} {z_start : Nat → Int32} {z_documentOf : Nat → Int32} {z_outSize : Int32} {z_documents : Int32} {z_indexed : Int32} {z_rows : Int32} {z_lesser : Int32} {post : Int32 → Int32 → Int32 → Int32 → (Nat → Int32) → Prop} (F : CallFix p m c b_MD_seek 3 s ([.ref h_t] : List Value).toArray WT "SuffixIndexModel") (hr : meth.sig.returnType = (some .int)) (hlk : meth.locks = false) (hK : va_K (dC, dI) classes (TYS cI cJ cB cZ) s) (hA : ∀ q, s.heap.size ≤ q → A q) : ∀ (k1 : Int32) (z_thrown : Int32) (z_size : Int32) (z_soughtSize : Int32) (z_sought : Nat → Int32), vc_MD_seek_25 z_suffixes z_tape z_row z_start z_documentOf post k1 z_thrown z_size z_soughtSize z_sought → ∀ (H : Heap) (locs : List Loc) (ls : Array Slot), va_P (dC, dI) classes [(h_t, .inr (8, [.int z_thrown, .ref h_tape, .ref h_row, .ref h_out, .ref h_sought, .int z_size, .int z_outSize, .int z_soughtSize, .int z_documents, .int z_indexed, .int z_suffixes, .int z_rows, .ref h_start, .ref h_documentOf, .ref h_order, .ref h_rankOf, .ref h_same, .ref h_work, .ref h_next, .ref h_often, .ref h_has, .int z_lesser])), (h_tape, .inl (cB, 16384, .inl z_tape)), (h_row, .inl (cB, 16384, .inl z_row)), (h_sought, .inl (cB, 200, .inl z_sought)), (h_start, .inl (cI, 66, .inl z_start)), (h_documentOf, .inl (cI, 16384, .inl z_documentOf))] H → va_D A [(h_t, .inr (8, [.int z_thrown, .ref h_tape, .ref h_row, .ref h_out, .ref h_sought, .int z_size, .int z_outSize, .int z_soughtSize, .int z_documents, .int z_indexed, .int z_suffixes, .int z_rows, .ref h_start, .ref h_documentOf, .ref h_order, .ref h_rankOf, .ref h_same, .ref h_work, .ref h_next, .ref h_often, .ref h_has, .int z_lesser])), (h_tape, .inl (cB, 16384, .inl z_tape)), (h_row, .inl (cB, 16384, .inl z_row)), (h_sought, .inl (cB, 200, .inl z_sought)), (h_start, .inl (cI, 66, .inl z_start)), (h_documentOf, .inl (cI, 16384, .inl z_documentOf))] → va_S A s.heap H locs → lv_has ls 3 [(0, .ref h_t)] → W p l e rm_MD_seek s m ([.ref h_t] : List Value).toArray below meth c H locs 0 0 (MQ below (va_Qi (fun (r : Int32) (u : Int32 × Int32 × Int32 × (Nat → Int32)) => post r u.1 u.2.1 u.2.2.1 u.2.2.2) (fun u t => cAft (dC, dI) classes (TYS cI cJ cB cZ) A [(h_t, .inr (8, [.int u.1, .ref h_tape, .ref h_row, .ref h_out, .ref h_sought, .int u.2.1, .int z_outSize, .int u.2.2.1, .int z_documents, .int z_indexed, .int z_suffixes, .int z_rows, .ref h_start, .ref h_documentOf, .ref h_order, .ref h_rankOf, .ref h_same, .ref h_work, .ref h_next, .ref h_often, .ref h_has, .int z_lesser])), (h_tape, .inl (cB, 16384, .inl z_tape)), (h_row, .inl (cB, 16384, .inl z_row)), (h_sought, .inl (cB, 200, .inl u.2.2.2)), (h_start, .inl (cI, 66, .inl z_start)), (h_documentOf, .inl (cI, 16384, .inl z_documentOf))] t) A) ([.ref h_t] : List Value).toArray s 0 0 A) (F0 m 25 ls [.int k1, .ref h_t]) := by
  obtain ⟨hx, hb, hml, hown, hw⟩ := id F
  intro k1 z_thrown z_size z_soughtSize z_sought hv H locs ls hP hD hS hl
  refine lv_iconst (v := 1) hx hb d_MD_seek_25 (by decide) ?_
  refine lv_goto (tgt := 30) hx hb d_MD_seek_26 (by decide) ?_
  exact wk_MD_seek_30 F hr hlk hK hA k1 1 z_thrown z_size z_soughtSize z_sought hv _ _ _ hP hD hS (lv_sub hl [0] rfl)

set_option maxHeartbeats 4000000 in
set_option maxRecDepth 100000 in
theorem c_MD_seek (l : Launch) (dC : Nat → ClassId) (dI : Nat → Nat → Nat) (cI cJ cB cZ : ClassId) (h_t : Nat) (h_tape : Nat) (h_row : Nat) (h_out : Nat) (h_sought : Nat) (h_start : Nat) (h_documentOf : Nat) (h_order : Nat) (h_rankOf : Nat) (h_same : Nat) (h_work : Nat) (h_next : Nat) (h_often : Nat) (h_has : Nat) (sz : Nat) (z_thrown : Int32) (z_size : Int32) (z_outSize : Int32) (z_soughtSize : Int32) (z_documents : Int32) (z_indexed : Int32) (z_suffixes : Int32) (z_rows : Int32) (z_lesser : Int32) (z_tape : Nat → Int32) (z_row : Nat → Int32) (z_sought : Nat → Int32) (z_start : Nat → Int32) (z_documentOf : Nat → Int32) (post : Int32 → Int32 → Int32 → Int32 → (Nat → Int32) → Prop) (hv : vc_MD_seek z_suffixes z_tape z_row z_start z_documentOf post z_thrown z_size z_soughtSize z_sought) : Met l y_MD_seek (Cond.code y_MD_seek b_MD_seek 3 (some .int) :: WT) rm_MD_seek (cPre (dC, dI) classes (TYS cI cJ cB cZ) [(h_t, .inr (8, [.int z_thrown, .ref h_tape, .ref h_row, .ref h_out, .ref h_sought, .int z_size, .int z_outSize, .int z_soughtSize, .int z_documents, .int z_indexed, .int z_suffixes, .int z_rows, .ref h_start, .ref h_documentOf, .ref h_order, .ref h_rankOf, .ref h_same, .ref h_work, .ref h_next, .ref h_often, .ref h_has, .int z_lesser])), (h_tape, .inl (cB, 16384, .inl z_tape)), (h_row, .inl (cB, 16384, .inl z_row)), (h_sought, .inl (cB, 200, .inl z_sought)), (h_start, .inl (cI, 66, .inl z_start)), (h_documentOf, .inl (cI, 16384, .inl z_documentOf))] sz [.ref h_t]) (va_Qi (fun (r : Int32) (u : Int32 × Int32 × Int32 × (Nat → Int32)) => post r u.1 u.2.1 u.2.2.1 u.2.2.2) (fun u t => cAft (dC, dI) classes (TYS cI cJ cB cZ) (va_A [(h_t, .inr (8, [.int z_thrown, .ref h_tape, .ref h_row, .ref h_out, .ref h_sought, .int z_size, .int z_outSize, .int z_soughtSize, .int z_documents, .int z_indexed, .int z_suffixes, .int z_rows, .ref h_start, .ref h_documentOf, .ref h_order, .ref h_rankOf, .ref h_same, .ref h_work, .ref h_next, .ref h_often, .ref h_has, .int z_lesser])), (h_tape, .inl (cB, 16384, .inl z_tape)), (h_row, .inl (cB, 16384, .inl z_row)), (h_sought, .inl (cB, 200, .inl z_sought)), (h_start, .inl (cI, 66, .inl z_start)), (h_documentOf, .inl (cI, 16384, .inl z_documentOf))] sz) [(h_t, .inr (8, [.int u.1, .ref h_tape, .ref h_row, .ref h_out, .ref h_sought, .int u.2.1, .int z_outSize, .int u.2.2.1, .int z_documents, .int z_indexed, .int z_suffixes, .int z_rows, .ref h_start, .ref h_documentOf, .ref h_order, .ref h_rankOf, .ref h_same, .ref h_work, .ref h_next, .ref h_often, .ref h_has, .int z_lesser])), (h_tape, .inl (cB, 16384, .inl z_tape)), (h_row, .inl (cB, 16384, .inl z_row)), (h_sought, .inl (cB, 200, .inl u.2.2.2)), (h_start, .inl (cI, 66, .inl z_start)), (h_documentOf, .inl (cI, 16384, .inl z_documentOf))] t) (va_A [(h_t, .inr (8, [.int z_thrown, .ref h_tape, .ref h_row, .ref h_out, .ref h_sought, .int z_size, .int z_outSize, .int z_soughtSize, .int z_documents, .int z_indexed, .int z_suffixes, .int z_rows, .ref h_start, .ref h_documentOf, .ref h_order, .ref h_rankOf, .ref h_same, .ref h_work, .ref h_next, .ref h_often, .ref h_has, .int z_lesser])), (h_tape, .inl (cB, 16384, .inl z_tape)), (h_row, .inl (cB, 16384, .inl z_row)), (h_sought, .inl (cB, 200, .inl z_sought)), (h_start, .inl (cI, 66, .inl z_start)), (h_documentOf, .inl (cI, 16384, .inl z_documentOf))] sz)) 0 0 (va_A [(h_t, .inr (8, [.int z_thrown, .ref h_tape, .ref h_row, .ref h_out, .ref h_sought, .int z_size, .int z_outSize, .int z_soughtSize, .int z_documents, .int z_indexed, .int z_suffixes, .int z_rows, .ref h_start, .ref h_documentOf, .ref h_order, .ref h_rankOf, .ref h_same, .ref h_work, .ref h_next, .ref h_often, .ref h_has, .int z_lesser])), (h_tape, .inl (cB, 16384, .inl z_tape)), (h_row, .inl (cB, 16384, .inl z_row)), (h_sought, .inl (cB, 200, .inl z_sought)), (h_start, .inl (cI, 66, .inl z_start)), (h_documentOf, .inl (cI, 16384, .inl z_documentOf))] sz) := by
  refine Met.ofW (cc := b_MD_seek) (maxL := 3) (ret := (some .int)) (by decide) rfl ?_
  intro p e s m args below meth c s₁ B hml hq
  obtain ⟨rfl, hsz, hP, hK, hD0⟩ := hq
  have hts := atoms_spec (ws := Cond.code y_MD_seek b_MD_seek 3 (some .int) :: WT) B.pre
  have hw : ∀ w ∈ WT, w.before ([.ref h_t] : List Value).toArray s = true := fun w h => hts w (List.mem_cons_of_mem _ h)
  have hx := B.exec
  have hb := B.bytes
  have hr := B.returns
  have hlk := B.notSynchronized
  have hown : s.vm.findClass "SuffixIndexModel" = some m.cls := findClass_of_methodNamed B.named
  have F : CallFix p m c b_MD_seek 3 s ([.ref h_t] : List Value).toArray WT "SuffixIndexModel" := ⟨hx, hb, hml, hown, hw⟩
  subst hsz
  have hD := hD0.self (sz := s.heap.size)
  generalize hAe : va_A [(h_t, .inr (8, [.int z_thrown, .ref h_tape, .ref h_row, .ref h_out, .ref h_sought, .int z_size, .int z_outSize, .int z_soughtSize, .int z_documents, .int z_indexed, .int z_suffixes, .int z_rows, .ref h_start, .ref h_documentOf, .ref h_order, .ref h_rankOf, .ref h_same, .ref h_work, .ref h_next, .ref h_often, .ref h_has, .int z_lesser])), (h_tape, .inl (cB, 16384, .inl z_tape)), (h_row, .inl (cB, 16384, .inl z_row)), (h_sought, .inl (cB, 200, .inl z_sought)), (h_start, .inl (cI, 66, .inl z_start)), (h_documentOf, .inl (cI, 16384, .inl z_documentOf))] s.heap.size = A at hD ⊢
  have hA : ∀ q : Nat, s.heap.size ≤ q → A q := fun q h => by rw [← hAe]; exact Or.inr h
  have hS : va_S A s.heap s.heap [] := va_S.rf
  have hl := lv_entry ([.ref h_t]) (n := 3) (Nat.le_of_ble_eq_true rfl)
  rw [lg_entry_eq]
  generalize (lg_sl ([.ref h_t]) ++ List.replicate (3 - (lg_sl ([.ref h_t])).length) Slot.unset).toArray = ls at hl ⊢
  have hl : lv_has ls 3 [(0, .ref h_t)] := hl
  show W p l e rm_MD_seek s m _ below meth c s.heap [] 0 0 _ _
  have hP : va_P (dC, dI) classes [(h_t, .inr (8, [.int z_thrown, .ref h_tape, .ref h_row, .ref h_out, .ref h_sought, .int z_size, .int z_outSize, .int z_soughtSize, .int z_documents, .int z_indexed, .int z_suffixes, .int z_rows, .ref h_start, .ref h_documentOf, .ref h_order, .ref h_rankOf, .ref h_same, .ref h_work, .ref h_next, .ref h_often, .ref h_has, .int z_lesser])), (h_tape, .inl (cB, 16384, .inl z_tape)), (h_row, .inl (cB, 16384, .inl z_row)), (h_sought, .inl (cB, 200, .inl z_sought)), (h_start, .inl (cI, 66, .inl z_start)), (h_documentOf, .inl (cI, 16384, .inl z_documentOf))] s.heap := hP
  obtain ⟨H, hHe⟩ : ∃ H, H = s.heap := ⟨_, rfl⟩
  have hS : va_S A s.heap H [] := by rw [hHe]; exact hS
  rw [← hHe] at hP
  suffices hgoal : W p l e rm_MD_seek s m ([.ref h_t] : List Value).toArray below meth c H [] 0 0 (MQ below (va_Qi (fun (r : Int32) (u : Int32 × Int32 × Int32 × (Nat → Int32)) => post r u.1 u.2.1 u.2.2.1 u.2.2.2) (fun u t => cAft (dC, dI) classes (TYS cI cJ cB cZ) A [(h_t, .inr (8, [.int u.1, .ref h_tape, .ref h_row, .ref h_out, .ref h_sought, .int u.2.1, .int z_outSize, .int u.2.2.1, .int z_documents, .int z_indexed, .int z_suffixes, .int z_rows, .ref h_start, .ref h_documentOf, .ref h_order, .ref h_rankOf, .ref h_same, .ref h_work, .ref h_next, .ref h_often, .ref h_has, .int z_lesser])), (h_tape, .inl (cB, 16384, .inl z_tape)), (h_row, .inl (cB, 16384, .inl z_row)), (h_sought, .inl (cB, 200, .inl u.2.2.2)), (h_start, .inl (cI, 66, .inl z_start)), (h_documentOf, .inl (cI, 16384, .inl z_documentOf))] t) A) ([.ref h_t] : List Value).toArray s 0 0 A) (F0 m 0 ls []) by rw [hHe] at hgoal; exact hgoal
  refine lv_aload_n hx hb d_MD_seek_0 rfl (lv_at hl 0 rfl) ?_
  refine lv_iconst (v := 0) hx hb d_MD_seek_1 (by decide) ?_
  refine va_put (D := (dC, dI)) (ci := 8) (v := .int 0) (ty := .int) (C := "SuffixIndexModel") (T := F_MD) (N := 22) hx hb hw i_MD t_MD t_MD_ok n_MD hown hK hP hD hS 0 rfl rfl 0 (by decide) (hw _ m_1101) (fun _ h9 => h9) rfl (by decide +kernel) rfl rfl (Nat.le_of_ble_eq_true rfl) d_MD_seek_2 (fun H locs hP hD hS => ?_)
  have hP : va_P (dC, dI) classes [(h_t, .inr (8, [.int 0, .ref h_tape, .ref h_row, .ref h_out, .ref h_sought, .int z_size, .int z_outSize, .int z_soughtSize, .int z_documents, .int z_indexed, .int z_suffixes, .int z_rows, .ref h_start, .ref h_documentOf, .ref h_order, .ref h_rankOf, .ref h_same, .ref h_work, .ref h_next, .ref h_often, .ref h_has, .int z_lesser])), (h_tape, .inl (cB, 16384, .inl z_tape)), (h_row, .inl (cB, 16384, .inl z_row)), (h_sought, .inl (cB, 200, .inl z_sought)), (h_start, .inl (cI, 66, .inl z_start)), (h_documentOf, .inl (cI, 16384, .inl z_documentOf))] H := hP
  have hD : va_D A [(h_t, .inr (8, [.int 0, .ref h_tape, .ref h_row, .ref h_out, .ref h_sought, .int z_size, .int z_outSize, .int z_soughtSize, .int z_documents, .int z_indexed, .int z_suffixes, .int z_rows, .ref h_start, .ref h_documentOf, .ref h_order, .ref h_rankOf, .ref h_same, .ref h_work, .ref h_next, .ref h_often, .ref h_has, .int z_lesser])), (h_tape, .inl (cB, 16384, .inl z_tape)), (h_row, .inl (cB, 16384, .inl z_row)), (h_sought, .inl (cB, 200, .inl z_sought)), (h_start, .inl (cI, 66, .inl z_start)), (h_documentOf, .inl (cI, 16384, .inl z_documentOf))] := hD
  refine lv_aload_n hx hb d_MD_seek_5 rfl (lv_at hl 0 rfl) ?_
  refine lv_iconst (v := 1) hx hb d_MD_seek_6 (by decide) ?_
  refine lv_aload_n hx hb d_MD_seek_7 rfl (lv_at hl 0 rfl) ?_
  refine va_get (D := (dC, dI)) (ci := 8) (v := .int z_size) (C := "SuffixIndexModel") (T := F_MD) (N := 22) hx hb hw i_MD hown hK hP 0 rfl rfl 5 (by decide) (hw _ m_1106) (fun _ h9 => h9) rfl d_MD_seek_8 ?_
  refine lv_iconst (v := 1) hx hb d_MD_seek_11 (by decide) ?_
  obtain ⟨hvt, hvf⟩ := hv
  refine lv_icmp_lt (tgt := 25) hx hb d_MD_seek_12 (by decide) (fun c7 => ?_) (fun c7 => ?_)
  · have hv := hvt c7
    exact wk_MD_seek_25 F hr hlk hK hA 1 0 z_size z_soughtSize z_sought hv _ _ _ hP hD hS (lv_sub hl [0] rfl)
  · have hv := hvf c7
    refine lv_aload_n hx hb d_MD_seek_15 rfl (lv_at hl 0 rfl) ?_
    refine va_get (D := (dC, dI)) (ci := 8) (v := .int z_size) (C := "SuffixIndexModel") (T := F_MD) (N := 22) hx hb hw i_MD hown hK hP 0 rfl rfl 5 (by decide) (hw _ m_1106) (fun _ h9 => h9) rfl d_MD_seek_16 ?_
    refine lv_sipush (v := 200) hx hb d_MD_seek_19 (by decide) ?_
    obtain ⟨hvt, hvf⟩ := hv
    refine lv_icmp_le (tgt := 29) hx hb d_MD_seek_22 (by decide) (fun c8 => ?_) (fun c8 => ?_)
    · have hv := hvt c8
      refine lv_iconst (v := 0) hx hb d_MD_seek_29 (by decide) ?_
      exact wk_MD_seek_30 F hr hlk hK hA 1 0 0 z_size z_soughtSize z_sought hv _ _ _ hP hD hS (lv_sub hl [0] rfl)
    · have hv := hvf c8
      exact wk_MD_seek_25 F hr hlk hK hA 1 0 z_size z_soughtSize z_sought hv _ _ _ hP hD hS (lv_sub hl [0] rfl)

set_option maxHeartbeats 4000000 in
set_option maxRecDepth 100000 in
theorem wk_MD_found_55 {p : Program} {l : Launch} {e : Env} {s : State} {m : MethodId} {below : List Frame} {meth : Method} {c : Code} {A : Nat → Prop} {dC : Nat → ClassId} {dI : Nat → Nat → Nat} {cI cJ cB cZ : ClassId} {h_t : Nat} {h_tape : Nat} {h_row : Nat} {h_out : Nat} {h_sought : Nat} {h_start : Nat} {h_documentOf : Nat} {h_order : Nat} {h_rankOf : Nat} {h_same : Nat} {h_work : Nat} {h_next : Nat} {h_often : Nat} {h_has : Nat} {a_p1 : Int32} {z_soughtSize : Int32} {z_suffixes : Int32} {z_row : Nat → Int32} {z_sought : Nat → Int32} {z_start : Nat → Int32} {z_documentOf : Nat → Int32} {z_size : Int32} {z_outSize : Int32} {z_documents : Int32} {z_indexed : Int32} {z_rows : Int32} {z_lesser : Int32} {post : Int32 → Int32 → Prop} (F : CallFix p m c b_MD_found 4 s ([.ref h_t, .int a_p1] : List Value).toArray WT "SuffixIndexModel") (hr : meth.sig.returnType = (some .int)) (hlk : meth.locks = false) (hK : va_K (dC, dI) classes (TYS cI cJ cB cZ) s) (hA : ∀ q, s.heap.size ≤ q → A q) : ∀ (z_thrown : Int32), vc_MD_found_55 a_p1 z_soughtSize z_suffixes z_row z_sought z_start z_documentOf post z_thrown → ∀ (H : Heap) (locs : List Loc) (ls : Array Slot), va_P (dC, dI) classes [(h_t, .inr (8, [.int z_thrown, .ref h_tape, .ref h_row, .ref h_out, .ref h_sought, .int z_size, .int z_outSize, .int z_soughtSize, .int z_documents, .int z_indexed, .int z_suffixes, .int z_rows, .ref h_start, .ref h_documentOf, .ref h_order, .ref h_rankOf, .ref h_same, .ref h_work, .ref h_next, .ref h_often, .ref h_has, .int z_lesser])), (h_row, .inl (cB, 16384, .inl z_row)), (h_sought, .inl (cB, 200, .inl z_sought)), (h_start, .inl (cI, 66, .inl z_start)), (h_documentOf, .inl (cI, 16384, .inl z_documentOf))] H → va_D A [(h_t, .inr (8, [.int z_thrown, .ref h_tape, .ref h_row, .ref h_out, .ref h_sought, .int z_size, .int z_outSize, .int z_soughtSize, .int z_documents, .int z_indexed, .int z_suffixes, .int z_rows, .ref h_start, .ref h_documentOf, .ref h_order, .ref h_rankOf, .ref h_same, .ref h_work, .ref h_next, .ref h_often, .ref h_has, .int z_lesser])), (h_row, .inl (cB, 16384, .inl z_row)), (h_sought, .inl (cB, 200, .inl z_sought)), (h_start, .inl (cI, 66, .inl z_start)), (h_documentOf, .inl (cI, 16384, .inl z_documentOf))] → va_S A s.heap H locs → lv_has ls 4 [(0, .ref h_t)] → W p l e rm_MD_found s m ([.ref h_t, .int a_p1] : List Value).toArray below meth c H locs 0 0 (MQ below (va_Qi (fun (r : Int32) (u : Int32) => post r u) (fun u t => cAft (dC, dI) classes (TYS cI cJ cB cZ) A [(h_t, .inr (8, [.int u, .ref h_tape, .ref h_row, .ref h_out, .ref h_sought, .int z_size, .int z_outSize, .int z_soughtSize, .int z_documents, .int z_indexed, .int z_suffixes, .int z_rows, .ref h_start, .ref h_documentOf, .ref h_order, .ref h_rankOf, .ref h_same, .ref h_work, .ref h_next, .ref h_often, .ref h_has, .int z_lesser])), (h_row, .inl (cB, 16384, .inl z_row)), (h_sought, .inl (cB, 200, .inl z_sought)), (h_start, .inl (cI, 66, .inl z_start)), (h_documentOf, .inl (cI, 16384, .inl z_documentOf))] t) A) ([.ref h_t, .int a_p1] : List Value).toArray s 0 0 A) (F0 m 55 ls []) := by
  obtain ⟨hx, hb, hml, hown, hw⟩ := id F
  intro z_thrown hv H locs ls hP hD hS hl
  refine lv_aload_n hx hb d_MD_found_55 rfl (lv_at hl 0 rfl) ?_
  refine lv_iconst (v := 1) hx hb d_MD_found_56 (by decide) ?_
  refine lv_iconst (v := 1) hx hb d_MD_found_57 (by decide) ?_
  refine cV_i (wr := [(h_row, .inl (cB, 16384, .inl z_row)), (h_sought, .inl (cB, 200, .inl z_sought)), (h_start, .inl (cI, 66, .inl z_start)), (h_documentOf, .inl (cI, 16384, .inl z_documentOf))]) (rest := []) (c_MD_refuse l dC dI cI cJ cB cZ h_t h_tape h_row h_out h_sought h_start h_documentOf h_order h_rankOf h_same h_work h_next h_often h_has H.size z_thrown z_size z_outSize z_soughtSize z_documents z_indexed z_suffixes z_rows z_lesser 1 1 _ hv) F (cw_V (fun _ h => h) 2 hw m_1177 m_1179 ms_29 m_9 m_1180 rfl rfl (by decide +kernel) ⟨by decide, by decide⟩) hK hP hD hS hA [0] [1, 2, 3, 4] rfl rfl rfl rfl (by decide) 0 8 rfl rfl rfl hl.1 rfl (Nat.le_of_ble_eq_true rfl) d_MD_found_58 ⟨Nat.le_of_ble_eq_true rfl, Nat.le_of_ble_eq_true rfl⟩ (fun r1 u H locs hv hP hD hS => ?_)
  obtain ⟨u1_0, rfl⟩ : ∃ z, z = u := ⟨_, rfl⟩
  have hP : va_P (dC, dI) classes [(h_t, .inr (8, [.int u1_0, .ref h_tape, .ref h_row, .ref h_out, .ref h_sought, .int z_size, .int z_outSize, .int z_soughtSize, .int z_documents, .int z_indexed, .int z_suffixes, .int z_rows, .ref h_start, .ref h_documentOf, .ref h_order, .ref h_rankOf, .ref h_same, .ref h_work, .ref h_next, .ref h_often, .ref h_has, .int z_lesser])), (h_row, .inl (cB, 16384, .inl z_row)), (h_sought, .inl (cB, 200, .inl z_sought)), (h_start, .inl (cI, 66, .inl z_start)), (h_documentOf, .inl (cI, 16384, .inl z_documentOf))] H := P_sub hP [4, 0, 1, 2, 3] rfl
  have hD : va_D A [(h_t, .inr (8, [.int u1_0, .ref h_tape, .ref h_row, .ref h_out, .ref h_sought, .int z_size, .int z_outSize, .int z_soughtSize, .int z_documents, .int z_indexed, .int z_suffixes, .int z_rows, .ref h_start, .ref h_documentOf, .ref h_order, .ref h_rankOf, .ref h_same, .ref h_work, .ref h_next, .ref h_often, .ref h_has, .int z_lesser])), (h_row, .inl (cB, 16384, .inl z_row)), (h_sought, .inl (cB, 200, .inl z_sought)), (h_start, .inl (cI, 66, .inl z_start)), (h_documentOf, .inl (cI, 16384, .inl z_documentOf))] := hD.sub [4, 0, 1, 2, 3] rfl rfl
  refine lv_pop hx hb d_MD_found_61 rfl ?_
  refine lv_iconst (v := 0) hx hb d_MD_found_62 (by decide) ?_
  exact W.iret (v := 0) hx hb hr (fun t ht hW => ⟨⟨0, u1_0, rfl, hv, by rw [ht]; exact hP, va_K.moved hW.alike hK, hD⟩, hS.F ht⟩) hS.2.2 d_MD_found_63

set_option maxHeartbeats 4000000 in
set_option maxRecDepth 100000 in
theorem wk_MD_found_49 {p : Program} {l : Launch} {e : Env} {s : State} {m : MethodId} {below : List Frame} {meth : Method} {c : Code} {A : Nat → Prop} {dC : Nat → ClassId} {dI : Nat → Nat → Nat} {cI cJ cB cZ : ClassId} {h_t : Nat} {h_tape : Nat} {h_row : Nat} {h_out : Nat} {h_sought : Nat} {h_start : Nat} {h_documentOf : Nat} {h_order : Nat} {h_rankOf : Nat} {h_same : Nat} {h_work : Nat} {h_next : Nat} {h_often : Nat} {h_has : Nat} {a_p1 : Int32} {z_soughtSize : Int32} {z_suffixes : Int32} {z_row : Nat → Int32} {z_sought : Nat → Int32} {z_start : Nat → Int32} {z_documentOf : Nat → Int32} {z_size : Int32} {z_outSize : Int32} {z_documents : Int32} {z_indexed : Int32} {z_rows : Int32} {z_lesser : Int32} {post : Int32 → Int32 → Prop} {K9 : Int32 → Int32 → Int32 → Prop} (F : CallFix p m c b_MD_found 4 s ([.ref h_t, .int a_p1] : List Value).toArray WT "SuffixIndexModel") (hr : meth.sig.returnType = (some .int)) (hlk : meth.locks = false) (hK : va_K (dC, dI) classes (TYS cI cJ cB cZ) s) (hA : ∀ q, s.heap.size ≤ q → A q) (hK9 : ∀ (x2 : Int32) (x3 : Int32) (z_thrown : Int32), K9 x2 x3 z_thrown → ∀ (H : Heap) (locs : List Loc) (ls : Array Slot), va_P (dC, dI) classes [(h_t, .inr (8, [.int z_thrown, .ref h_tape, .ref h_row, .ref h_out, .ref h_sought, .int z_size, .int z_outSize, .int z_soughtSize, .int z_documents, .int z_indexed, .int z_suffixes, .int z_rows, .ref h_start, .ref h_documentOf, .ref h_order, .ref h_rankOf, .ref h_same, .ref h_work, .ref h_next, .ref h_often, .ref h_has, .int z_lesser])), (h_row, .inl (cB, 16384, .inl z_row)), (h_sought, .inl (cB, 200, .inl z_sought)), (h_start, .inl (cI, 66, .inl z_start)), (h_documentOf, .inl (cI, 16384, .inl z_documentOf))] H → va_D A [(h_t, .inr (8, [.int z_thrown, .ref h_tape, .ref h_row, .ref h_out, .ref h_sought, .int z_size, .int z_outSize, .int z_soughtSize, .int z_documents, .int z_indexed, .int z_suffixes, .int z_rows, .ref h_start, .ref h_documentOf, .ref h_order, .ref h_rankOf, .ref h_same, .ref h_work, .ref h_next, .ref h_often, .ref h_has, .int z_lesser])), (h_row, .inl (cB, 16384, .inl z_row)), (h_sought, .inl (cB, 200, .inl z_sought)), (h_start, .inl (cI, 66, .inl z_start)), (h_documentOf, .inl (cI, 16384, .inl z_documentOf))] → va_S A s.heap H locs → lv_has ls 4 [(0, .ref h_t), (1, .int a_p1), (2, .int x2), (3, .int x3)] → W p l e rm_MD_found s m ([.ref h_t, .int a_p1] : List Value).toArray below meth c H locs 0 0 (MQ below (va_Qi (fun (r : Int32) (u : Int32) => post r u) (fun u t => cAft (dC, dI) classes (TYS cI cJ cB cZ) A [(h_t, .inr (8, [.int u, .ref h_tape, .ref h_row, .ref h_out, .ref h_sought, .int z_size, .int z_outSize, .int z_soughtSize, .int z_documents, .int z_indexed, .int z_suffixes, .int z_rows, .ref h_start, .ref h_documentOf, .ref h_order, .ref h_rankOf, .ref h_same, .ref h_work, .ref h_next, .ref h_often, .ref h_has, .int z_lesser])), (h_row, .inl (cB, 16384, .inl z_row)), (h_sought, .inl (cB, 200, .inl z_sought)), (h_start, .inl (cI, 66, .inl z_start)), (h_documentOf, .inl (cI, 16384, .inl z_documentOf))] t) A) ([.ref h_t, .int a_p1] : List Value).toArray s 0 0 A) (F0 m 9 ls [])) : ∀ (x2 : Int32) (x3 : Int32) (z_thrown : Int32), vc_MD_found_49 a_p1 z_soughtSize z_suffixes z_row z_sought z_start z_documentOf post K9 x2 x3 z_thrown → ∀ (H : Heap) (locs : List Loc) (ls : Array Slot), va_P (dC, dI) classes [(h_t, .inr (8, [.int z_thrown, .ref h_tape, .ref h_row, .ref h_out, .ref h_sought, .int z_size, .int z_outSize, .int z_soughtSize, .int z_documents, .int z_indexed, .int z_suffixes, .int z_rows, .ref h_start, .ref h_documentOf, .ref h_order, .ref h_rankOf, .ref h_same, .ref h_work, .ref h_next, .ref h_often, .ref h_has, .int z_lesser])), (h_row, .inl (cB, 16384, .inl z_row)), (h_sought, .inl (cB, 200, .inl z_sought)), (h_start, .inl (cI, 66, .inl z_start)), (h_documentOf, .inl (cI, 16384, .inl z_documentOf))] H → va_D A [(h_t, .inr (8, [.int z_thrown, .ref h_tape, .ref h_row, .ref h_out, .ref h_sought, .int z_size, .int z_outSize, .int z_soughtSize, .int z_documents, .int z_indexed, .int z_suffixes, .int z_rows, .ref h_start, .ref h_documentOf, .ref h_order, .ref h_rankOf, .ref h_same, .ref h_work, .ref h_next, .ref h_often, .ref h_has, .int z_lesser])), (h_row, .inl (cB, 16384, .inl z_row)), (h_sought, .inl (cB, 200, .inl z_sought)), (h_start, .inl (cI, 66, .inl z_start)), (h_documentOf, .inl (cI, 16384, .inl z_documentOf))] → va_S A s.heap H locs → lv_has ls 4 [(0, .ref h_t), (1, .int a_p1), (2, .int x2), (3, .int x3)] → W p l e rm_MD_found s m ([.ref h_t, .int a_p1] : List Value).toArray below meth c H locs 0 0 (MQ below (va_Qi (fun (r : Int32) (u : Int32) => post r u) (fun u t => cAft (dC, dI) classes (TYS cI cJ cB cZ) A [(h_t, .inr (8, [.int u, .ref h_tape, .ref h_row, .ref h_out, .ref h_sought, .int z_size, .int z_outSize, .int z_soughtSize, .int z_documents, .int z_indexed, .int z_suffixes, .int z_rows, .ref h_start, .ref h_documentOf, .ref h_order, .ref h_rankOf, .ref h_same, .ref h_work, .ref h_next, .ref h_often, .ref h_has, .int z_lesser])), (h_row, .inl (cB, 16384, .inl z_row)), (h_sought, .inl (cB, 200, .inl z_sought)), (h_start, .inl (cI, 66, .inl z_start)), (h_documentOf, .inl (cI, 16384, .inl z_documentOf))] t) A) ([.ref h_t, .int a_p1] : List Value).toArray s 0 0 A) (F0 m 49 ls []) := by
  obtain ⟨hx, hb, hml, hown, hw⟩ := id F
  intro x2 x3 z_thrown hv H locs ls hP hD hS hl
  refine lv_iinc (v := x3 + 1) (lv' := [(3, .int (x3 + 1)), (0, .ref h_t), (1, .int a_p1), (2, .int x2)]) hx hb d_MD_found_49 hl (k := 3) rfl (iinc_v (by decide)) (by decide) rfl (fun ls hl => ?_)
  refine lv_goto (tgt := 9) hx hb d_MD_found_52 (by decide) ?_
  exact hK9 x2 (x3 + 1) z_thrown hv _ _ _ hP hD hS (lv_sub hl [1, 2, 3, 0] rfl)

set_option maxHeartbeats 4000000 in
set_option maxRecDepth 100000 in
theorem wk_MD_found_9 {p : Program} {l : Launch} {e : Env} {s : State} {m : MethodId} {below : List Frame} {meth : Method} {c : Code} {A : Nat → Prop} {dC : Nat → ClassId} {dI : Nat → Nat → Nat} {cI cJ cB cZ : ClassId} {h_t : Nat} {h_tape : Nat} {h_row : Nat} {h_out : Nat} {h_sought : Nat} {h_start : Nat} {h_documentOf : Nat} {h_order : Nat} {h_rankOf : Nat} {h_same : Nat} {h_work : Nat} {h_next : Nat} {h_often : Nat} {h_has : Nat} {a_p1 : Int32} {z_soughtSize : Int32} {z_suffixes : Int32} {z_row : Nat → Int32} {z_sought : Nat → Int32} {z_start : Nat → Int32} {z_documentOf : Nat → Int32} {z_size : Int32} {z_outSize : Int32} {z_documents : Int32} {z_indexed : Int32} {z_rows : Int32} {z_lesser : Int32} {post : Int32 → Int32 → Prop} (F : CallFix p m c b_MD_found 4 s ([.ref h_t, .int a_p1] : List Value).toArray WT "SuffixIndexModel") (hr : meth.sig.returnType = (some .int)) (hlk : meth.locks = false) (hK : va_K (dC, dI) classes (TYS cI cJ cB cZ) s) (hA : ∀ q, s.heap.size ≤ q → A q) : ∀ (k : Nat) (x2 : Int32) (x3 : Int32) (z_thrown : Int32), vc_MD_found_9 a_p1 z_soughtSize z_suffixes z_row z_sought z_start z_documentOf post k x2 x3 z_thrown → ∀ (H : Heap) (locs : List Loc) (ls : Array Slot), va_P (dC, dI) classes [(h_t, .inr (8, [.int z_thrown, .ref h_tape, .ref h_row, .ref h_out, .ref h_sought, .int z_size, .int z_outSize, .int z_soughtSize, .int z_documents, .int z_indexed, .int z_suffixes, .int z_rows, .ref h_start, .ref h_documentOf, .ref h_order, .ref h_rankOf, .ref h_same, .ref h_work, .ref h_next, .ref h_often, .ref h_has, .int z_lesser])), (h_row, .inl (cB, 16384, .inl z_row)), (h_sought, .inl (cB, 200, .inl z_sought)), (h_start, .inl (cI, 66, .inl z_start)), (h_documentOf, .inl (cI, 16384, .inl z_documentOf))] H → va_D A [(h_t, .inr (8, [.int z_thrown, .ref h_tape, .ref h_row, .ref h_out, .ref h_sought, .int z_size, .int z_outSize, .int z_soughtSize, .int z_documents, .int z_indexed, .int z_suffixes, .int z_rows, .ref h_start, .ref h_documentOf, .ref h_order, .ref h_rankOf, .ref h_same, .ref h_work, .ref h_next, .ref h_often, .ref h_has, .int z_lesser])), (h_row, .inl (cB, 16384, .inl z_row)), (h_sought, .inl (cB, 200, .inl z_sought)), (h_start, .inl (cI, 66, .inl z_start)), (h_documentOf, .inl (cI, 16384, .inl z_documentOf))] → va_S A s.heap H locs → lv_has ls 4 [(0, .ref h_t), (1, .int a_p1), (2, .int x2), (3, .int x3)] → W p l e rm_MD_found s m ([.ref h_t, .int a_p1] : List Value).toArray below meth c H locs 0 0 (MQ below (va_Qi (fun (r : Int32) (u : Int32) => post r u) (fun u t => cAft (dC, dI) classes (TYS cI cJ cB cZ) A [(h_t, .inr (8, [.int u, .ref h_tape, .ref h_row, .ref h_out, .ref h_sought, .int z_size, .int z_outSize, .int z_soughtSize, .int z_documents, .int z_indexed, .int z_suffixes, .int z_rows, .ref h_start, .ref h_documentOf, .ref h_order, .ref h_rankOf, .ref h_same, .ref h_work, .ref h_next, .ref h_often, .ref h_has, .int z_lesser])), (h_row, .inl (cB, 16384, .inl z_row)), (h_sought, .inl (cB, 200, .inl z_sought)), (h_start, .inl (cI, 66, .inl z_start)), (h_documentOf, .inl (cI, 16384, .inl z_documentOf))] t) A) ([.ref h_t, .int a_p1] : List Value).toArray s 0 0 A) (F0 m 9 ls []) := by
  obtain ⟨hx, hb, hml, hown, hw⟩ := id F
  intro k
  induction k with
  | zero =>
    intro x2 x3 z_thrown hv
    exact False.elim hv
  | succ k ih =>
    intro x2 x3 z_thrown hv H locs ls hP hD hS hl
    refine lv_iload_n hx hb d_MD_found_9 rfl (lv_at hl 3 rfl) ?_
    refine lv_aload_n hx hb d_MD_found_10 rfl (lv_at hl 0 rfl) ?_
    refine va_get (D := (dC, dI)) (ci := 8) (v := .int z_suffixes) (C := "SuffixIndexModel") (T := F_MD) (N := 22) hx hb hw i_MD hown hK hP 0 rfl rfl 10 (by decide) (hw _ m_1111) (fun _ h9 => h9) rfl d_MD_found_11 ?_
    obtain ⟨hvt, hvf⟩ := hv
    refine lv_icmp_ge (tgt := 55) hx hb d_MD_found_14 (by decide) (fun c2 => ?_) (fun c2 => ?_)
    · have hv := hvt c2
      exact wk_MD_found_55 F hr hlk hK hA z_thrown hv _ _ _ hP hD hS (lv_sub hl [0] rfl)
    · have hv := hvf c2
      refine lv_aload_n hx hb d_MD_found_17 rfl (lv_at hl 0 rfl) ?_
      refine va_get (D := (dC, dI)) (ci := 8) (v := .int z_soughtSize) (C := "SuffixIndexModel") (T := F_MD) (N := 22) hx hb hw i_MD hown hK hP 0 rfl rfl 7 (by decide) (hw _ m_1108) (fun _ h9 => h9) rfl d_MD_found_18 ?_
      obtain ⟨hvt, hvf⟩ := hv
      refine lv_if_le (tgt := 55) hx hb d_MD_found_21 (by decide) (fun c3 => ?_) (fun c3 => ?_)
      · have hv := hvt c3
        exact wk_MD_found_55 F hr hlk hK hA z_thrown hv _ _ _ hP hD hS (lv_sub hl [0] rfl)
      · have hv := hvf c3
        refine lv_aload_n hx hb d_MD_found_24 rfl (lv_at hl 0 rfl) ?_
        refine lv_iload_n hx hb d_MD_found_25 rfl (lv_at hl 3 rfl) ?_
        refine cV_i (wr := []) (rest := []) (c_MD_stands l dC dI cI cJ cB cZ h_t h_tape h_row h_out h_sought h_start h_documentOf h_order h_rankOf h_same h_work h_next h_often h_has H.size z_thrown z_size z_outSize z_soughtSize z_documents z_indexed z_suffixes z_rows z_lesser z_row z_sought z_start z_documentOf x3 _ hv) F (cw_V (fun _ h => h) 1 hw m_1221 m_1223 ms_35 m_9 m_1224 rfl rfl (by decide +kernel) ⟨by decide, by decide⟩) hK hP hD hS hA [0, 1, 2, 3, 4] [] rfl rfl rfl rfl (by decide) 0 8 rfl rfl rfl hl.1 rfl (Nat.le_of_ble_eq_true rfl) d_MD_found_26 ⟨Nat.le_of_ble_eq_true rfl, Nat.le_of_ble_eq_true rfl⟩ (fun r4 u H locs hv hP hD hS => ?_)
        have hP : va_P (dC, dI) classes [(h_t, .inr (8, [.int z_thrown, .ref h_tape, .ref h_row, .ref h_out, .ref h_sought, .int z_size, .int z_outSize, .int z_soughtSize, .int z_documents, .int z_indexed, .int z_suffixes, .int z_rows, .ref h_start, .ref h_documentOf, .ref h_order, .ref h_rankOf, .ref h_same, .ref h_work, .ref h_next, .ref h_often, .ref h_has, .int z_lesser])), (h_row, .inl (cB, 16384, .inl z_row)), (h_sought, .inl (cB, 200, .inl z_sought)), (h_start, .inl (cI, 66, .inl z_start)), (h_documentOf, .inl (cI, 16384, .inl z_documentOf))] H := P_sub hP [0, 1, 2, 3, 4] rfl
        have hD : va_D A [(h_t, .inr (8, [.int z_thrown, .ref h_tape, .ref h_row, .ref h_out, .ref h_sought, .int z_size, .int z_outSize, .int z_soughtSize, .int z_documents, .int z_indexed, .int z_suffixes, .int z_rows, .ref h_start, .ref h_documentOf, .ref h_order, .ref h_rankOf, .ref h_same, .ref h_work, .ref h_next, .ref h_often, .ref h_has, .int z_lesser])), (h_row, .inl (cB, 16384, .inl z_row)), (h_sought, .inl (cB, 200, .inl z_sought)), (h_start, .inl (cI, 66, .inl z_start)), (h_documentOf, .inl (cI, 16384, .inl z_documentOf))] := hD.sub [0, 1, 2, 3, 4] rfl rfl
        obtain ⟨hvt, hvf⟩ := hv
        refine lv_if_ne (tgt := 35) hx hb d_MD_found_29 (by decide) (fun c5 => ?_) (fun c5 => ?_)
        · have hv := hvt c5
          refine lv_iload_n hx hb d_MD_found_35 rfl (lv_at hl 2 rfl) ?_
          refine lv_iload_n hx hb d_MD_found_36 rfl (lv_at hl 1 rfl) ?_
          obtain ⟨hvt, hvf⟩ := hv
          refine lv_icmp_ne (tgt := 46) hx hb d_MD_found_37 (by decide) (fun c6 => ?_) (fun c6 => ?_)
          · have hv := hvt c6
            refine lv_iinc (v := x2 + 1) (lv' := [(2, .int (x2 + 1)), (0, .ref h_t), (1, .int a_p1), (3, .int x3)]) hx hb d_MD_found_46 hl (k := 2) rfl (iinc_v (by decide)) (by decide) rfl (fun ls hl => ?_)
            exact wk_MD_found_49 F hr hlk hK hA ih (x2 + 1) x3 z_thrown hv _ _ _ hP hD hS (lv_sub hl [1, 2, 0, 3] rfl)
          · have hv := hvf c6
            refine lv_aload_n hx hb d_MD_found_40 rfl (lv_at hl 0 rfl) ?_
            refine lv_iload_n hx hb d_MD_found_41 rfl (lv_at hl 3 rfl) ?_
            refine cV_i (wr := [(h_row, .inl (cB, 16384, .inl z_row)), (h_sought, .inl (cB, 200, .inl z_sought))]) (rest := []) (c_MD_where l dC dI cI cJ cB cZ h_t h_tape h_row h_out h_sought h_start h_documentOf h_order h_rankOf h_same h_work h_next h_often h_has H.size z_thrown z_size z_outSize z_soughtSize z_documents z_indexed z_suffixes z_rows z_lesser z_start z_documentOf x3 _ hv) F (cw_V (fun _ h => h) 1 hw m_1229 m_1231 ms_36 m_9 m_1232 rfl rfl (by decide +kernel) ⟨by decide, by decide⟩) hK hP hD hS hA [0, 3, 4] [1, 2] rfl rfl rfl rfl (by decide) 0 8 rfl rfl rfl hl.1 rfl (Nat.le_of_ble_eq_true rfl) d_MD_found_42 ⟨Nat.le_of_ble_eq_true rfl, Nat.le_of_ble_eq_true rfl⟩ (fun r7 u H locs hv hP hD hS => ?_)
            have hP : va_P (dC, dI) classes [(h_t, .inr (8, [.int z_thrown, .ref h_tape, .ref h_row, .ref h_out, .ref h_sought, .int z_size, .int z_outSize, .int z_soughtSize, .int z_documents, .int z_indexed, .int z_suffixes, .int z_rows, .ref h_start, .ref h_documentOf, .ref h_order, .ref h_rankOf, .ref h_same, .ref h_work, .ref h_next, .ref h_often, .ref h_has, .int z_lesser])), (h_row, .inl (cB, 16384, .inl z_row)), (h_sought, .inl (cB, 200, .inl z_sought)), (h_start, .inl (cI, 66, .inl z_start)), (h_documentOf, .inl (cI, 16384, .inl z_documentOf))] H := P_sub hP [2, 0, 1, 3, 4] rfl
            have hD : va_D A [(h_t, .inr (8, [.int z_thrown, .ref h_tape, .ref h_row, .ref h_out, .ref h_sought, .int z_size, .int z_outSize, .int z_soughtSize, .int z_documents, .int z_indexed, .int z_suffixes, .int z_rows, .ref h_start, .ref h_documentOf, .ref h_order, .ref h_rankOf, .ref h_same, .ref h_work, .ref h_next, .ref h_often, .ref h_has, .int z_lesser])), (h_row, .inl (cB, 16384, .inl z_row)), (h_sought, .inl (cB, 200, .inl z_sought)), (h_start, .inl (cI, 66, .inl z_start)), (h_documentOf, .inl (cI, 16384, .inl z_documentOf))] := hD.sub [2, 0, 1, 3, 4] rfl rfl
            exact W.iret (v := r7) hx hb hr (fun t ht hW => ⟨⟨r7, z_thrown, rfl, hv, by rw [ht]; exact hP, va_K.moved hW.alike hK, hD⟩, hS.F ht⟩) hS.2.2 d_MD_found_45
        · have hv := hvf c5
          refine lv_goto (tgt := 49) hx hb d_MD_found_32 (by decide) ?_
          exact wk_MD_found_49 F hr hlk hK hA ih x2 x3 z_thrown hv _ _ _ hP hD hS (lv_sub hl [0, 1, 2, 3] rfl)

set_option maxHeartbeats 4000000 in
set_option maxRecDepth 100000 in
theorem c_MD_found (l : Launch) (dC : Nat → ClassId) (dI : Nat → Nat → Nat) (cI cJ cB cZ : ClassId) (h_t : Nat) (h_tape : Nat) (h_row : Nat) (h_out : Nat) (h_sought : Nat) (h_start : Nat) (h_documentOf : Nat) (h_order : Nat) (h_rankOf : Nat) (h_same : Nat) (h_work : Nat) (h_next : Nat) (h_often : Nat) (h_has : Nat) (sz : Nat) (z_thrown : Int32) (z_size : Int32) (z_outSize : Int32) (z_soughtSize : Int32) (z_documents : Int32) (z_indexed : Int32) (z_suffixes : Int32) (z_rows : Int32) (z_lesser : Int32) (z_row : Nat → Int32) (z_sought : Nat → Int32) (z_start : Nat → Int32) (z_documentOf : Nat → Int32) (a_p1 : Int32) (post : Int32 → Int32 → Prop) (hv : vc_MD_found a_p1 z_soughtSize z_suffixes z_row z_sought z_start z_documentOf post z_thrown) : Met l y_MD_found (Cond.code y_MD_found b_MD_found 4 (some .int) :: WT) rm_MD_found (cPre (dC, dI) classes (TYS cI cJ cB cZ) [(h_t, .inr (8, [.int z_thrown, .ref h_tape, .ref h_row, .ref h_out, .ref h_sought, .int z_size, .int z_outSize, .int z_soughtSize, .int z_documents, .int z_indexed, .int z_suffixes, .int z_rows, .ref h_start, .ref h_documentOf, .ref h_order, .ref h_rankOf, .ref h_same, .ref h_work, .ref h_next, .ref h_often, .ref h_has, .int z_lesser])), (h_row, .inl (cB, 16384, .inl z_row)), (h_sought, .inl (cB, 200, .inl z_sought)), (h_start, .inl (cI, 66, .inl z_start)), (h_documentOf, .inl (cI, 16384, .inl z_documentOf))] sz [.ref h_t, .int a_p1]) (va_Qi (fun (r : Int32) (u : Int32) => post r u) (fun u t => cAft (dC, dI) classes (TYS cI cJ cB cZ) (va_A [(h_t, .inr (8, [.int z_thrown, .ref h_tape, .ref h_row, .ref h_out, .ref h_sought, .int z_size, .int z_outSize, .int z_soughtSize, .int z_documents, .int z_indexed, .int z_suffixes, .int z_rows, .ref h_start, .ref h_documentOf, .ref h_order, .ref h_rankOf, .ref h_same, .ref h_work, .ref h_next, .ref h_often, .ref h_has, .int z_lesser])), (h_row, .inl (cB, 16384, .inl z_row)), (h_sought, .inl (cB, 200, .inl z_sought)), (h_start, .inl (cI, 66, .inl z_start)), (h_documentOf, .inl (cI, 16384, .inl z_documentOf))] sz) [(h_t, .inr (8, [.int u, .ref h_tape, .ref h_row, .ref h_out, .ref h_sought, .int z_size, .int z_outSize, .int z_soughtSize, .int z_documents, .int z_indexed, .int z_suffixes, .int z_rows, .ref h_start, .ref h_documentOf, .ref h_order, .ref h_rankOf, .ref h_same, .ref h_work, .ref h_next, .ref h_often, .ref h_has, .int z_lesser])), (h_row, .inl (cB, 16384, .inl z_row)), (h_sought, .inl (cB, 200, .inl z_sought)), (h_start, .inl (cI, 66, .inl z_start)), (h_documentOf, .inl (cI, 16384, .inl z_documentOf))] t) (va_A [(h_t, .inr (8, [.int z_thrown, .ref h_tape, .ref h_row, .ref h_out, .ref h_sought, .int z_size, .int z_outSize, .int z_soughtSize, .int z_documents, .int z_indexed, .int z_suffixes, .int z_rows, .ref h_start, .ref h_documentOf, .ref h_order, .ref h_rankOf, .ref h_same, .ref h_work, .ref h_next, .ref h_often, .ref h_has, .int z_lesser])), (h_row, .inl (cB, 16384, .inl z_row)), (h_sought, .inl (cB, 200, .inl z_sought)), (h_start, .inl (cI, 66, .inl z_start)), (h_documentOf, .inl (cI, 16384, .inl z_documentOf))] sz)) 0 0 (va_A [(h_t, .inr (8, [.int z_thrown, .ref h_tape, .ref h_row, .ref h_out, .ref h_sought, .int z_size, .int z_outSize, .int z_soughtSize, .int z_documents, .int z_indexed, .int z_suffixes, .int z_rows, .ref h_start, .ref h_documentOf, .ref h_order, .ref h_rankOf, .ref h_same, .ref h_work, .ref h_next, .ref h_often, .ref h_has, .int z_lesser])), (h_row, .inl (cB, 16384, .inl z_row)), (h_sought, .inl (cB, 200, .inl z_sought)), (h_start, .inl (cI, 66, .inl z_start)), (h_documentOf, .inl (cI, 16384, .inl z_documentOf))] sz) := by
  refine Met.ofW (cc := b_MD_found) (maxL := 4) (ret := (some .int)) (by decide) rfl ?_
  intro p e s m args below meth c s₁ B hml hq
  obtain ⟨rfl, hsz, hP, hK, hD0⟩ := hq
  have hts := atoms_spec (ws := Cond.code y_MD_found b_MD_found 4 (some .int) :: WT) B.pre
  have hw : ∀ w ∈ WT, w.before ([.ref h_t, .int a_p1] : List Value).toArray s = true := fun w h => hts w (List.mem_cons_of_mem _ h)
  have hx := B.exec
  have hb := B.bytes
  have hr := B.returns
  have hlk := B.notSynchronized
  have hown : s.vm.findClass "SuffixIndexModel" = some m.cls := findClass_of_methodNamed B.named
  have F : CallFix p m c b_MD_found 4 s ([.ref h_t, .int a_p1] : List Value).toArray WT "SuffixIndexModel" := ⟨hx, hb, hml, hown, hw⟩
  subst hsz
  have hD := hD0.self (sz := s.heap.size)
  generalize hAe : va_A [(h_t, .inr (8, [.int z_thrown, .ref h_tape, .ref h_row, .ref h_out, .ref h_sought, .int z_size, .int z_outSize, .int z_soughtSize, .int z_documents, .int z_indexed, .int z_suffixes, .int z_rows, .ref h_start, .ref h_documentOf, .ref h_order, .ref h_rankOf, .ref h_same, .ref h_work, .ref h_next, .ref h_often, .ref h_has, .int z_lesser])), (h_row, .inl (cB, 16384, .inl z_row)), (h_sought, .inl (cB, 200, .inl z_sought)), (h_start, .inl (cI, 66, .inl z_start)), (h_documentOf, .inl (cI, 16384, .inl z_documentOf))] s.heap.size = A at hD ⊢
  have hA : ∀ q : Nat, s.heap.size ≤ q → A q := fun q h => by rw [← hAe]; exact Or.inr h
  have hS : va_S A s.heap s.heap [] := va_S.rf
  have hl := lv_entry ([.ref h_t, .int a_p1]) (n := 4) (Nat.le_of_ble_eq_true rfl)
  rw [lg_entry_eq]
  generalize (lg_sl ([.ref h_t, .int a_p1]) ++ List.replicate (4 - (lg_sl ([.ref h_t, .int a_p1])).length) Slot.unset).toArray = ls at hl ⊢
  have hl : lv_has ls 4 [(0, .ref h_t), (1, .int a_p1)] := hl
  show W p l e rm_MD_found s m _ below meth c s.heap [] 0 0 _ _
  have hP : va_P (dC, dI) classes [(h_t, .inr (8, [.int z_thrown, .ref h_tape, .ref h_row, .ref h_out, .ref h_sought, .int z_size, .int z_outSize, .int z_soughtSize, .int z_documents, .int z_indexed, .int z_suffixes, .int z_rows, .ref h_start, .ref h_documentOf, .ref h_order, .ref h_rankOf, .ref h_same, .ref h_work, .ref h_next, .ref h_often, .ref h_has, .int z_lesser])), (h_row, .inl (cB, 16384, .inl z_row)), (h_sought, .inl (cB, 200, .inl z_sought)), (h_start, .inl (cI, 66, .inl z_start)), (h_documentOf, .inl (cI, 16384, .inl z_documentOf))] s.heap := hP
  obtain ⟨H, hHe⟩ : ∃ H, H = s.heap := ⟨_, rfl⟩
  have hS : va_S A s.heap H [] := by rw [hHe]; exact hS
  rw [← hHe] at hP
  suffices hgoal : W p l e rm_MD_found s m ([.ref h_t, .int a_p1] : List Value).toArray below meth c H [] 0 0 (MQ below (va_Qi (fun (r : Int32) (u : Int32) => post r u) (fun u t => cAft (dC, dI) classes (TYS cI cJ cB cZ) A [(h_t, .inr (8, [.int u, .ref h_tape, .ref h_row, .ref h_out, .ref h_sought, .int z_size, .int z_outSize, .int z_soughtSize, .int z_documents, .int z_indexed, .int z_suffixes, .int z_rows, .ref h_start, .ref h_documentOf, .ref h_order, .ref h_rankOf, .ref h_same, .ref h_work, .ref h_next, .ref h_often, .ref h_has, .int z_lesser])), (h_row, .inl (cB, 16384, .inl z_row)), (h_sought, .inl (cB, 200, .inl z_sought)), (h_start, .inl (cI, 66, .inl z_start)), (h_documentOf, .inl (cI, 16384, .inl z_documentOf))] t) A) ([.ref h_t, .int a_p1] : List Value).toArray s 0 0 A) (F0 m 0 ls []) by rw [hHe] at hgoal; exact hgoal
  refine lv_aload_n hx hb d_MD_found_0 rfl (lv_at hl 0 rfl) ?_
  refine lv_iconst (v := 0) hx hb d_MD_found_1 (by decide) ?_
  refine va_put (D := (dC, dI)) (ci := 8) (v := .int 0) (ty := .int) (C := "SuffixIndexModel") (T := F_MD) (N := 22) hx hb hw i_MD t_MD t_MD_ok n_MD hown hK hP hD hS 0 rfl rfl 0 (by decide) (hw _ m_1101) (fun _ h9 => h9) rfl (by decide +kernel) rfl rfl (Nat.le_of_ble_eq_true rfl) d_MD_found_2 (fun H locs hP hD hS => ?_)
  have hP : va_P (dC, dI) classes [(h_t, .inr (8, [.int 0, .ref h_tape, .ref h_row, .ref h_out, .ref h_sought, .int z_size, .int z_outSize, .int z_soughtSize, .int z_documents, .int z_indexed, .int z_suffixes, .int z_rows, .ref h_start, .ref h_documentOf, .ref h_order, .ref h_rankOf, .ref h_same, .ref h_work, .ref h_next, .ref h_often, .ref h_has, .int z_lesser])), (h_row, .inl (cB, 16384, .inl z_row)), (h_sought, .inl (cB, 200, .inl z_sought)), (h_start, .inl (cI, 66, .inl z_start)), (h_documentOf, .inl (cI, 16384, .inl z_documentOf))] H := hP
  have hD : va_D A [(h_t, .inr (8, [.int 0, .ref h_tape, .ref h_row, .ref h_out, .ref h_sought, .int z_size, .int z_outSize, .int z_soughtSize, .int z_documents, .int z_indexed, .int z_suffixes, .int z_rows, .ref h_start, .ref h_documentOf, .ref h_order, .ref h_rankOf, .ref h_same, .ref h_work, .ref h_next, .ref h_often, .ref h_has, .int z_lesser])), (h_row, .inl (cB, 16384, .inl z_row)), (h_sought, .inl (cB, 200, .inl z_sought)), (h_start, .inl (cI, 66, .inl z_start)), (h_documentOf, .inl (cI, 16384, .inl z_documentOf))] := hD
  refine lv_iconst (v := 0) hx hb d_MD_found_5 (by decide) ?_
  refine lv_istore_n (lv' := [(2, .int 0), (0, .ref h_t), (1, .int a_p1)]) hx hb d_MD_found_6 rfl hl (by decide) rfl (fun ls hl => ?_)
  refine lv_iconst (v := 0) hx hb d_MD_found_7 (by decide) ?_
  refine lv_istore_n (lv' := [(3, .int 0), (2, .int 0), (0, .ref h_t), (1, .int a_p1)]) hx hb d_MD_found_8 rfl hl (by decide) rfl (fun ls hl => ?_)
  obtain ⟨j, hv⟩ := hv
  exact wk_MD_found_9 F hr hlk hK hA j 0 0 0 hv _ _ _ hP hD hS (lv_sub hl [2, 3, 1, 0] rfl)

set_option maxHeartbeats 4000000 in
set_option maxRecDepth 100000 in
theorem wk_MD_most_140 {p : Program} {l : Launch} {e : Env} {s : State} {m : MethodId} {below : List Frame} {meth : Method} {c : Code} {A : Nat → Prop} {dC : Nat → ClassId} {dI : Nat → Nat → Nat} {cI cJ cB cZ : ClassId} {h_t : Nat} {h_tape : Nat} {h_row : Nat} {h_out : Nat} {h_sought : Nat} {h_start : Nat} {h_documentOf : Nat} {h_order : Nat} {h_rankOf : Nat} {h_same : Nat} {h_work : Nat} {h_next : Nat} {h_often : Nat} {h_has : Nat} {a_p1 : Int32} {z_soughtSize : Int32} {z_indexed : Int32} {z_suffixes : Int32} {z_row : Nat → Int32} {z_sought : Nat → Int32} {z_start : Nat → Int32} {z_documentOf : Nat → Int32} {z_size : Int32} {z_outSize : Int32} {z_documents : Int32} {z_rows : Int32} {z_lesser : Int32} {post : Int32 → Int32 → (Nat → Int32) → Prop} {K98 : Int32 → Int32 → Int32 → Int32 → (Nat → Int32) → Prop} (F : CallFix p m c b_MD_most 5 s ([.ref h_t, .int a_p1] : List Value).toArray WT "SuffixIndexModel") (hr : meth.sig.returnType = (some .int)) (hlk : meth.locks = false) (hK : va_K (dC, dI) classes (TYS cI cJ cB cZ) s) (hA : ∀ q, s.heap.size ≤ q → A q) (hK98 : ∀ (x2 : Int32) (x3 : Int32) (x4 : Int32) (z_thrown : Int32) (z_often : Nat → Int32), K98 x2 x3 x4 z_thrown z_often → ∀ (H : Heap) (locs : List Loc) (ls : Array Slot), va_P (dC, dI) classes [(h_t, .inr (8, [.int z_thrown, .ref h_tape, .ref h_row, .ref h_out, .ref h_sought, .int z_size, .int z_outSize, .int z_soughtSize, .int z_documents, .int z_indexed, .int z_suffixes, .int z_rows, .ref h_start, .ref h_documentOf, .ref h_order, .ref h_rankOf, .ref h_same, .ref h_work, .ref h_next, .ref h_often, .ref h_has, .int z_lesser])), (h_row, .inl (cB, 16384, .inl z_row)), (h_sought, .inl (cB, 200, .inl z_sought)), (h_start, .inl (cI, 66, .inl z_start)), (h_documentOf, .inl (cI, 16384, .inl z_documentOf)), (h_often, .inl (cI, 64, .inl z_often))] H → va_D A [(h_t, .inr (8, [.int z_thrown, .ref h_tape, .ref h_row, .ref h_out, .ref h_sought, .int z_size, .int z_outSize, .int z_soughtSize, .int z_documents, .int z_indexed, .int z_suffixes, .int z_rows, .ref h_start, .ref h_documentOf, .ref h_order, .ref h_rankOf, .ref h_same, .ref h_work, .ref h_next, .ref h_often, .ref h_has, .int z_lesser])), (h_row, .inl (cB, 16384, .inl z_row)), (h_sought, .inl (cB, 200, .inl z_sought)), (h_start, .inl (cI, 66, .inl z_start)), (h_documentOf, .inl (cI, 16384, .inl z_documentOf)), (h_often, .inl (cI, 64, .inl z_often))] → va_S A s.heap H locs → lv_has ls 5 [(0, .ref h_t), (2, .int x2), (3, .int x3), (4, .int x4)] → W p l e rm_MD_most s m ([.ref h_t, .int a_p1] : List Value).toArray below meth c H locs 0 0 (MQ below (va_Qi (fun (r : Int32) (u : Int32 × (Nat → Int32)) => post r u.1 u.2) (fun u t => cAft (dC, dI) classes (TYS cI cJ cB cZ) A [(h_t, .inr (8, [.int u.1, .ref h_tape, .ref h_row, .ref h_out, .ref h_sought, .int z_size, .int z_outSize, .int z_soughtSize, .int z_documents, .int z_indexed, .int z_suffixes, .int z_rows, .ref h_start, .ref h_documentOf, .ref h_order, .ref h_rankOf, .ref h_same, .ref h_work, .ref h_next, .ref h_often, .ref h_has, .int z_lesser])), (h_row, .inl (cB, 16384, .inl z_row)), (h_sought, .inl (cB, 200, .inl z_sought)), (h_start, .inl (cI, 66, .inl z_start)), (h_documentOf, .inl (cI, 16384, .inl z_documentOf)), (h_often, .inl (cI, 64, .inl u.2))] t) A) ([.ref h_t, .int a_p1] : List Value).toArray s 0 0 A) (F0 m 98 ls [])) : ∀ (x2 : Int32) (x3 : Int32) (x4 : Int32) (z_thrown : Int32) (z_often : Nat → Int32), vc_MD_most_140 a_p1 z_soughtSize z_indexed z_suffixes z_row z_sought z_start z_documentOf post K98 x2 x3 x4 z_thrown z_often → ∀ (H : Heap) (locs : List Loc) (ls : Array Slot), va_P (dC, dI) classes [(h_t, .inr (8, [.int z_thrown, .ref h_tape, .ref h_row, .ref h_out, .ref h_sought, .int z_size, .int z_outSize, .int z_soughtSize, .int z_documents, .int z_indexed, .int z_suffixes, .int z_rows, .ref h_start, .ref h_documentOf, .ref h_order, .ref h_rankOf, .ref h_same, .ref h_work, .ref h_next, .ref h_often, .ref h_has, .int z_lesser])), (h_row, .inl (cB, 16384, .inl z_row)), (h_sought, .inl (cB, 200, .inl z_sought)), (h_start, .inl (cI, 66, .inl z_start)), (h_documentOf, .inl (cI, 16384, .inl z_documentOf)), (h_often, .inl (cI, 64, .inl z_often))] H → va_D A [(h_t, .inr (8, [.int z_thrown, .ref h_tape, .ref h_row, .ref h_out, .ref h_sought, .int z_size, .int z_outSize, .int z_soughtSize, .int z_documents, .int z_indexed, .int z_suffixes, .int z_rows, .ref h_start, .ref h_documentOf, .ref h_order, .ref h_rankOf, .ref h_same, .ref h_work, .ref h_next, .ref h_often, .ref h_has, .int z_lesser])), (h_row, .inl (cB, 16384, .inl z_row)), (h_sought, .inl (cB, 200, .inl z_sought)), (h_start, .inl (cI, 66, .inl z_start)), (h_documentOf, .inl (cI, 16384, .inl z_documentOf)), (h_often, .inl (cI, 64, .inl z_often))] → va_S A s.heap H locs → lv_has ls 5 [(0, .ref h_t), (2, .int x2), (3, .int x3), (4, .int x4)] → W p l e rm_MD_most s m ([.ref h_t, .int a_p1] : List Value).toArray below meth c H locs 0 0 (MQ below (va_Qi (fun (r : Int32) (u : Int32 × (Nat → Int32)) => post r u.1 u.2) (fun u t => cAft (dC, dI) classes (TYS cI cJ cB cZ) A [(h_t, .inr (8, [.int u.1, .ref h_tape, .ref h_row, .ref h_out, .ref h_sought, .int z_size, .int z_outSize, .int z_soughtSize, .int z_documents, .int z_indexed, .int z_suffixes, .int z_rows, .ref h_start, .ref h_documentOf, .ref h_order, .ref h_rankOf, .ref h_same, .ref h_work, .ref h_next, .ref h_often, .ref h_has, .int z_lesser])), (h_row, .inl (cB, 16384, .inl z_row)), (h_sought, .inl (cB, 200, .inl z_sought)), (h_start, .inl (cI, 66, .inl z_start)), (h_documentOf, .inl (cI, 16384, .inl z_documentOf)), (h_often, .inl (cI, 64, .inl u.2))] t) A) ([.ref h_t, .int a_p1] : List Value).toArray s 0 0 A) (F0 m 140 ls []) := by
  obtain ⟨hx, hb, hml, hown, hw⟩ := id F
  intro x2 x3 x4 z_thrown z_often hv H locs ls hP hD hS hl
  refine lv_iinc (v := x4 + 1) (lv' := [(4, .int (x4 + 1)), (0, .ref h_t), (2, .int x2), (3, .int x3)]) hx hb d_MD_most_140 hl (k := 3) rfl (iinc_v (by decide)) (by decide) rfl (fun ls hl => ?_)
  refine lv_goto (tgt := 98) hx hb d_MD_most_143 (by decide) ?_
  exact hK98 x2 x3 (x4 + 1) z_thrown z_often hv _ _ _ hP hD hS (lv_sub hl [1, 2, 3, 0] rfl)

set_option maxHeartbeats 4000000 in
set_option maxRecDepth 100000 in
theorem wk_MD_most_137 {p : Program} {l : Launch} {e : Env} {s : State} {m : MethodId} {below : List Frame} {meth : Method} {c : Code} {A : Nat → Prop} {dC : Nat → ClassId} {dI : Nat → Nat → Nat} {cI cJ cB cZ : ClassId} {h_t : Nat} {h_tape : Nat} {h_row : Nat} {h_out : Nat} {h_sought : Nat} {h_start : Nat} {h_documentOf : Nat} {h_order : Nat} {h_rankOf : Nat} {h_same : Nat} {h_work : Nat} {h_next : Nat} {h_often : Nat} {h_has : Nat} {a_p1 : Int32} {z_soughtSize : Int32} {z_indexed : Int32} {z_suffixes : Int32} {z_row : Nat → Int32} {z_sought : Nat → Int32} {z_start : Nat → Int32} {z_documentOf : Nat → Int32} {z_size : Int32} {z_outSize : Int32} {z_documents : Int32} {z_rows : Int32} {z_lesser : Int32} {post : Int32 → Int32 → (Nat → Int32) → Prop} {K98 : Int32 → Int32 → Int32 → Int32 → (Nat → Int32) → Prop} (F : CallFix p m c b_MD_most 5 s ([.ref h_t, .int a_p1] : List Value).toArray WT "SuffixIndexModel") (hr : meth.sig.returnType = (some .int)) (hlk : meth.locks = false) (hK : va_K (dC, dI) classes (TYS cI cJ cB cZ) s) (hA : ∀ q, s.heap.size ≤ q → A q) (hK98 : ∀ (x2 : Int32) (x3 : Int32) (x4 : Int32) (z_thrown : Int32) (z_often : Nat → Int32), K98 x2 x3 x4 z_thrown z_often → ∀ (H : Heap) (locs : List Loc) (ls : Array Slot), va_P (dC, dI) classes [(h_t, .inr (8, [.int z_thrown, .ref h_tape, .ref h_row, .ref h_out, .ref h_sought, .int z_size, .int z_outSize, .int z_soughtSize, .int z_documents, .int z_indexed, .int z_suffixes, .int z_rows, .ref h_start, .ref h_documentOf, .ref h_order, .ref h_rankOf, .ref h_same, .ref h_work, .ref h_next, .ref h_often, .ref h_has, .int z_lesser])), (h_row, .inl (cB, 16384, .inl z_row)), (h_sought, .inl (cB, 200, .inl z_sought)), (h_start, .inl (cI, 66, .inl z_start)), (h_documentOf, .inl (cI, 16384, .inl z_documentOf)), (h_often, .inl (cI, 64, .inl z_often))] H → va_D A [(h_t, .inr (8, [.int z_thrown, .ref h_tape, .ref h_row, .ref h_out, .ref h_sought, .int z_size, .int z_outSize, .int z_soughtSize, .int z_documents, .int z_indexed, .int z_suffixes, .int z_rows, .ref h_start, .ref h_documentOf, .ref h_order, .ref h_rankOf, .ref h_same, .ref h_work, .ref h_next, .ref h_often, .ref h_has, .int z_lesser])), (h_row, .inl (cB, 16384, .inl z_row)), (h_sought, .inl (cB, 200, .inl z_sought)), (h_start, .inl (cI, 66, .inl z_start)), (h_documentOf, .inl (cI, 16384, .inl z_documentOf)), (h_often, .inl (cI, 64, .inl z_often))] → va_S A s.heap H locs → lv_has ls 5 [(0, .ref h_t), (2, .int x2), (3, .int x3), (4, .int x4)] → W p l e rm_MD_most s m ([.ref h_t, .int a_p1] : List Value).toArray below meth c H locs 0 0 (MQ below (va_Qi (fun (r : Int32) (u : Int32 × (Nat → Int32)) => post r u.1 u.2) (fun u t => cAft (dC, dI) classes (TYS cI cJ cB cZ) A [(h_t, .inr (8, [.int u.1, .ref h_tape, .ref h_row, .ref h_out, .ref h_sought, .int z_size, .int z_outSize, .int z_soughtSize, .int z_documents, .int z_indexed, .int z_suffixes, .int z_rows, .ref h_start, .ref h_documentOf, .ref h_order, .ref h_rankOf, .ref h_same, .ref h_work, .ref h_next, .ref h_often, .ref h_has, .int z_lesser])), (h_row, .inl (cB, 16384, .inl z_row)), (h_sought, .inl (cB, 200, .inl z_sought)), (h_start, .inl (cI, 66, .inl z_start)), (h_documentOf, .inl (cI, 16384, .inl z_documentOf)), (h_often, .inl (cI, 64, .inl u.2))] t) A) ([.ref h_t, .int a_p1] : List Value).toArray s 0 0 A) (F0 m 98 ls [])) : ∀ (x2 : Int32) (x4 : Int32) (z_thrown : Int32) (z_often : Nat → Int32), vc_MD_most_137 a_p1 z_soughtSize z_indexed z_suffixes z_row z_sought z_start z_documentOf post K98 x2 x4 z_thrown z_often → ∀ (H : Heap) (locs : List Loc) (ls : Array Slot), va_P (dC, dI) classes [(h_t, .inr (8, [.int z_thrown, .ref h_tape, .ref h_row, .ref h_out, .ref h_sought, .int z_size, .int z_outSize, .int z_soughtSize, .int z_documents, .int z_indexed, .int z_suffixes, .int z_rows, .ref h_start, .ref h_documentOf, .ref h_order, .ref h_rankOf, .ref h_same, .ref h_work, .ref h_next, .ref h_often, .ref h_has, .int z_lesser])), (h_row, .inl (cB, 16384, .inl z_row)), (h_sought, .inl (cB, 200, .inl z_sought)), (h_start, .inl (cI, 66, .inl z_start)), (h_documentOf, .inl (cI, 16384, .inl z_documentOf)), (h_often, .inl (cI, 64, .inl z_often))] H → va_D A [(h_t, .inr (8, [.int z_thrown, .ref h_tape, .ref h_row, .ref h_out, .ref h_sought, .int z_size, .int z_outSize, .int z_soughtSize, .int z_documents, .int z_indexed, .int z_suffixes, .int z_rows, .ref h_start, .ref h_documentOf, .ref h_order, .ref h_rankOf, .ref h_same, .ref h_work, .ref h_next, .ref h_often, .ref h_has, .int z_lesser])), (h_row, .inl (cB, 16384, .inl z_row)), (h_sought, .inl (cB, 200, .inl z_sought)), (h_start, .inl (cI, 66, .inl z_start)), (h_documentOf, .inl (cI, 16384, .inl z_documentOf)), (h_often, .inl (cI, 64, .inl z_often))] → va_S A s.heap H locs → lv_has ls 5 [(0, .ref h_t), (2, .int x2), (4, .int x4)] → W p l e rm_MD_most s m ([.ref h_t, .int a_p1] : List Value).toArray below meth c H locs 0 0 (MQ below (va_Qi (fun (r : Int32) (u : Int32 × (Nat → Int32)) => post r u.1 u.2) (fun u t => cAft (dC, dI) classes (TYS cI cJ cB cZ) A [(h_t, .inr (8, [.int u.1, .ref h_tape, .ref h_row, .ref h_out, .ref h_sought, .int z_size, .int z_outSize, .int z_soughtSize, .int z_documents, .int z_indexed, .int z_suffixes, .int z_rows, .ref h_start, .ref h_documentOf, .ref h_order, .ref h_rankOf, .ref h_same, .ref h_work, .ref h_next, .ref h_often, .ref h_has, .int z_lesser])), (h_row, .inl (cB, 16384, .inl z_row)), (h_sought, .inl (cB, 200, .inl z_sought)), (h_start, .inl (cI, 66, .inl z_start)), (h_documentOf, .inl (cI, 16384, .inl z_documentOf)), (h_often, .inl (cI, 64, .inl u.2))] t) A) ([.ref h_t, .int a_p1] : List Value).toArray s 0 0 A) (F0 m 137 ls []) := by
  obtain ⟨hx, hb, hml, hown, hw⟩ := id F
  intro x2 x4 z_thrown z_often hv H locs ls hP hD hS hl
  refine lv_iload hx hb d_MD_most_137 (lv_at hl 2 rfl) ?_
  refine lv_istore_n (lv' := [(3, .int x4), (0, .ref h_t), (2, .int x2), (4, .int x4)]) hx hb d_MD_most_139 rfl hl (by decide) rfl (fun ls hl => ?_)
  exact wk_MD_most_140 F hr hlk hK hA hK98 x2 x4 x4 z_thrown z_often hv _ _ _ hP hD hS (lv_sub hl [1, 2, 0, 3] rfl)

set_option maxHeartbeats 4000000 in
set_option maxRecDepth 100000 in
theorem wk_MD_most_157 {p : Program} {l : Launch} {e : Env} {s : State} {m : MethodId} {below : List Frame} {meth : Method} {c : Code} {A : Nat → Prop} {dC : Nat → ClassId} {dI : Nat → Nat → Nat} {cI cJ cB cZ : ClassId} {h_t : Nat} {h_tape : Nat} {h_row : Nat} {h_out : Nat} {h_sought : Nat} {h_start : Nat} {h_documentOf : Nat} {h_order : Nat} {h_rankOf : Nat} {h_same : Nat} {h_work : Nat} {h_next : Nat} {h_often : Nat} {h_has : Nat} {a_p1 : Int32} {z_soughtSize : Int32} {z_indexed : Int32} {z_suffixes : Int32} {z_row : Nat → Int32} {z_sought : Nat → Int32} {z_start : Nat → Int32} {z_documentOf : Nat → Int32} {z_size : Int32} {z_outSize : Int32} {z_documents : Int32} {z_rows : Int32} {z_lesser : Int32} {post : Int32 → Int32 → (Nat → Int32) → Prop} {K93 : Int32 → Int32 → (Nat → Int32) → Prop} (F : CallFix p m c b_MD_most 5 s ([.ref h_t, .int a_p1] : List Value).toArray WT "SuffixIndexModel") (hr : meth.sig.returnType = (some .int)) (hlk : meth.locks = false) (hK : va_K (dC, dI) classes (TYS cI cJ cB cZ) s) (hA : ∀ q, s.heap.size ≤ q → A q) (hK93 : ∀ (x2 : Int32) (z_thrown : Int32) (z_often : Nat → Int32), K93 x2 z_thrown z_often → ∀ (H : Heap) (locs : List Loc) (ls : Array Slot), va_P (dC, dI) classes [(h_t, .inr (8, [.int z_thrown, .ref h_tape, .ref h_row, .ref h_out, .ref h_sought, .int z_size, .int z_outSize, .int z_soughtSize, .int z_documents, .int z_indexed, .int z_suffixes, .int z_rows, .ref h_start, .ref h_documentOf, .ref h_order, .ref h_rankOf, .ref h_same, .ref h_work, .ref h_next, .ref h_often, .ref h_has, .int z_lesser])), (h_row, .inl (cB, 16384, .inl z_row)), (h_sought, .inl (cB, 200, .inl z_sought)), (h_start, .inl (cI, 66, .inl z_start)), (h_documentOf, .inl (cI, 16384, .inl z_documentOf)), (h_often, .inl (cI, 64, .inl z_often))] H → va_D A [(h_t, .inr (8, [.int z_thrown, .ref h_tape, .ref h_row, .ref h_out, .ref h_sought, .int z_size, .int z_outSize, .int z_soughtSize, .int z_documents, .int z_indexed, .int z_suffixes, .int z_rows, .ref h_start, .ref h_documentOf, .ref h_order, .ref h_rankOf, .ref h_same, .ref h_work, .ref h_next, .ref h_often, .ref h_has, .int z_lesser])), (h_row, .inl (cB, 16384, .inl z_row)), (h_sought, .inl (cB, 200, .inl z_sought)), (h_start, .inl (cI, 66, .inl z_start)), (h_documentOf, .inl (cI, 16384, .inl z_documentOf)), (h_often, .inl (cI, 64, .inl z_often))] → va_S A s.heap H locs → lv_has ls 5 [(0, .ref h_t), (2, .int x2)] → W p l e rm_MD_most s m ([.ref h_t, .int a_p1] : List Value).toArray below meth c H locs 0 0 (MQ below (va_Qi (fun (r : Int32) (u : Int32 × (Nat → Int32)) => post r u.1 u.2) (fun u t => cAft (dC, dI) classes (TYS cI cJ cB cZ) A [(h_t, .inr (8, [.int u.1, .ref h_tape, .ref h_row, .ref h_out, .ref h_sought, .int z_size, .int z_outSize, .int z_soughtSize, .int z_documents, .int z_indexed, .int z_suffixes, .int z_rows, .ref h_start, .ref h_documentOf, .ref h_order, .ref h_rankOf, .ref h_same, .ref h_work, .ref h_next, .ref h_often, .ref h_has, .int z_lesser])), (h_row, .inl (cB, 16384, .inl z_row)), (h_sought, .inl (cB, 200, .inl z_sought)), (h_start, .inl (cI, 66, .inl z_start)), (h_documentOf, .inl (cI, 16384, .inl z_documentOf)), (h_often, .inl (cI, 64, .inl u.2))] t) A) ([.ref h_t, .int a_p1] : List Value).toArray s 0 0 A) (F0 m 93 ls [])) : ∀ (x2 : Int32) (x3 : Int32) (k1 : Int32) (k2 : Int32) (z_thrown : Int32) (z_often : Nat → Int32), vc_MD_most_157 a_p1 z_soughtSize z_indexed z_suffixes z_row z_sought z_start z_documentOf post K93 x2 x3 k1 k2 z_thrown z_often → ∀ (H : Heap) (locs : List Loc) (ls : Array Slot), va_P (dC, dI) classes [(h_t, .inr (8, [.int z_thrown, .ref h_tape, .ref h_row, .ref h_out, .ref h_sought, .int z_size, .int z_outSize, .int z_soughtSize, .int z_documents, .int z_indexed, .int z_suffixes, .int z_rows, .ref h_start, .ref h_documentOf, .ref h_order, .ref h_rankOf, .ref h_same, .ref h_work, .ref h_next, .ref h_often, .ref h_has, .int z_lesser])), (h_row, .inl (cB, 16384, .inl z_row)), (h_sought, .inl (cB, 200, .inl z_sought)), (h_start, .inl (cI, 66, .inl z_start)), (h_documentOf, .inl (cI, 16384, .inl z_documentOf)), (h_often, .inl (cI, 64, .inl z_often))] H → va_D A [(h_t, .inr (8, [.int z_thrown, .ref h_tape, .ref h_row, .ref h_out, .ref h_sought, .int z_size, .int z_outSize, .int z_soughtSize, .int z_documents, .int z_indexed, .int z_suffixes, .int z_rows, .ref h_start, .ref h_documentOf, .ref h_order, .ref h_rankOf, .ref h_same, .ref h_work, .ref h_next, .ref h_often, .ref h_has, .int z_lesser])), (h_row, .inl (cB, 16384, .inl z_row)), (h_sought, .inl (cB, 200, .inl z_sought)), (h_start, .inl (cI, 66, .inl z_start)), (h_documentOf, .inl (cI, 16384, .inl z_documentOf)), (h_often, .inl (cI, 64, .inl z_often))] → va_S A s.heap H locs → lv_has ls 5 [(0, .ref h_t), (2, .int x2), (3, .int x3)] → W p l e rm_MD_most s m ([.ref h_t, .int a_p1] : List Value).toArray below meth c H locs 0 0 (MQ below (va_Qi (fun (r : Int32) (u : Int32 × (Nat → Int32)) => post r u.1 u.2) (fun u t => cAft (dC, dI) classes (TYS cI cJ cB cZ) A [(h_t, .inr (8, [.int u.1, .ref h_tape, .ref h_row, .ref h_out, .ref h_sought, .int z_size, .int z_outSize, .int z_soughtSize, .int z_documents, .int z_indexed, .int z_suffixes, .int z_rows, .ref h_start, .ref h_documentOf, .ref h_order, .ref h_rankOf, .ref h_same, .ref h_work, .ref h_next, .ref h_often, .ref h_has, .int z_lesser])), (h_row, .inl (cB, 16384, .inl z_row)), (h_sought, .inl (cB, 200, .inl z_sought)), (h_start, .inl (cI, 66, .inl z_start)), (h_documentOf, .inl (cI, 16384, .inl z_documentOf)), (h_often, .inl (cI, 64, .inl u.2))] t) A) ([.ref h_t, .int a_p1] : List Value).toArray s 0 0 A) (F0 m 157 ls [.int k2, .int k1, .ref h_t]) := by
  obtain ⟨hx, hb, hml, hown, hw⟩ := id F
  intro x2 x3 k1 k2 z_thrown z_often hv H locs ls hP hD hS hl
  refine cV_i (wr := [(h_row, .inl (cB, 16384, .inl z_row)), (h_sought, .inl (cB, 200, .inl z_sought)), (h_start, .inl (cI, 66, .inl z_start)), (h_documentOf, .inl (cI, 16384, .inl z_documentOf)), (h_often, .inl (cI, 64, .inl z_often))]) (rest := []) (c_MD_refuse l dC dI cI cJ cB cZ h_t h_tape h_row h_out h_sought h_start h_documentOf h_order h_rankOf h_same h_work h_next h_often h_has H.size z_thrown z_size z_outSize z_soughtSize z_documents z_indexed z_suffixes z_rows z_lesser k1 k2 _ hv) F (cw_V (fun _ h => h) 2 hw m_1177 m_1179 ms_29 m_9 m_1180 rfl rfl (by decide +kernel) ⟨by decide, by decide⟩) hK hP hD hS hA [0] [1, 2, 3, 4, 5] rfl rfl rfl rfl (by decide) 0 8 rfl rfl rfl hl.1 rfl (Nat.le_of_ble_eq_true rfl) d_MD_most_157 ⟨Nat.le_of_ble_eq_true rfl, Nat.le_of_ble_eq_true rfl⟩ (fun r1 u H locs hv hP hD hS => ?_)
  obtain ⟨u1_0, rfl⟩ : ∃ z, z = u := ⟨_, rfl⟩
  have hP : va_P (dC, dI) classes [(h_t, .inr (8, [.int u1_0, .ref h_tape, .ref h_row, .ref h_out, .ref h_sought, .int z_size, .int z_outSize, .int z_soughtSize, .int z_documents, .int z_indexed, .int z_suffixes, .int z_rows, .ref h_start, .ref h_documentOf, .ref h_order, .ref h_rankOf, .ref h_same, .ref h_work, .ref h_next, .ref h_often, .ref h_has, .int z_lesser])), (h_row, .inl (cB, 16384, .inl z_row)), (h_sought, .inl (cB, 200, .inl z_sought)), (h_start, .inl (cI, 66, .inl z_start)), (h_documentOf, .inl (cI, 16384, .inl z_documentOf)), (h_often, .inl (cI, 64, .inl z_often))] H := P_sub hP [5, 0, 1, 2, 3, 4] rfl
  have hD : va_D A [(h_t, .inr (8, [.int u1_0, .ref h_tape, .ref h_row, .ref h_out, .ref h_sought, .int z_size, .int z_outSize, .int z_soughtSize, .int z_documents, .int z_indexed, .int z_suffixes, .int z_rows, .ref h_start, .ref h_documentOf, .ref h_order, .ref h_rankOf, .ref h_same, .ref h_work, .ref h_next, .ref h_often, .ref h_has, .int z_lesser])), (h_row, .inl (cB, 16384, .inl z_row)), (h_sought, .inl (cB, 200, .inl z_sought)), (h_start, .inl (cI, 66, .inl z_start)), (h_documentOf, .inl (cI, 16384, .inl z_documentOf)), (h_often, .inl (cI, 64, .inl z_often))] := hD.sub [5, 0, 1, 2, 3, 4] rfl rfl
  obtain ⟨hvt, hvf⟩ := hv
  refine lv_if_eq (tgt := 165) hx hb d_MD_most_160 (by decide) (fun c2 => ?_) (fun c2 => ?_)
  · have hv := hvt c2
    refine lv_iload_n hx hb d_MD_most_165 rfl (lv_at hl 1 rfl) ?_
    obtain ⟨hvt, hvf⟩ := hv
    refine lv_if_ne (tgt := 181) hx hb d_MD_most_166 (by decide) (fun c3 => ?_) (fun c3 => ?_)
    · have hv := hvt c3
      refine lv_aload_n hx hb d_MD_most_181 rfl (lv_at hl 0 rfl) ?_
      refine va_get (D := (dC, dI)) (ci := 8) (v := .ref h_often) (C := "SuffixIndexModel") (T := F_MD) (N := 22) hx hb hw i_MD hown hK hP 0 rfl rfl 19 (by decide) (hw _ m_1120) (fun _ h9 => h9) rfl d_MD_most_182 ?_
      refine lv_iload_n hx hb d_MD_most_185 rfl (lv_at hl 2 rfl) ?_
      refine lv_iconst (v := 0) hx hb d_MD_most_186 (by decide) ?_
      obtain ⟨hin, hv⟩ := hv
      refine va_iast hx hb hK hP hD hS 5 0 rfl rfl hin d_MD_most_187 (fun H locs hP hD hS => ?_)
      have hP : va_P (dC, dI) classes [(h_t, .inr (8, [.int u1_0, .ref h_tape, .ref h_row, .ref h_out, .ref h_sought, .int z_size, .int z_outSize, .int z_soughtSize, .int z_documents, .int z_indexed, .int z_suffixes, .int z_rows, .ref h_start, .ref h_documentOf, .ref h_order, .ref h_rankOf, .ref h_same, .ref h_work, .ref h_next, .ref h_often, .ref h_has, .int z_lesser])), (h_row, .inl (cB, 16384, .inl z_row)), (h_sought, .inl (cB, 200, .inl z_sought)), (h_start, .inl (cI, 66, .inl z_start)), (h_documentOf, .inl (cI, 16384, .inl z_documentOf)), (h_often, .inl (cI, 64, .inl (upd z_often x3.toNatClampNeg 0)))] H := hP
      have hD : va_D A [(h_t, .inr (8, [.int u1_0, .ref h_tape, .ref h_row, .ref h_out, .ref h_sought, .int z_size, .int z_outSize, .int z_soughtSize, .int z_documents, .int z_indexed, .int z_suffixes, .int z_rows, .ref h_start, .ref h_documentOf, .ref h_order, .ref h_rankOf, .ref h_same, .ref h_work, .ref h_next, .ref h_often, .ref h_has, .int z_lesser])), (h_row, .inl (cB, 16384, .inl z_row)), (h_sought, .inl (cB, 200, .inl z_sought)), (h_start, .inl (cI, 66, .inl z_start)), (h_documentOf, .inl (cI, 16384, .inl z_documentOf)), (h_often, .inl (cI, 64, .inl (upd z_often x3.toNatClampNeg 0)))] := hD
      refine lv_iinc (v := x2 + (-1)) (lv' := [(2, .int (x2 + (-1))), (0, .ref h_t), (3, .int x3)]) hx hb d_MD_most_188 hl (k := 1) rfl (iinc_v (by decide)) (by decide) rfl (fun ls hl => ?_)
      refine lv_goto (tgt := 93) hx hb d_MD_most_191 (by decide) ?_
      exact hK93 (x2 + (-1)) u1_0 (upd z_often x3.toNatClampNeg 0) hv _ _ _ hP hD hS (lv_sub hl [1, 0] rfl)
    · have hv := hvf c3
      refine lv_bipush (v := 64) hx hb d_MD_most_169 (by decide) ?_
      refine lv_aload_n hx hb d_MD_most_171 rfl (lv_at hl 0 rfl) ?_
      refine va_get (D := (dC, dI)) (ci := 8) (v := .ref h_often) (C := "SuffixIndexModel") (T := F_MD) (N := 22) hx hb hw i_MD hown hK hP 0 rfl rfl 19 (by decide) (hw _ m_1120) (fun _ h9 => h9) rfl d_MD_most_172 ?_
      refine lv_iload_n hx hb d_MD_most_175 rfl (lv_at hl 2 rfl) ?_
      obtain ⟨hin, hv⟩ := hv
      refine va_iald hx hb hK hP 5 0 rfl rfl hin d_MD_most_176 ?_
      refine lv_imul hx hb d_MD_most_177 ?_
      refine lv_iload_n hx hb d_MD_most_178 rfl (lv_at hl 2 rfl) ?_
      refine lv_iadd hx hb d_MD_most_179 ?_
      exact W.iret (v := (64 * (z_often x3.toNatClampNeg)) + x3) hx hb hr (fun t ht hW => ⟨⟨(64 * (z_often x3.toNatClampNeg)) + x3, (u1_0, z_often), rfl, hv, by rw [ht]; exact hP, va_K.moved hW.alike hK, hD⟩, hS.F ht⟩) hS.2.2 d_MD_most_180
  · have hv := hvf c2
    refine lv_iconst (v := 0) hx hb d_MD_most_163 (by decide) ?_
    exact W.iret (v := 0) hx hb hr (fun t ht hW => ⟨⟨0, (u1_0, z_often), rfl, hv, by rw [ht]; exact hP, va_K.moved hW.alike hK, hD⟩, hS.F ht⟩) hS.2.2 d_MD_most_164

set_option maxHeartbeats 4000000 in
set_option maxRecDepth 100000 in
theorem wk_MD_most_98 {p : Program} {l : Launch} {e : Env} {s : State} {m : MethodId} {below : List Frame} {meth : Method} {c : Code} {A : Nat → Prop} {dC : Nat → ClassId} {dI : Nat → Nat → Nat} {cI cJ cB cZ : ClassId} {h_t : Nat} {h_tape : Nat} {h_row : Nat} {h_out : Nat} {h_sought : Nat} {h_start : Nat} {h_documentOf : Nat} {h_order : Nat} {h_rankOf : Nat} {h_same : Nat} {h_work : Nat} {h_next : Nat} {h_often : Nat} {h_has : Nat} {a_p1 : Int32} {z_soughtSize : Int32} {z_indexed : Int32} {z_suffixes : Int32} {z_row : Nat → Int32} {z_sought : Nat → Int32} {z_start : Nat → Int32} {z_documentOf : Nat → Int32} {z_size : Int32} {z_outSize : Int32} {z_documents : Int32} {z_rows : Int32} {z_lesser : Int32} {post : Int32 → Int32 → (Nat → Int32) → Prop} {K93 : Int32 → Int32 → (Nat → Int32) → Prop} (F : CallFix p m c b_MD_most 5 s ([.ref h_t, .int a_p1] : List Value).toArray WT "SuffixIndexModel") (hr : meth.sig.returnType = (some .int)) (hlk : meth.locks = false) (hK : va_K (dC, dI) classes (TYS cI cJ cB cZ) s) (hA : ∀ q, s.heap.size ≤ q → A q) (hK93 : ∀ (x2 : Int32) (z_thrown : Int32) (z_often : Nat → Int32), K93 x2 z_thrown z_often → ∀ (H : Heap) (locs : List Loc) (ls : Array Slot), va_P (dC, dI) classes [(h_t, .inr (8, [.int z_thrown, .ref h_tape, .ref h_row, .ref h_out, .ref h_sought, .int z_size, .int z_outSize, .int z_soughtSize, .int z_documents, .int z_indexed, .int z_suffixes, .int z_rows, .ref h_start, .ref h_documentOf, .ref h_order, .ref h_rankOf, .ref h_same, .ref h_work, .ref h_next, .ref h_often, .ref h_has, .int z_lesser])), (h_row, .inl (cB, 16384, .inl z_row)), (h_sought, .inl (cB, 200, .inl z_sought)), (h_start, .inl (cI, 66, .inl z_start)), (h_documentOf, .inl (cI, 16384, .inl z_documentOf)), (h_often, .inl (cI, 64, .inl z_often))] H → va_D A [(h_t, .inr (8, [.int z_thrown, .ref h_tape, .ref h_row, .ref h_out, .ref h_sought, .int z_size, .int z_outSize, .int z_soughtSize, .int z_documents, .int z_indexed, .int z_suffixes, .int z_rows, .ref h_start, .ref h_documentOf, .ref h_order, .ref h_rankOf, .ref h_same, .ref h_work, .ref h_next, .ref h_often, .ref h_has, .int z_lesser])), (h_row, .inl (cB, 16384, .inl z_row)), (h_sought, .inl (cB, 200, .inl z_sought)), (h_start, .inl (cI, 66, .inl z_start)), (h_documentOf, .inl (cI, 16384, .inl z_documentOf)), (h_often, .inl (cI, 64, .inl z_often))] → va_S A s.heap H locs → lv_has ls 5 [(0, .ref h_t), (2, .int x2)] → W p l e rm_MD_most s m ([.ref h_t, .int a_p1] : List Value).toArray below meth c H locs 0 0 (MQ below (va_Qi (fun (r : Int32) (u : Int32 × (Nat → Int32)) => post r u.1 u.2) (fun u t => cAft (dC, dI) classes (TYS cI cJ cB cZ) A [(h_t, .inr (8, [.int u.1, .ref h_tape, .ref h_row, .ref h_out, .ref h_sought, .int z_size, .int z_outSize, .int z_soughtSize, .int z_documents, .int z_indexed, .int z_suffixes, .int z_rows, .ref h_start, .ref h_documentOf, .ref h_order, .ref h_rankOf, .ref h_same, .ref h_work, .ref h_next, .ref h_often, .ref h_has, .int z_lesser])), (h_row, .inl (cB, 16384, .inl z_row)), (h_sought, .inl (cB, 200, .inl z_sought)), (h_start, .inl (cI, 66, .inl z_start)), (h_documentOf, .inl (cI, 16384, .inl z_documentOf)), (h_often, .inl (cI, 64, .inl u.2))] t) A) ([.ref h_t, .int a_p1] : List Value).toArray s 0 0 A) (F0 m 93 ls [])) : ∀ (k : Nat) (x2 : Int32) (x3 : Int32) (x4 : Int32) (z_thrown : Int32) (z_often : Nat → Int32), vc_MD_most_98 a_p1 z_soughtSize z_indexed z_suffixes z_row z_sought z_start z_documentOf post K93 k x2 x3 x4 z_thrown z_often → ∀ (H : Heap) (locs : List Loc) (ls : Array Slot), va_P (dC, dI) classes [(h_t, .inr (8, [.int z_thrown, .ref h_tape, .ref h_row, .ref h_out, .ref h_sought, .int z_size, .int z_outSize, .int z_soughtSize, .int z_documents, .int z_indexed, .int z_suffixes, .int z_rows, .ref h_start, .ref h_documentOf, .ref h_order, .ref h_rankOf, .ref h_same, .ref h_work, .ref h_next, .ref h_often, .ref h_has, .int z_lesser])), (h_row, .inl (cB, 16384, .inl z_row)), (h_sought, .inl (cB, 200, .inl z_sought)), (h_start, .inl (cI, 66, .inl z_start)), (h_documentOf, .inl (cI, 16384, .inl z_documentOf)), (h_often, .inl (cI, 64, .inl z_often))] H → va_D A [(h_t, .inr (8, [.int z_thrown, .ref h_tape, .ref h_row, .ref h_out, .ref h_sought, .int z_size, .int z_outSize, .int z_soughtSize, .int z_documents, .int z_indexed, .int z_suffixes, .int z_rows, .ref h_start, .ref h_documentOf, .ref h_order, .ref h_rankOf, .ref h_same, .ref h_work, .ref h_next, .ref h_often, .ref h_has, .int z_lesser])), (h_row, .inl (cB, 16384, .inl z_row)), (h_sought, .inl (cB, 200, .inl z_sought)), (h_start, .inl (cI, 66, .inl z_start)), (h_documentOf, .inl (cI, 16384, .inl z_documentOf)), (h_often, .inl (cI, 64, .inl z_often))] → va_S A s.heap H locs → lv_has ls 5 [(0, .ref h_t), (2, .int x2), (3, .int x3), (4, .int x4)] → W p l e rm_MD_most s m ([.ref h_t, .int a_p1] : List Value).toArray below meth c H locs 0 0 (MQ below (va_Qi (fun (r : Int32) (u : Int32 × (Nat → Int32)) => post r u.1 u.2) (fun u t => cAft (dC, dI) classes (TYS cI cJ cB cZ) A [(h_t, .inr (8, [.int u.1, .ref h_tape, .ref h_row, .ref h_out, .ref h_sought, .int z_size, .int z_outSize, .int z_soughtSize, .int z_documents, .int z_indexed, .int z_suffixes, .int z_rows, .ref h_start, .ref h_documentOf, .ref h_order, .ref h_rankOf, .ref h_same, .ref h_work, .ref h_next, .ref h_often, .ref h_has, .int z_lesser])), (h_row, .inl (cB, 16384, .inl z_row)), (h_sought, .inl (cB, 200, .inl z_sought)), (h_start, .inl (cI, 66, .inl z_start)), (h_documentOf, .inl (cI, 16384, .inl z_documentOf)), (h_often, .inl (cI, 64, .inl u.2))] t) A) ([.ref h_t, .int a_p1] : List Value).toArray s 0 0 A) (F0 m 98 ls []) := by
  obtain ⟨hx, hb, hml, hown, hw⟩ := id F
  intro k
  induction k with
  | zero =>
    intro x2 x3 x4 z_thrown z_often hv
    exact False.elim hv
  | succ k ih =>
    intro x2 x3 x4 z_thrown z_often hv H locs ls hP hD hS hl
    refine lv_iload hx hb d_MD_most_98 (lv_at hl 3 rfl) ?_
    refine lv_aload_n hx hb d_MD_most_100 rfl (lv_at hl 0 rfl) ?_
    refine va_get (D := (dC, dI)) (ci := 8) (v := .int z_indexed) (C := "SuffixIndexModel") (T := F_MD) (N := 22) hx hb hw i_MD hown hK hP 0 rfl rfl 9 (by decide) (hw _ m_1110) (fun _ h9 => h9) rfl d_MD_most_101 ?_
    obtain ⟨hvt, hvf⟩ := hv
    refine lv_icmp_ge (tgt := 146) hx hb d_MD_most_104 (by decide) (fun c4 => ?_) (fun c4 => ?_)
    · have hv := hvt c4
      refine lv_aload_n hx hb d_MD_most_146 rfl (lv_at hl 0 rfl) ?_
      refine lv_iconst (v := 1) hx hb d_MD_most_147 (by decide) ?_
      refine lv_iload_n hx hb d_MD_most_148 rfl (lv_at hl 2 rfl) ?_
      obtain ⟨hvt, hvf⟩ := hv
      refine lv_if_ge (tgt := 156) hx hb d_MD_most_149 (by decide) (fun c5 => ?_) (fun c5 => ?_)
      · have hv := hvt c5
        refine lv_iconst (v := 0) hx hb d_MD_most_156 (by decide) ?_
        exact wk_MD_most_157 F hr hlk hK hA hK93 x2 x3 1 0 z_thrown z_often hv _ _ _ hP hD hS (lv_sub hl [0, 1, 2] rfl)
      · have hv := hvf c5
        refine lv_iconst (v := 1) hx hb d_MD_most_152 (by decide) ?_
        refine lv_goto (tgt := 157) hx hb d_MD_most_153 (by decide) ?_
        exact wk_MD_most_157 F hr hlk hK hA hK93 x2 x3 1 1 z_thrown z_often hv _ _ _ hP hD hS (lv_sub hl [0, 1, 2] rfl)
    · have hv := hvf c4
      refine lv_aload_n hx hb d_MD_most_107 rfl (lv_at hl 0 rfl) ?_
      refine va_get (D := (dC, dI)) (ci := 8) (v := .ref h_often) (C := "SuffixIndexModel") (T := F_MD) (N := 22) hx hb hw i_MD hown hK hP 0 rfl rfl 19 (by decide) (hw _ m_1120) (fun _ h9 => h9) rfl d_MD_most_108 ?_
      refine lv_iload hx hb d_MD_most_111 (lv_at hl 3 rfl) ?_
      obtain ⟨hin, hv⟩ := hv
      refine va_iald hx hb hK hP 5 0 rfl rfl hin d_MD_most_113 ?_
      obtain ⟨hvt, hvf⟩ := hv
      refine lv_if_le (tgt := 140) hx hb d_MD_most_114 (by decide) (fun c6 => ?_) (fun c6 => ?_)
      · have hv := hvt c6
        exact wk_MD_most_140 F hr hlk hK hA ih x2 x3 x4 z_thrown z_often hv _ _ _ hP hD hS (lv_sub hl [0, 1, 2, 3] rfl)
      · have hv := hvf c6
        refine lv_iload_n hx hb d_MD_most_117 rfl (lv_at hl 2 rfl) ?_
        obtain ⟨hvt, hvf⟩ := hv
        refine lv_if_lt (tgt := 137) hx hb d_MD_most_118 (by decide) (fun c7 => ?_) (fun c7 => ?_)
        · have hv := hvt c7
          exact wk_MD_most_137 F hr hlk hK hA ih x2 x4 z_thrown z_often hv _ _ _ hP hD hS (lv_sub hl [0, 1, 3] rfl)
        · have hv := hvf c7
          refine lv_aload_n hx hb d_MD_most_121 rfl (lv_at hl 0 rfl) ?_
          refine va_get (D := (dC, dI)) (ci := 8) (v := .ref h_often) (C := "SuffixIndexModel") (T := F_MD) (N := 22) hx hb hw i_MD hown hK hP 0 rfl rfl 19 (by decide) (hw _ m_1120) (fun _ h9 => h9) rfl d_MD_most_122 ?_
          refine lv_iload hx hb d_MD_most_125 (lv_at hl 3 rfl) ?_
          obtain ⟨hin, hv⟩ := hv
          refine va_iald hx hb hK hP 5 0 rfl rfl hin d_MD_most_127 ?_
          refine lv_aload_n hx hb d_MD_most_128 rfl (lv_at hl 0 rfl) ?_
          refine va_get (D := (dC, dI)) (ci := 8) (v := .ref h_often) (C := "SuffixIndexModel") (T := F_MD) (N := 22) hx hb hw i_MD hown hK hP 0 rfl rfl 19 (by decide) (hw _ m_1120) (fun _ h9 => h9) rfl d_MD_most_129 ?_
          refine lv_iload_n hx hb d_MD_most_132 rfl (lv_at hl 2 rfl) ?_
          obtain ⟨hin, hv⟩ := hv
          refine va_iald hx hb hK hP 5 0 rfl rfl hin d_MD_most_133 ?_
          obtain ⟨hvt, hvf⟩ := hv
          refine lv_icmp_le (tgt := 140) hx hb d_MD_most_134 (by decide) (fun c8 => ?_) (fun c8 => ?_)
          · have hv := hvt c8
            exact wk_MD_most_140 F hr hlk hK hA ih x2 x3 x4 z_thrown z_often hv _ _ _ hP hD hS (lv_sub hl [0, 1, 2, 3] rfl)
          · have hv := hvf c8
            exact wk_MD_most_137 F hr hlk hK hA ih x2 x4 z_thrown z_often hv _ _ _ hP hD hS (lv_sub hl [0, 1, 3] rfl)

set_option maxHeartbeats 4000000 in
set_option maxRecDepth 100000 in
theorem wk_MD_most_93 {p : Program} {l : Launch} {e : Env} {s : State} {m : MethodId} {below : List Frame} {meth : Method} {c : Code} {A : Nat → Prop} {dC : Nat → ClassId} {dI : Nat → Nat → Nat} {cI cJ cB cZ : ClassId} {h_t : Nat} {h_tape : Nat} {h_row : Nat} {h_out : Nat} {h_sought : Nat} {h_start : Nat} {h_documentOf : Nat} {h_order : Nat} {h_rankOf : Nat} {h_same : Nat} {h_work : Nat} {h_next : Nat} {h_often : Nat} {h_has : Nat} {a_p1 : Int32} {z_soughtSize : Int32} {z_indexed : Int32} {z_suffixes : Int32} {z_row : Nat → Int32} {z_sought : Nat → Int32} {z_start : Nat → Int32} {z_documentOf : Nat → Int32} {z_size : Int32} {z_outSize : Int32} {z_documents : Int32} {z_rows : Int32} {z_lesser : Int32} {post : Int32 → Int32 → (Nat → Int32) → Prop} (F : CallFix p m c b_MD_most 5 s ([.ref h_t, .int a_p1] : List Value).toArray WT "SuffixIndexModel") (hr : meth.sig.returnType = (some .int)) (hlk : meth.locks = false) (hK : va_K (dC, dI) classes (TYS cI cJ cB cZ) s) (hA : ∀ q, s.heap.size ≤ q → A q) : ∀ (k : Nat) (x2 : Int32) (z_thrown : Int32) (z_often : Nat → Int32), vc_MD_most_93 a_p1 z_soughtSize z_indexed z_suffixes z_row z_sought z_start z_documentOf post k x2 z_thrown z_often → ∀ (H : Heap) (locs : List Loc) (ls : Array Slot), va_P (dC, dI) classes [(h_t, .inr (8, [.int z_thrown, .ref h_tape, .ref h_row, .ref h_out, .ref h_sought, .int z_size, .int z_outSize, .int z_soughtSize, .int z_documents, .int z_indexed, .int z_suffixes, .int z_rows, .ref h_start, .ref h_documentOf, .ref h_order, .ref h_rankOf, .ref h_same, .ref h_work, .ref h_next, .ref h_often, .ref h_has, .int z_lesser])), (h_row, .inl (cB, 16384, .inl z_row)), (h_sought, .inl (cB, 200, .inl z_sought)), (h_start, .inl (cI, 66, .inl z_start)), (h_documentOf, .inl (cI, 16384, .inl z_documentOf)), (h_often, .inl (cI, 64, .inl z_often))] H → va_D A [(h_t, .inr (8, [.int z_thrown, .ref h_tape, .ref h_row, .ref h_out, .ref h_sought, .int z_size, .int z_outSize, .int z_soughtSize, .int z_documents, .int z_indexed, .int z_suffixes, .int z_rows, .ref h_start, .ref h_documentOf, .ref h_order, .ref h_rankOf, .ref h_same, .ref h_work, .ref h_next, .ref h_often, .ref h_has, .int z_lesser])), (h_row, .inl (cB, 16384, .inl z_row)), (h_sought, .inl (cB, 200, .inl z_sought)), (h_start, .inl (cI, 66, .inl z_start)), (h_documentOf, .inl (cI, 16384, .inl z_documentOf)), (h_often, .inl (cI, 64, .inl z_often))] → va_S A s.heap H locs → lv_has ls 5 [(0, .ref h_t), (2, .int x2)] → W p l e rm_MD_most s m ([.ref h_t, .int a_p1] : List Value).toArray below meth c H locs 0 0 (MQ below (va_Qi (fun (r : Int32) (u : Int32 × (Nat → Int32)) => post r u.1 u.2) (fun u t => cAft (dC, dI) classes (TYS cI cJ cB cZ) A [(h_t, .inr (8, [.int u.1, .ref h_tape, .ref h_row, .ref h_out, .ref h_sought, .int z_size, .int z_outSize, .int z_soughtSize, .int z_documents, .int z_indexed, .int z_suffixes, .int z_rows, .ref h_start, .ref h_documentOf, .ref h_order, .ref h_rankOf, .ref h_same, .ref h_work, .ref h_next, .ref h_often, .ref h_has, .int z_lesser])), (h_row, .inl (cB, 16384, .inl z_row)), (h_sought, .inl (cB, 200, .inl z_sought)), (h_start, .inl (cI, 66, .inl z_start)), (h_documentOf, .inl (cI, 16384, .inl z_documentOf)), (h_often, .inl (cI, 64, .inl u.2))] t) A) ([.ref h_t, .int a_p1] : List Value).toArray s 0 0 A) (F0 m 93 ls []) := by
  obtain ⟨hx, hb, hml, hown, hw⟩ := id F
  intro k
  induction k with
  | zero =>
    intro x2 z_thrown z_often hv
    exact False.elim hv
  | succ k ih =>
    intro x2 z_thrown z_often hv H locs ls hP hD hS hl
    refine lv_iconst (v := (-1)) hx hb d_MD_most_93 (by decide) ?_
    refine lv_istore_n (lv' := [(3, .int (-1)), (0, .ref h_t), (2, .int x2)]) hx hb d_MD_most_94 rfl hl (by decide) rfl (fun ls hl => ?_)
    refine lv_iconst (v := 0) hx hb d_MD_most_95 (by decide) ?_
    refine lv_istore (lv' := [(4, .int 0), (3, .int (-1)), (0, .ref h_t), (2, .int x2)]) hx hb d_MD_most_96 hl (by decide) rfl (fun ls hl => ?_)
    obtain ⟨j, hv⟩ := hv
    exact wk_MD_most_98 F hr hlk hK hA ih j x2 (-1) 0 z_thrown z_often hv _ _ _ hP hD hS (lv_sub hl [2, 3, 1, 0] rfl)

set_option maxHeartbeats 4000000 in
set_option maxRecDepth 100000 in
theorem wk_MD_most_83 {p : Program} {l : Launch} {e : Env} {s : State} {m : MethodId} {below : List Frame} {meth : Method} {c : Code} {A : Nat → Prop} {dC : Nat → ClassId} {dI : Nat → Nat → Nat} {cI cJ cB cZ : ClassId} {h_t : Nat} {h_tape : Nat} {h_row : Nat} {h_out : Nat} {h_sought : Nat} {h_start : Nat} {h_documentOf : Nat} {h_order : Nat} {h_rankOf : Nat} {h_same : Nat} {h_work : Nat} {h_next : Nat} {h_often : Nat} {h_has : Nat} {a_p1 : Int32} {z_soughtSize : Int32} {z_indexed : Int32} {z_suffixes : Int32} {z_row : Nat → Int32} {z_sought : Nat → Int32} {z_start : Nat → Int32} {z_documentOf : Nat → Int32} {z_size : Int32} {z_outSize : Int32} {z_documents : Int32} {z_rows : Int32} {z_lesser : Int32} {post : Int32 → Int32 → (Nat → Int32) → Prop} (F : CallFix p m c b_MD_most 5 s ([.ref h_t, .int a_p1] : List Value).toArray WT "SuffixIndexModel") (hr : meth.sig.returnType = (some .int)) (hlk : meth.locks = false) (hK : va_K (dC, dI) classes (TYS cI cJ cB cZ) s) (hA : ∀ q, s.heap.size ≤ q → A q) : ∀ (k1 : Int32) (k2 : Int32) (z_thrown : Int32) (z_often : Nat → Int32), vc_MD_most_83 a_p1 z_soughtSize z_indexed z_suffixes z_row z_sought z_start z_documentOf post k1 k2 z_thrown z_often → ∀ (H : Heap) (locs : List Loc) (ls : Array Slot), va_P (dC, dI) classes [(h_t, .inr (8, [.int z_thrown, .ref h_tape, .ref h_row, .ref h_out, .ref h_sought, .int z_size, .int z_outSize, .int z_soughtSize, .int z_documents, .int z_indexed, .int z_suffixes, .int z_rows, .ref h_start, .ref h_documentOf, .ref h_order, .ref h_rankOf, .ref h_same, .ref h_work, .ref h_next, .ref h_often, .ref h_has, .int z_lesser])), (h_row, .inl (cB, 16384, .inl z_row)), (h_sought, .inl (cB, 200, .inl z_sought)), (h_start, .inl (cI, 66, .inl z_start)), (h_documentOf, .inl (cI, 16384, .inl z_documentOf)), (h_often, .inl (cI, 64, .inl z_often))] H → va_D A [(h_t, .inr (8, [.int z_thrown, .ref h_tape, .ref h_row, .ref h_out, .ref h_sought, .int z_size, .int z_outSize, .int z_soughtSize, .int z_documents, .int z_indexed, .int z_suffixes, .int z_rows, .ref h_start, .ref h_documentOf, .ref h_order, .ref h_rankOf, .ref h_same, .ref h_work, .ref h_next, .ref h_often, .ref h_has, .int z_lesser])), (h_row, .inl (cB, 16384, .inl z_row)), (h_sought, .inl (cB, 200, .inl z_sought)), (h_start, .inl (cI, 66, .inl z_start)), (h_documentOf, .inl (cI, 16384, .inl z_documentOf)), (h_often, .inl (cI, 64, .inl z_often))] → va_S A s.heap H locs → lv_has ls 5 [(0, .ref h_t), (1, .int a_p1)] → W p l e rm_MD_most s m ([.ref h_t, .int a_p1] : List Value).toArray below meth c H locs 0 0 (MQ below (va_Qi (fun (r : Int32) (u : Int32 × (Nat → Int32)) => post r u.1 u.2) (fun u t => cAft (dC, dI) classes (TYS cI cJ cB cZ) A [(h_t, .inr (8, [.int u.1, .ref h_tape, .ref h_row, .ref h_out, .ref h_sought, .int z_size, .int z_outSize, .int z_soughtSize, .int z_documents, .int z_indexed, .int z_suffixes, .int z_rows, .ref h_start, .ref h_documentOf, .ref h_order, .ref h_rankOf, .ref h_same, .ref h_work, .ref h_next, .ref h_often, .ref h_has, .int z_lesser])), (h_row, .inl (cB, 16384, .inl z_row)), (h_sought, .inl (cB, 200, .inl z_sought)), (h_start, .inl (cI, 66, .inl z_start)), (h_documentOf, .inl (cI, 16384, .inl z_documentOf)), (h_often, .inl (cI, 64, .inl u.2))] t) A) ([.ref h_t, .int a_p1] : List Value).toArray s 0 0 A) (F0 m 83 ls [.int k2, .int k1, .ref h_t]) := by
  obtain ⟨hx, hb, hml, hown, hw⟩ := id F
  intro k1 k2 z_thrown z_often hv H locs ls hP hD hS hl
  refine cV_i (wr := [(h_row, .inl (cB, 16384, .inl z_row)), (h_sought, .inl (cB, 200, .inl z_sought)), (h_start, .inl (cI, 66, .inl z_start)), (h_documentOf, .inl (cI, 16384, .inl z_documentOf)), (h_often, .inl (cI, 64, .inl z_often))]) (rest := []) (c_MD_refuse l dC dI cI cJ cB cZ h_t h_tape h_row h_out h_sought h_start h_documentOf h_order h_rankOf h_same h_work h_next h_often h_has H.size z_thrown z_size z_outSize z_soughtSize z_documents z_indexed z_suffixes z_rows z_lesser k1 k2 _ hv) F (cw_V (fun _ h => h) 2 hw m_1177 m_1179 ms_29 m_9 m_1180 rfl rfl (by decide +kernel) ⟨by decide, by decide⟩) hK hP hD hS hA [0] [1, 2, 3, 4, 5] rfl rfl rfl rfl (by decide) 0 8 rfl rfl rfl hl.1 rfl (Nat.le_of_ble_eq_true rfl) d_MD_most_83 ⟨Nat.le_of_ble_eq_true rfl, Nat.le_of_ble_eq_true rfl⟩ (fun r9 u H locs hv hP hD hS => ?_)
  obtain ⟨u9_0, rfl⟩ : ∃ z, z = u := ⟨_, rfl⟩
  have hP : va_P (dC, dI) classes [(h_t, .inr (8, [.int u9_0, .ref h_tape, .ref h_row, .ref h_out, .ref h_sought, .int z_size, .int z_outSize, .int z_soughtSize, .int z_documents, .int z_indexed, .int z_suffixes, .int z_rows, .ref h_start, .ref h_documentOf, .ref h_order, .ref h_rankOf, .ref h_same, .ref h_work, .ref h_next, .ref h_often, .ref h_has, .int z_lesser])), (h_row, .inl (cB, 16384, .inl z_row)), (h_sought, .inl (cB, 200, .inl z_sought)), (h_start, .inl (cI, 66, .inl z_start)), (h_documentOf, .inl (cI, 16384, .inl z_documentOf)), (h_often, .inl (cI, 64, .inl z_often))] H := P_sub hP [5, 0, 1, 2, 3, 4] rfl
  have hD : va_D A [(h_t, .inr (8, [.int u9_0, .ref h_tape, .ref h_row, .ref h_out, .ref h_sought, .int z_size, .int z_outSize, .int z_soughtSize, .int z_documents, .int z_indexed, .int z_suffixes, .int z_rows, .ref h_start, .ref h_documentOf, .ref h_order, .ref h_rankOf, .ref h_same, .ref h_work, .ref h_next, .ref h_often, .ref h_has, .int z_lesser])), (h_row, .inl (cB, 16384, .inl z_row)), (h_sought, .inl (cB, 200, .inl z_sought)), (h_start, .inl (cI, 66, .inl z_start)), (h_documentOf, .inl (cI, 16384, .inl z_documentOf)), (h_often, .inl (cI, 64, .inl z_often))] := hD.sub [5, 0, 1, 2, 3, 4] rfl rfl
  obtain ⟨hvt, hvf⟩ := hv
  refine lv_if_eq (tgt := 91) hx hb d_MD_most_86 (by decide) (fun c10 => ?_) (fun c10 => ?_)
  · have hv := hvt c10
    refine lv_iload_n hx hb d_MD_most_91 rfl (lv_at hl 1 rfl) ?_
    refine lv_istore_n (lv' := [(2, .int a_p1), (0, .ref h_t), (1, .int a_p1)]) hx hb d_MD_most_92 rfl hl (by decide) rfl (fun ls hl => ?_)
    obtain ⟨j, hv⟩ := hv
    exact wk_MD_most_93 F hr hlk hK hA j a_p1 u9_0 z_often hv _ _ _ hP hD hS (lv_sub hl [1, 0] rfl)
  · have hv := hvf c10
    refine lv_iconst (v := 0) hx hb d_MD_most_89 (by decide) ?_
    exact W.iret (v := 0) hx hb hr (fun t ht hW => ⟨⟨0, (u9_0, z_often), rfl, hv, by rw [ht]; exact hP, va_K.moved hW.alike hK, hD⟩, hS.F ht⟩) hS.2.2 d_MD_most_90

set_option maxHeartbeats 4000000 in
set_option maxRecDepth 100000 in
theorem wk_MD_most_72 {p : Program} {l : Launch} {e : Env} {s : State} {m : MethodId} {below : List Frame} {meth : Method} {c : Code} {A : Nat → Prop} {dC : Nat → ClassId} {dI : Nat → Nat → Nat} {cI cJ cB cZ : ClassId} {h_t : Nat} {h_tape : Nat} {h_row : Nat} {h_out : Nat} {h_sought : Nat} {h_start : Nat} {h_documentOf : Nat} {h_order : Nat} {h_rankOf : Nat} {h_same : Nat} {h_work : Nat} {h_next : Nat} {h_often : Nat} {h_has : Nat} {a_p1 : Int32} {z_soughtSize : Int32} {z_indexed : Int32} {z_suffixes : Int32} {z_row : Nat → Int32} {z_sought : Nat → Int32} {z_start : Nat → Int32} {z_documentOf : Nat → Int32} {z_size : Int32} {z_outSize : Int32} {z_documents : Int32} {z_rows : Int32} {z_lesser : Int32} {post : Int32 → Int32 → (Nat → Int32) → Prop} (F : CallFix p m c b_MD_most 5 s ([.ref h_t, .int a_p1] : List Value).toArray WT "SuffixIndexModel") (hr : meth.sig.returnType = (some .int)) (hlk : meth.locks = false) (hK : va_K (dC, dI) classes (TYS cI cJ cB cZ) s) (hA : ∀ q, s.heap.size ≤ q → A q) : ∀ (z_thrown : Int32) (z_often : Nat → Int32), vc_MD_most_72 a_p1 z_soughtSize z_indexed z_suffixes z_row z_sought z_start z_documentOf post z_thrown z_often → ∀ (H : Heap) (locs : List Loc) (ls : Array Slot), va_P (dC, dI) classes [(h_t, .inr (8, [.int z_thrown, .ref h_tape, .ref h_row, .ref h_out, .ref h_sought, .int z_size, .int z_outSize, .int z_soughtSize, .int z_documents, .int z_indexed, .int z_suffixes, .int z_rows, .ref h_start, .ref h_documentOf, .ref h_order, .ref h_rankOf, .ref h_same, .ref h_work, .ref h_next, .ref h_often, .ref h_has, .int z_lesser])), (h_row, .inl (cB, 16384, .inl z_row)), (h_sought, .inl (cB, 200, .inl z_sought)), (h_start, .inl (cI, 66, .inl z_start)), (h_documentOf, .inl (cI, 16384, .inl z_documentOf)), (h_often, .inl (cI, 64, .inl z_often))] H → va_D A [(h_t, .inr (8, [.int z_thrown, .ref h_tape, .ref h_row, .ref h_out, .ref h_sought, .int z_size, .int z_outSize, .int z_soughtSize, .int z_documents, .int z_indexed, .int z_suffixes, .int z_rows, .ref h_start, .ref h_documentOf, .ref h_order, .ref h_rankOf, .ref h_same, .ref h_work, .ref h_next, .ref h_often, .ref h_has, .int z_lesser])), (h_row, .inl (cB, 16384, .inl z_row)), (h_sought, .inl (cB, 200, .inl z_sought)), (h_start, .inl (cI, 66, .inl z_start)), (h_documentOf, .inl (cI, 16384, .inl z_documentOf)), (h_often, .inl (cI, 64, .inl z_often))] → va_S A s.heap H locs → lv_has ls 5 [(0, .ref h_t), (1, .int a_p1)] → W p l e rm_MD_most s m ([.ref h_t, .int a_p1] : List Value).toArray below meth c H locs 0 0 (MQ below (va_Qi (fun (r : Int32) (u : Int32 × (Nat → Int32)) => post r u.1 u.2) (fun u t => cAft (dC, dI) classes (TYS cI cJ cB cZ) A [(h_t, .inr (8, [.int u.1, .ref h_tape, .ref h_row, .ref h_out, .ref h_sought, .int z_size, .int z_outSize, .int z_soughtSize, .int z_documents, .int z_indexed, .int z_suffixes, .int z_rows, .ref h_start, .ref h_documentOf, .ref h_order, .ref h_rankOf, .ref h_same, .ref h_work, .ref h_next, .ref h_often, .ref h_has, .int z_lesser])), (h_row, .inl (cB, 16384, .inl z_row)), (h_sought, .inl (cB, 200, .inl z_sought)), (h_start, .inl (cI, 66, .inl z_start)), (h_documentOf, .inl (cI, 16384, .inl z_documentOf)), (h_often, .inl (cI, 64, .inl u.2))] t) A) ([.ref h_t, .int a_p1] : List Value).toArray s 0 0 A) (F0 m 72 ls []) := by
  obtain ⟨hx, hb, hml, hown, hw⟩ := id F
  intro z_thrown z_often hv H locs ls hP hD hS hl
  refine lv_aload_n hx hb d_MD_most_72 rfl (lv_at hl 0 rfl) ?_
  refine lv_iconst (v := 1) hx hb d_MD_most_73 (by decide) ?_
  refine lv_iload_n hx hb d_MD_most_74 rfl (lv_at hl 1 rfl) ?_
  obtain ⟨hvt, hvf⟩ := hv
  refine lv_if_ge (tgt := 82) hx hb d_MD_most_75 (by decide) (fun c11 => ?_) (fun c11 => ?_)
  · have hv := hvt c11
    refine lv_iconst (v := 0) hx hb d_MD_most_82 (by decide) ?_
    exact wk_MD_most_83 F hr hlk hK hA 1 0 z_thrown z_often hv _ _ _ hP hD hS (lv_sub hl [0, 1] rfl)
  · have hv := hvf c11
    refine lv_iconst (v := 1) hx hb d_MD_most_78 (by decide) ?_
    refine lv_goto (tgt := 83) hx hb d_MD_most_79 (by decide) ?_
    exact wk_MD_most_83 F hr hlk hK hA 1 1 z_thrown z_often hv _ _ _ hP hD hS (lv_sub hl [0, 1] rfl)

set_option maxHeartbeats 4000000 in
set_option maxRecDepth 100000 in
theorem wk_MD_most_66 {p : Program} {l : Launch} {e : Env} {s : State} {m : MethodId} {below : List Frame} {meth : Method} {c : Code} {A : Nat → Prop} {dC : Nat → ClassId} {dI : Nat → Nat → Nat} {cI cJ cB cZ : ClassId} {h_t : Nat} {h_tape : Nat} {h_row : Nat} {h_out : Nat} {h_sought : Nat} {h_start : Nat} {h_documentOf : Nat} {h_order : Nat} {h_rankOf : Nat} {h_same : Nat} {h_work : Nat} {h_next : Nat} {h_often : Nat} {h_has : Nat} {a_p1 : Int32} {z_soughtSize : Int32} {z_indexed : Int32} {z_suffixes : Int32} {z_row : Nat → Int32} {z_sought : Nat → Int32} {z_start : Nat → Int32} {z_documentOf : Nat → Int32} {z_size : Int32} {z_outSize : Int32} {z_documents : Int32} {z_rows : Int32} {z_lesser : Int32} {post : Int32 → Int32 → (Nat → Int32) → Prop} {K28 : Int32 → Int32 → (Nat → Int32) → Prop} (F : CallFix p m c b_MD_most 5 s ([.ref h_t, .int a_p1] : List Value).toArray WT "SuffixIndexModel") (hr : meth.sig.returnType = (some .int)) (hlk : meth.locks = false) (hK : va_K (dC, dI) classes (TYS cI cJ cB cZ) s) (hA : ∀ q, s.heap.size ≤ q → A q) (hK28 : ∀ (x2 : Int32) (z_thrown : Int32) (z_often : Nat → Int32), K28 x2 z_thrown z_often → ∀ (H : Heap) (locs : List Loc) (ls : Array Slot), va_P (dC, dI) classes [(h_t, .inr (8, [.int z_thrown, .ref h_tape, .ref h_row, .ref h_out, .ref h_sought, .int z_size, .int z_outSize, .int z_soughtSize, .int z_documents, .int z_indexed, .int z_suffixes, .int z_rows, .ref h_start, .ref h_documentOf, .ref h_order, .ref h_rankOf, .ref h_same, .ref h_work, .ref h_next, .ref h_often, .ref h_has, .int z_lesser])), (h_row, .inl (cB, 16384, .inl z_row)), (h_sought, .inl (cB, 200, .inl z_sought)), (h_start, .inl (cI, 66, .inl z_start)), (h_documentOf, .inl (cI, 16384, .inl z_documentOf)), (h_often, .inl (cI, 64, .inl z_often))] H → va_D A [(h_t, .inr (8, [.int z_thrown, .ref h_tape, .ref h_row, .ref h_out, .ref h_sought, .int z_size, .int z_outSize, .int z_soughtSize, .int z_documents, .int z_indexed, .int z_suffixes, .int z_rows, .ref h_start, .ref h_documentOf, .ref h_order, .ref h_rankOf, .ref h_same, .ref h_work, .ref h_next, .ref h_often, .ref h_has, .int z_lesser])), (h_row, .inl (cB, 16384, .inl z_row)), (h_sought, .inl (cB, 200, .inl z_sought)), (h_start, .inl (cI, 66, .inl z_start)), (h_documentOf, .inl (cI, 16384, .inl z_documentOf)), (h_often, .inl (cI, 64, .inl z_often))] → va_S A s.heap H locs → lv_has ls 5 [(0, .ref h_t), (1, .int a_p1), (2, .int x2)] → W p l e rm_MD_most s m ([.ref h_t, .int a_p1] : List Value).toArray below meth c H locs 0 0 (MQ below (va_Qi (fun (r : Int32) (u : Int32 × (Nat → Int32)) => post r u.1 u.2) (fun u t => cAft (dC, dI) classes (TYS cI cJ cB cZ) A [(h_t, .inr (8, [.int u.1, .ref h_tape, .ref h_row, .ref h_out, .ref h_sought, .int z_size, .int z_outSize, .int z_soughtSize, .int z_documents, .int z_indexed, .int z_suffixes, .int z_rows, .ref h_start, .ref h_documentOf, .ref h_order, .ref h_rankOf, .ref h_same, .ref h_work, .ref h_next, .ref h_often, .ref h_has, .int z_lesser])), (h_row, .inl (cB, 16384, .inl z_row)), (h_sought, .inl (cB, 200, .inl z_sought)), (h_start, .inl (cI, 66, .inl z_start)), (h_documentOf, .inl (cI, 16384, .inl z_documentOf)), (h_often, .inl (cI, 64, .inl u.2))] t) A) ([.ref h_t, .int a_p1] : List Value).toArray s 0 0 A) (F0 m 28 ls [])) : ∀ (x2 : Int32) (z_thrown : Int32) (z_often : Nat → Int32), vc_MD_most_66 a_p1 z_soughtSize z_indexed z_suffixes z_row z_sought z_start z_documentOf post K28 x2 z_thrown z_often → ∀ (H : Heap) (locs : List Loc) (ls : Array Slot), va_P (dC, dI) classes [(h_t, .inr (8, [.int z_thrown, .ref h_tape, .ref h_row, .ref h_out, .ref h_sought, .int z_size, .int z_outSize, .int z_soughtSize, .int z_documents, .int z_indexed, .int z_suffixes, .int z_rows, .ref h_start, .ref h_documentOf, .ref h_order, .ref h_rankOf, .ref h_same, .ref h_work, .ref h_next, .ref h_often, .ref h_has, .int z_lesser])), (h_row, .inl (cB, 16384, .inl z_row)), (h_sought, .inl (cB, 200, .inl z_sought)), (h_start, .inl (cI, 66, .inl z_start)), (h_documentOf, .inl (cI, 16384, .inl z_documentOf)), (h_often, .inl (cI, 64, .inl z_often))] H → va_D A [(h_t, .inr (8, [.int z_thrown, .ref h_tape, .ref h_row, .ref h_out, .ref h_sought, .int z_size, .int z_outSize, .int z_soughtSize, .int z_documents, .int z_indexed, .int z_suffixes, .int z_rows, .ref h_start, .ref h_documentOf, .ref h_order, .ref h_rankOf, .ref h_same, .ref h_work, .ref h_next, .ref h_often, .ref h_has, .int z_lesser])), (h_row, .inl (cB, 16384, .inl z_row)), (h_sought, .inl (cB, 200, .inl z_sought)), (h_start, .inl (cI, 66, .inl z_start)), (h_documentOf, .inl (cI, 16384, .inl z_documentOf)), (h_often, .inl (cI, 64, .inl z_often))] → va_S A s.heap H locs → lv_has ls 5 [(0, .ref h_t), (1, .int a_p1), (2, .int x2)] → W p l e rm_MD_most s m ([.ref h_t, .int a_p1] : List Value).toArray below meth c H locs 0 0 (MQ below (va_Qi (fun (r : Int32) (u : Int32 × (Nat → Int32)) => post r u.1 u.2) (fun u t => cAft (dC, dI) classes (TYS cI cJ cB cZ) A [(h_t, .inr (8, [.int u.1, .ref h_tape, .ref h_row, .ref h_out, .ref h_sought, .int z_size, .int z_outSize, .int z_soughtSize, .int z_documents, .int z_indexed, .int z_suffixes, .int z_rows, .ref h_start, .ref h_documentOf, .ref h_order, .ref h_rankOf, .ref h_same, .ref h_work, .ref h_next, .ref h_often, .ref h_has, .int z_lesser])), (h_row, .inl (cB, 16384, .inl z_row)), (h_sought, .inl (cB, 200, .inl z_sought)), (h_start, .inl (cI, 66, .inl z_start)), (h_documentOf, .inl (cI, 16384, .inl z_documentOf)), (h_often, .inl (cI, 64, .inl u.2))] t) A) ([.ref h_t, .int a_p1] : List Value).toArray s 0 0 A) (F0 m 66 ls []) := by
  obtain ⟨hx, hb, hml, hown, hw⟩ := id F
  intro x2 z_thrown z_often hv H locs ls hP hD hS hl
  refine lv_iinc (v := x2 + 1) (lv' := [(2, .int (x2 + 1)), (0, .ref h_t), (1, .int a_p1)]) hx hb d_MD_most_66 hl (k := 2) rfl (iinc_v (by decide)) (by decide) rfl (fun ls hl => ?_)
  refine lv_goto (tgt := 28) hx hb d_MD_most_69 (by decide) ?_
  exact hK28 (x2 + 1) z_thrown z_often hv _ _ _ hP hD hS (lv_sub hl [1, 2, 0] rfl)

set_option maxHeartbeats 4000000 in
set_option maxRecDepth 100000 in
theorem wk_MD_most_28 {p : Program} {l : Launch} {e : Env} {s : State} {m : MethodId} {below : List Frame} {meth : Method} {c : Code} {A : Nat → Prop} {dC : Nat → ClassId} {dI : Nat → Nat → Nat} {cI cJ cB cZ : ClassId} {h_t : Nat} {h_tape : Nat} {h_row : Nat} {h_out : Nat} {h_sought : Nat} {h_start : Nat} {h_documentOf : Nat} {h_order : Nat} {h_rankOf : Nat} {h_same : Nat} {h_work : Nat} {h_next : Nat} {h_often : Nat} {h_has : Nat} {a_p1 : Int32} {z_soughtSize : Int32} {z_indexed : Int32} {z_suffixes : Int32} {z_row : Nat → Int32} {z_sought : Nat → Int32} {z_start : Nat → Int32} {z_documentOf : Nat → Int32} {z_size : Int32} {z_outSize : Int32} {z_documents : Int32} {z_rows : Int32} {z_lesser : Int32} {post : Int32 → Int32 → (Nat → Int32) → Prop} (F : CallFix p m c b_MD_most 5 s ([.ref h_t, .int a_p1] : List Value).toArray WT "SuffixIndexModel") (hr : meth.sig.returnType = (some .int)) (hlk : meth.locks = false) (hK : va_K (dC, dI) classes (TYS cI cJ cB cZ) s) (hA : ∀ q, s.heap.size ≤ q → A q) : ∀ (k : Nat) (x2 : Int32) (z_thrown : Int32) (z_often : Nat → Int32), vc_MD_most_28 a_p1 z_soughtSize z_indexed z_suffixes z_row z_sought z_start z_documentOf post k x2 z_thrown z_often → ∀ (H : Heap) (locs : List Loc) (ls : Array Slot), va_P (dC, dI) classes [(h_t, .inr (8, [.int z_thrown, .ref h_tape, .ref h_row, .ref h_out, .ref h_sought, .int z_size, .int z_outSize, .int z_soughtSize, .int z_documents, .int z_indexed, .int z_suffixes, .int z_rows, .ref h_start, .ref h_documentOf, .ref h_order, .ref h_rankOf, .ref h_same, .ref h_work, .ref h_next, .ref h_often, .ref h_has, .int z_lesser])), (h_row, .inl (cB, 16384, .inl z_row)), (h_sought, .inl (cB, 200, .inl z_sought)), (h_start, .inl (cI, 66, .inl z_start)), (h_documentOf, .inl (cI, 16384, .inl z_documentOf)), (h_often, .inl (cI, 64, .inl z_often))] H → va_D A [(h_t, .inr (8, [.int z_thrown, .ref h_tape, .ref h_row, .ref h_out, .ref h_sought, .int z_size, .int z_outSize, .int z_soughtSize, .int z_documents, .int z_indexed, .int z_suffixes, .int z_rows, .ref h_start, .ref h_documentOf, .ref h_order, .ref h_rankOf, .ref h_same, .ref h_work, .ref h_next, .ref h_often, .ref h_has, .int z_lesser])), (h_row, .inl (cB, 16384, .inl z_row)), (h_sought, .inl (cB, 200, .inl z_sought)), (h_start, .inl (cI, 66, .inl z_start)), (h_documentOf, .inl (cI, 16384, .inl z_documentOf)), (h_often, .inl (cI, 64, .inl z_often))] → va_S A s.heap H locs → lv_has ls 5 [(0, .ref h_t), (1, .int a_p1), (2, .int x2)] → W p l e rm_MD_most s m ([.ref h_t, .int a_p1] : List Value).toArray below meth c H locs 0 0 (MQ below (va_Qi (fun (r : Int32) (u : Int32 × (Nat → Int32)) => post r u.1 u.2) (fun u t => cAft (dC, dI) classes (TYS cI cJ cB cZ) A [(h_t, .inr (8, [.int u.1, .ref h_tape, .ref h_row, .ref h_out, .ref h_sought, .int z_size, .int z_outSize, .int z_soughtSize, .int z_documents, .int z_indexed, .int z_suffixes, .int z_rows, .ref h_start, .ref h_documentOf, .ref h_order, .ref h_rankOf, .ref h_same, .ref h_work, .ref h_next, .ref h_often, .ref h_has, .int z_lesser])), (h_row, .inl (cB, 16384, .inl z_row)), (h_sought, .inl (cB, 200, .inl z_sought)), (h_start, .inl (cI, 66, .inl z_start)), (h_documentOf, .inl (cI, 16384, .inl z_documentOf)), (h_often, .inl (cI, 64, .inl u.2))] t) A) ([.ref h_t, .int a_p1] : List Value).toArray s 0 0 A) (F0 m 28 ls []) := by
  obtain ⟨hx, hb, hml, hown, hw⟩ := id F
  intro k
  induction k with
  | zero =>
    intro x2 z_thrown z_often hv
    exact False.elim hv
  | succ k ih =>
    intro x2 z_thrown z_often hv H locs ls hP hD hS hl
    refine lv_iload_n hx hb d_MD_most_28 rfl (lv_at hl 2 rfl) ?_
    refine lv_aload_n hx hb d_MD_most_29 rfl (lv_at hl 0 rfl) ?_
    refine va_get (D := (dC, dI)) (ci := 8) (v := .int z_suffixes) (C := "SuffixIndexModel") (T := F_MD) (N := 22) hx hb hw i_MD hown hK hP 0 rfl rfl 10 (by decide) (hw _ m_1111) (fun _ h9 => h9) rfl d_MD_most_30 ?_
    obtain ⟨hvt, hvf⟩ := hv
    refine lv_icmp_ge (tgt := 72) hx hb d_MD_most_33 (by decide) (fun c12 => ?_) (fun c12 => ?_)
    · have hv := hvt c12
      exact wk_MD_most_72 F hr hlk hK hA z_thrown z_often hv _ _ _ hP hD hS (lv_sub hl [0, 1] rfl)
    · have hv := hvf c12
      refine lv_aload_n hx hb d_MD_most_36 rfl (lv_at hl 0 rfl) ?_
      refine va_get (D := (dC, dI)) (ci := 8) (v := .int z_soughtSize) (C := "SuffixIndexModel") (T := F_MD) (N := 22) hx hb hw i_MD hown hK hP 0 rfl rfl 7 (by decide) (hw _ m_1108) (fun _ h9 => h9) rfl d_MD_most_37 ?_
      obtain ⟨hvt, hvf⟩ := hv
      refine lv_if_le (tgt := 72) hx hb d_MD_most_40 (by decide) (fun c13 => ?_) (fun c13 => ?_)
      · have hv := hvt c13
        exact wk_MD_most_72 F hr hlk hK hA z_thrown z_often hv _ _ _ hP hD hS (lv_sub hl [0, 1] rfl)
      · have hv := hvf c13
        refine lv_aload_n hx hb d_MD_most_43 rfl (lv_at hl 0 rfl) ?_
        refine lv_iload_n hx hb d_MD_most_44 rfl (lv_at hl 2 rfl) ?_
        refine cV_i (wr := [(h_often, .inl (cI, 64, .inl z_often))]) (rest := []) (c_MD_stands l dC dI cI cJ cB cZ h_t h_tape h_row h_out h_sought h_start h_documentOf h_order h_rankOf h_same h_work h_next h_often h_has H.size z_thrown z_size z_outSize z_soughtSize z_documents z_indexed z_suffixes z_rows z_lesser z_row z_sought z_start z_documentOf x2 _ hv) F (cw_V (fun _ h => h) 1 hw m_1221 m_1223 ms_35 m_9 m_1224 rfl rfl (by decide +kernel) ⟨by decide, by decide⟩) hK hP hD hS hA [0, 1, 2, 3, 4] [5] rfl rfl rfl rfl (by decide) 0 8 rfl rfl rfl hl.1 rfl (Nat.le_of_ble_eq_true rfl) d_MD_most_45 ⟨Nat.le_of_ble_eq_true rfl, Nat.le_of_ble_eq_true rfl⟩ (fun r14 u H locs hv hP hD hS => ?_)
        have hP : va_P (dC, dI) classes [(h_t, .inr (8, [.int z_thrown, .ref h_tape, .ref h_row, .ref h_out, .ref h_sought, .int z_size, .int z_outSize, .int z_soughtSize, .int z_documents, .int z_indexed, .int z_suffixes, .int z_rows, .ref h_start, .ref h_documentOf, .ref h_order, .ref h_rankOf, .ref h_same, .ref h_work, .ref h_next, .ref h_often, .ref h_has, .int z_lesser])), (h_row, .inl (cB, 16384, .inl z_row)), (h_sought, .inl (cB, 200, .inl z_sought)), (h_start, .inl (cI, 66, .inl z_start)), (h_documentOf, .inl (cI, 16384, .inl z_documentOf)), (h_often, .inl (cI, 64, .inl z_often))] H := P_sub hP [1, 2, 3, 4, 5, 0] rfl
        have hD : va_D A [(h_t, .inr (8, [.int z_thrown, .ref h_tape, .ref h_row, .ref h_out, .ref h_sought, .int z_size, .int z_outSize, .int z_soughtSize, .int z_documents, .int z_indexed, .int z_suffixes, .int z_rows, .ref h_start, .ref h_documentOf, .ref h_order, .ref h_rankOf, .ref h_same, .ref h_work, .ref h_next, .ref h_often, .ref h_has, .int z_lesser])), (h_row, .inl (cB, 16384, .inl z_row)), (h_sought, .inl (cB, 200, .inl z_sought)), (h_start, .inl (cI, 66, .inl z_start)), (h_documentOf, .inl (cI, 16384, .inl z_documentOf)), (h_often, .inl (cI, 64, .inl z_often))] := hD.sub [1, 2, 3, 4, 5, 0] rfl rfl
        obtain ⟨hvt, hvf⟩ := hv
        refine lv_if_eq (tgt := 66) hx hb d_MD_most_48 (by decide) (fun c15 => ?_) (fun c15 => ?_)
        · have hv := hvt c15
          exact wk_MD_most_66 F hr hlk hK hA ih x2 z_thrown z_often hv _ _ _ hP hD hS (lv_sub hl [0, 1, 2] rfl)
        · have hv := hvf c15
          refine lv_aload_n hx hb d_MD_most_51 rfl (lv_at hl 0 rfl) ?_
          refine va_get (D := (dC, dI)) (ci := 8) (v := .ref h_often) (C := "SuffixIndexModel") (T := F_MD) (N := 22) hx hb hw i_MD hown hK hP 0 rfl rfl 19 (by decide) (hw _ m_1120) (fun _ h9 => h9) rfl d_MD_most_52 ?_
          refine lv_aload_n hx hb d_MD_most_55 rfl (lv_at hl 0 rfl) ?_
          refine va_get (D := (dC, dI)) (ci := 8) (v := .ref h_documentOf) (C := "SuffixIndexModel") (T := F_MD) (N := 22) hx hb hw i_MD hown hK hP 0 rfl rfl 13 (by decide) (hw _ m_1114) (fun _ h9 => h9) rfl d_MD_most_56 ?_
          refine lv_iload_n hx hb d_MD_most_59 rfl (lv_at hl 2 rfl) ?_
          obtain ⟨hin, hv⟩ := hv
          refine va_iald hx hb hK hP 4 0 rfl rfl hin d_MD_most_60 ?_
          refine lv_dup2_11 hx hb d_MD_most_61 rfl rfl ?_
          obtain ⟨hin, hv⟩ := hv
          refine va_iald hx hb hK hP 5 0 rfl rfl hin d_MD_most_62 ?_
          refine lv_iconst (v := 1) hx hb d_MD_most_63 (by decide) ?_
          refine lv_iadd hx hb d_MD_most_64 ?_
          obtain ⟨hin, hv⟩ := hv
          refine va_iast hx hb hK hP hD hS 5 0 rfl rfl hin d_MD_most_65 (fun H locs hP hD hS => ?_)
          have hP : va_P (dC, dI) classes [(h_t, .inr (8, [.int z_thrown, .ref h_tape, .ref h_row, .ref h_out, .ref h_sought, .int z_size, .int z_outSize, .int z_soughtSize, .int z_documents, .int z_indexed, .int z_suffixes, .int z_rows, .ref h_start, .ref h_documentOf, .ref h_order, .ref h_rankOf, .ref h_same, .ref h_work, .ref h_next, .ref h_often, .ref h_has, .int z_lesser])), (h_row, .inl (cB, 16384, .inl z_row)), (h_sought, .inl (cB, 200, .inl z_sought)), (h_start, .inl (cI, 66, .inl z_start)), (h_documentOf, .inl (cI, 16384, .inl z_documentOf)), (h_often, .inl (cI, 64, .inl (upd z_often (z_documentOf x2.toNatClampNeg).toNatClampNeg ((z_often (z_documentOf x2.toNatClampNeg).toNatClampNeg) + 1))))] H := hP
          have hD : va_D A [(h_t, .inr (8, [.int z_thrown, .ref h_tape, .ref h_row, .ref h_out, .ref h_sought, .int z_size, .int z_outSize, .int z_soughtSize, .int z_documents, .int z_indexed, .int z_suffixes, .int z_rows, .ref h_start, .ref h_documentOf, .ref h_order, .ref h_rankOf, .ref h_same, .ref h_work, .ref h_next, .ref h_often, .ref h_has, .int z_lesser])), (h_row, .inl (cB, 16384, .inl z_row)), (h_sought, .inl (cB, 200, .inl z_sought)), (h_start, .inl (cI, 66, .inl z_start)), (h_documentOf, .inl (cI, 16384, .inl z_documentOf)), (h_often, .inl (cI, 64, .inl (upd z_often (z_documentOf x2.toNatClampNeg).toNatClampNeg ((z_often (z_documentOf x2.toNatClampNeg).toNatClampNeg) + 1))))] := hD
          exact wk_MD_most_66 F hr hlk hK hA ih x2 z_thrown (upd z_often (z_documentOf x2.toNatClampNeg).toNatClampNeg ((z_often (z_documentOf x2.toNatClampNeg).toNatClampNeg) + 1)) hv _ _ _ hP hD hS (lv_sub hl [0, 1, 2] rfl)

set_option maxHeartbeats 4000000 in
set_option maxRecDepth 100000 in
theorem wk_MD_most_7 {p : Program} {l : Launch} {e : Env} {s : State} {m : MethodId} {below : List Frame} {meth : Method} {c : Code} {A : Nat → Prop} {dC : Nat → ClassId} {dI : Nat → Nat → Nat} {cI cJ cB cZ : ClassId} {h_t : Nat} {h_tape : Nat} {h_row : Nat} {h_out : Nat} {h_sought : Nat} {h_start : Nat} {h_documentOf : Nat} {h_order : Nat} {h_rankOf : Nat} {h_same : Nat} {h_work : Nat} {h_next : Nat} {h_often : Nat} {h_has : Nat} {a_p1 : Int32} {z_soughtSize : Int32} {z_indexed : Int32} {z_suffixes : Int32} {z_row : Nat → Int32} {z_sought : Nat → Int32} {z_start : Nat → Int32} {z_documentOf : Nat → Int32} {z_size : Int32} {z_outSize : Int32} {z_documents : Int32} {z_rows : Int32} {z_lesser : Int32} {post : Int32 → Int32 → (Nat → Int32) → Prop} (F : CallFix p m c b_MD_most 5 s ([.ref h_t, .int a_p1] : List Value).toArray WT "SuffixIndexModel") (hr : meth.sig.returnType = (some .int)) (hlk : meth.locks = false) (hK : va_K (dC, dI) classes (TYS cI cJ cB cZ) s) (hA : ∀ q, s.heap.size ≤ q → A q) : ∀ (k : Nat) (x2 : Int32) (z_thrown : Int32) (z_often : Nat → Int32), vc_MD_most_7 a_p1 z_soughtSize z_indexed z_suffixes z_row z_sought z_start z_documentOf post k x2 z_thrown z_often → ∀ (H : Heap) (locs : List Loc) (ls : Array Slot), va_P (dC, dI) classes [(h_t, .inr (8, [.int z_thrown, .ref h_tape, .ref h_row, .ref h_out, .ref h_sought, .int z_size, .int z_outSize, .int z_soughtSize, .int z_documents, .int z_indexed, .int z_suffixes, .int z_rows, .ref h_start, .ref h_documentOf, .ref h_order, .ref h_rankOf, .ref h_same, .ref h_work, .ref h_next, .ref h_often, .ref h_has, .int z_lesser])), (h_row, .inl (cB, 16384, .inl z_row)), (h_sought, .inl (cB, 200, .inl z_sought)), (h_start, .inl (cI, 66, .inl z_start)), (h_documentOf, .inl (cI, 16384, .inl z_documentOf)), (h_often, .inl (cI, 64, .inl z_often))] H → va_D A [(h_t, .inr (8, [.int z_thrown, .ref h_tape, .ref h_row, .ref h_out, .ref h_sought, .int z_size, .int z_outSize, .int z_soughtSize, .int z_documents, .int z_indexed, .int z_suffixes, .int z_rows, .ref h_start, .ref h_documentOf, .ref h_order, .ref h_rankOf, .ref h_same, .ref h_work, .ref h_next, .ref h_often, .ref h_has, .int z_lesser])), (h_row, .inl (cB, 16384, .inl z_row)), (h_sought, .inl (cB, 200, .inl z_sought)), (h_start, .inl (cI, 66, .inl z_start)), (h_documentOf, .inl (cI, 16384, .inl z_documentOf)), (h_often, .inl (cI, 64, .inl z_often))] → va_S A s.heap H locs → lv_has ls 5 [(0, .ref h_t), (1, .int a_p1), (2, .int x2)] → W p l e rm_MD_most s m ([.ref h_t, .int a_p1] : List Value).toArray below meth c H locs 0 0 (MQ below (va_Qi (fun (r : Int32) (u : Int32 × (Nat → Int32)) => post r u.1 u.2) (fun u t => cAft (dC, dI) classes (TYS cI cJ cB cZ) A [(h_t, .inr (8, [.int u.1, .ref h_tape, .ref h_row, .ref h_out, .ref h_sought, .int z_size, .int z_outSize, .int z_soughtSize, .int z_documents, .int z_indexed, .int z_suffixes, .int z_rows, .ref h_start, .ref h_documentOf, .ref h_order, .ref h_rankOf, .ref h_same, .ref h_work, .ref h_next, .ref h_often, .ref h_has, .int z_lesser])), (h_row, .inl (cB, 16384, .inl z_row)), (h_sought, .inl (cB, 200, .inl z_sought)), (h_start, .inl (cI, 66, .inl z_start)), (h_documentOf, .inl (cI, 16384, .inl z_documentOf)), (h_often, .inl (cI, 64, .inl u.2))] t) A) ([.ref h_t, .int a_p1] : List Value).toArray s 0 0 A) (F0 m 7 ls []) := by
  obtain ⟨hx, hb, hml, hown, hw⟩ := id F
  intro k
  induction k with
  | zero =>
    intro x2 z_thrown z_often hv
    exact False.elim hv
  | succ k ih =>
    intro x2 z_thrown z_often hv H locs ls hP hD hS hl
    refine lv_iload_n hx hb d_MD_most_7 rfl (lv_at hl 2 rfl) ?_
    refine lv_bipush (v := 64) hx hb d_MD_most_8 (by decide) ?_
    obtain ⟨hvt, hvf⟩ := hv
    refine lv_icmp_ge (tgt := 26) hx hb d_MD_most_10 (by decide) (fun c16 => ?_) (fun c16 => ?_)
    · have hv := hvt c16
      refine lv_iconst (v := 0) hx hb d_MD_most_26 (by decide) ?_
      refine lv_istore_n (lv' := [(2, .int 0), (0, .ref h_t), (1, .int a_p1)]) hx hb d_MD_most_27 rfl hl (by decide) rfl (fun ls hl => ?_)
      obtain ⟨j, hv⟩ := hv
      exact wk_MD_most_28 F hr hlk hK hA j 0 z_thrown z_often hv _ _ _ hP hD hS (lv_sub hl [1, 2, 0] rfl)
    · have hv := hvf c16
      refine lv_aload_n hx hb d_MD_most_13 rfl (lv_at hl 0 rfl) ?_
      refine va_get (D := (dC, dI)) (ci := 8) (v := .ref h_often) (C := "SuffixIndexModel") (T := F_MD) (N := 22) hx hb hw i_MD hown hK hP 0 rfl rfl 19 (by decide) (hw _ m_1120) (fun _ h9 => h9) rfl d_MD_most_14 ?_
      refine lv_iload_n hx hb d_MD_most_17 rfl (lv_at hl 2 rfl) ?_
      refine lv_iconst (v := 0) hx hb d_MD_most_18 (by decide) ?_
      obtain ⟨hin, hv⟩ := hv
      refine va_iast hx hb hK hP hD hS 5 0 rfl rfl hin d_MD_most_19 (fun H locs hP hD hS => ?_)
      have hP : va_P (dC, dI) classes [(h_t, .inr (8, [.int z_thrown, .ref h_tape, .ref h_row, .ref h_out, .ref h_sought, .int z_size, .int z_outSize, .int z_soughtSize, .int z_documents, .int z_indexed, .int z_suffixes, .int z_rows, .ref h_start, .ref h_documentOf, .ref h_order, .ref h_rankOf, .ref h_same, .ref h_work, .ref h_next, .ref h_often, .ref h_has, .int z_lesser])), (h_row, .inl (cB, 16384, .inl z_row)), (h_sought, .inl (cB, 200, .inl z_sought)), (h_start, .inl (cI, 66, .inl z_start)), (h_documentOf, .inl (cI, 16384, .inl z_documentOf)), (h_often, .inl (cI, 64, .inl (upd z_often x2.toNatClampNeg 0)))] H := hP
      have hD : va_D A [(h_t, .inr (8, [.int z_thrown, .ref h_tape, .ref h_row, .ref h_out, .ref h_sought, .int z_size, .int z_outSize, .int z_soughtSize, .int z_documents, .int z_indexed, .int z_suffixes, .int z_rows, .ref h_start, .ref h_documentOf, .ref h_order, .ref h_rankOf, .ref h_same, .ref h_work, .ref h_next, .ref h_often, .ref h_has, .int z_lesser])), (h_row, .inl (cB, 16384, .inl z_row)), (h_sought, .inl (cB, 200, .inl z_sought)), (h_start, .inl (cI, 66, .inl z_start)), (h_documentOf, .inl (cI, 16384, .inl z_documentOf)), (h_often, .inl (cI, 64, .inl (upd z_often x2.toNatClampNeg 0)))] := hD
      refine lv_iinc (v := x2 + 1) (lv' := [(2, .int (x2 + 1)), (0, .ref h_t), (1, .int a_p1)]) hx hb d_MD_most_20 hl (k := 2) rfl (iinc_v (by decide)) (by decide) rfl (fun ls hl => ?_)
      refine lv_goto (tgt := 7) hx hb d_MD_most_23 (by decide) ?_
      exact ih (x2 + 1) z_thrown (upd z_often x2.toNatClampNeg 0) hv _ _ _ hP hD hS (lv_sub hl [1, 2, 0] rfl)

set_option maxHeartbeats 4000000 in
set_option maxRecDepth 100000 in
theorem c_MD_most (l : Launch) (dC : Nat → ClassId) (dI : Nat → Nat → Nat) (cI cJ cB cZ : ClassId) (h_t : Nat) (h_tape : Nat) (h_row : Nat) (h_out : Nat) (h_sought : Nat) (h_start : Nat) (h_documentOf : Nat) (h_order : Nat) (h_rankOf : Nat) (h_same : Nat) (h_work : Nat) (h_next : Nat) (h_often : Nat) (h_has : Nat) (sz : Nat) (z_thrown : Int32) (z_size : Int32) (z_outSize : Int32) (z_soughtSize : Int32) (z_documents : Int32) (z_indexed : Int32) (z_suffixes : Int32) (z_rows : Int32) (z_lesser : Int32) (z_row : Nat → Int32) (z_sought : Nat → Int32) (z_start : Nat → Int32) (z_documentOf : Nat → Int32) (z_often : Nat → Int32) (a_p1 : Int32) (post : Int32 → Int32 → (Nat → Int32) → Prop) (hv : vc_MD_most a_p1 z_soughtSize z_indexed z_suffixes z_row z_sought z_start z_documentOf post z_thrown z_often) : Met l y_MD_most (Cond.code y_MD_most b_MD_most 5 (some .int) :: WT) rm_MD_most (cPre (dC, dI) classes (TYS cI cJ cB cZ) [(h_t, .inr (8, [.int z_thrown, .ref h_tape, .ref h_row, .ref h_out, .ref h_sought, .int z_size, .int z_outSize, .int z_soughtSize, .int z_documents, .int z_indexed, .int z_suffixes, .int z_rows, .ref h_start, .ref h_documentOf, .ref h_order, .ref h_rankOf, .ref h_same, .ref h_work, .ref h_next, .ref h_often, .ref h_has, .int z_lesser])), (h_row, .inl (cB, 16384, .inl z_row)), (h_sought, .inl (cB, 200, .inl z_sought)), (h_start, .inl (cI, 66, .inl z_start)), (h_documentOf, .inl (cI, 16384, .inl z_documentOf)), (h_often, .inl (cI, 64, .inl z_often))] sz [.ref h_t, .int a_p1]) (va_Qi (fun (r : Int32) (u : Int32 × (Nat → Int32)) => post r u.1 u.2) (fun u t => cAft (dC, dI) classes (TYS cI cJ cB cZ) (va_A [(h_t, .inr (8, [.int z_thrown, .ref h_tape, .ref h_row, .ref h_out, .ref h_sought, .int z_size, .int z_outSize, .int z_soughtSize, .int z_documents, .int z_indexed, .int z_suffixes, .int z_rows, .ref h_start, .ref h_documentOf, .ref h_order, .ref h_rankOf, .ref h_same, .ref h_work, .ref h_next, .ref h_often, .ref h_has, .int z_lesser])), (h_row, .inl (cB, 16384, .inl z_row)), (h_sought, .inl (cB, 200, .inl z_sought)), (h_start, .inl (cI, 66, .inl z_start)), (h_documentOf, .inl (cI, 16384, .inl z_documentOf)), (h_often, .inl (cI, 64, .inl z_often))] sz) [(h_t, .inr (8, [.int u.1, .ref h_tape, .ref h_row, .ref h_out, .ref h_sought, .int z_size, .int z_outSize, .int z_soughtSize, .int z_documents, .int z_indexed, .int z_suffixes, .int z_rows, .ref h_start, .ref h_documentOf, .ref h_order, .ref h_rankOf, .ref h_same, .ref h_work, .ref h_next, .ref h_often, .ref h_has, .int z_lesser])), (h_row, .inl (cB, 16384, .inl z_row)), (h_sought, .inl (cB, 200, .inl z_sought)), (h_start, .inl (cI, 66, .inl z_start)), (h_documentOf, .inl (cI, 16384, .inl z_documentOf)), (h_often, .inl (cI, 64, .inl u.2))] t) (va_A [(h_t, .inr (8, [.int z_thrown, .ref h_tape, .ref h_row, .ref h_out, .ref h_sought, .int z_size, .int z_outSize, .int z_soughtSize, .int z_documents, .int z_indexed, .int z_suffixes, .int z_rows, .ref h_start, .ref h_documentOf, .ref h_order, .ref h_rankOf, .ref h_same, .ref h_work, .ref h_next, .ref h_often, .ref h_has, .int z_lesser])), (h_row, .inl (cB, 16384, .inl z_row)), (h_sought, .inl (cB, 200, .inl z_sought)), (h_start, .inl (cI, 66, .inl z_start)), (h_documentOf, .inl (cI, 16384, .inl z_documentOf)), (h_often, .inl (cI, 64, .inl z_often))] sz)) 0 0 (va_A [(h_t, .inr (8, [.int z_thrown, .ref h_tape, .ref h_row, .ref h_out, .ref h_sought, .int z_size, .int z_outSize, .int z_soughtSize, .int z_documents, .int z_indexed, .int z_suffixes, .int z_rows, .ref h_start, .ref h_documentOf, .ref h_order, .ref h_rankOf, .ref h_same, .ref h_work, .ref h_next, .ref h_often, .ref h_has, .int z_lesser])), (h_row, .inl (cB, 16384, .inl z_row)), (h_sought, .inl (cB, 200, .inl z_sought)), (h_start, .inl (cI, 66, .inl z_start)), (h_documentOf, .inl (cI, 16384, .inl z_documentOf)), (h_often, .inl (cI, 64, .inl z_often))] sz) := by
  refine Met.ofW (cc := b_MD_most) (maxL := 5) (ret := (some .int)) (by decide) rfl ?_
  intro p e s m args below meth c s₁ B hml hq
  obtain ⟨rfl, hsz, hP, hK, hD0⟩ := hq
  have hts := atoms_spec (ws := Cond.code y_MD_most b_MD_most 5 (some .int) :: WT) B.pre
  have hw : ∀ w ∈ WT, w.before ([.ref h_t, .int a_p1] : List Value).toArray s = true := fun w h => hts w (List.mem_cons_of_mem _ h)
  have hx := B.exec
  have hb := B.bytes
  have hr := B.returns
  have hlk := B.notSynchronized
  have hown : s.vm.findClass "SuffixIndexModel" = some m.cls := findClass_of_methodNamed B.named
  have F : CallFix p m c b_MD_most 5 s ([.ref h_t, .int a_p1] : List Value).toArray WT "SuffixIndexModel" := ⟨hx, hb, hml, hown, hw⟩
  subst hsz
  have hD := hD0.self (sz := s.heap.size)
  generalize hAe : va_A [(h_t, .inr (8, [.int z_thrown, .ref h_tape, .ref h_row, .ref h_out, .ref h_sought, .int z_size, .int z_outSize, .int z_soughtSize, .int z_documents, .int z_indexed, .int z_suffixes, .int z_rows, .ref h_start, .ref h_documentOf, .ref h_order, .ref h_rankOf, .ref h_same, .ref h_work, .ref h_next, .ref h_often, .ref h_has, .int z_lesser])), (h_row, .inl (cB, 16384, .inl z_row)), (h_sought, .inl (cB, 200, .inl z_sought)), (h_start, .inl (cI, 66, .inl z_start)), (h_documentOf, .inl (cI, 16384, .inl z_documentOf)), (h_often, .inl (cI, 64, .inl z_often))] s.heap.size = A at hD ⊢
  have hA : ∀ q : Nat, s.heap.size ≤ q → A q := fun q h => by rw [← hAe]; exact Or.inr h
  have hS : va_S A s.heap s.heap [] := va_S.rf
  have hl := lv_entry ([.ref h_t, .int a_p1]) (n := 5) (Nat.le_of_ble_eq_true rfl)
  rw [lg_entry_eq]
  generalize (lg_sl ([.ref h_t, .int a_p1]) ++ List.replicate (5 - (lg_sl ([.ref h_t, .int a_p1])).length) Slot.unset).toArray = ls at hl ⊢
  have hl : lv_has ls 5 [(0, .ref h_t), (1, .int a_p1)] := hl
  show W p l e rm_MD_most s m _ below meth c s.heap [] 0 0 _ _
  have hP : va_P (dC, dI) classes [(h_t, .inr (8, [.int z_thrown, .ref h_tape, .ref h_row, .ref h_out, .ref h_sought, .int z_size, .int z_outSize, .int z_soughtSize, .int z_documents, .int z_indexed, .int z_suffixes, .int z_rows, .ref h_start, .ref h_documentOf, .ref h_order, .ref h_rankOf, .ref h_same, .ref h_work, .ref h_next, .ref h_often, .ref h_has, .int z_lesser])), (h_row, .inl (cB, 16384, .inl z_row)), (h_sought, .inl (cB, 200, .inl z_sought)), (h_start, .inl (cI, 66, .inl z_start)), (h_documentOf, .inl (cI, 16384, .inl z_documentOf)), (h_often, .inl (cI, 64, .inl z_often))] s.heap := hP
  obtain ⟨H, hHe⟩ : ∃ H, H = s.heap := ⟨_, rfl⟩
  have hS : va_S A s.heap H [] := by rw [hHe]; exact hS
  rw [← hHe] at hP
  suffices hgoal : W p l e rm_MD_most s m ([.ref h_t, .int a_p1] : List Value).toArray below meth c H [] 0 0 (MQ below (va_Qi (fun (r : Int32) (u : Int32 × (Nat → Int32)) => post r u.1 u.2) (fun u t => cAft (dC, dI) classes (TYS cI cJ cB cZ) A [(h_t, .inr (8, [.int u.1, .ref h_tape, .ref h_row, .ref h_out, .ref h_sought, .int z_size, .int z_outSize, .int z_soughtSize, .int z_documents, .int z_indexed, .int z_suffixes, .int z_rows, .ref h_start, .ref h_documentOf, .ref h_order, .ref h_rankOf, .ref h_same, .ref h_work, .ref h_next, .ref h_often, .ref h_has, .int z_lesser])), (h_row, .inl (cB, 16384, .inl z_row)), (h_sought, .inl (cB, 200, .inl z_sought)), (h_start, .inl (cI, 66, .inl z_start)), (h_documentOf, .inl (cI, 16384, .inl z_documentOf)), (h_often, .inl (cI, 64, .inl u.2))] t) A) ([.ref h_t, .int a_p1] : List Value).toArray s 0 0 A) (F0 m 0 ls []) by rw [hHe] at hgoal; exact hgoal
  refine lv_aload_n hx hb d_MD_most_0 rfl (lv_at hl 0 rfl) ?_
  refine lv_iconst (v := 0) hx hb d_MD_most_1 (by decide) ?_
  refine va_put (D := (dC, dI)) (ci := 8) (v := .int 0) (ty := .int) (C := "SuffixIndexModel") (T := F_MD) (N := 22) hx hb hw i_MD t_MD t_MD_ok n_MD hown hK hP hD hS 0 rfl rfl 0 (by decide) (hw _ m_1101) (fun _ h9 => h9) rfl (by decide +kernel) rfl rfl (Nat.le_of_ble_eq_true rfl) d_MD_most_2 (fun H locs hP hD hS => ?_)
  have hP : va_P (dC, dI) classes [(h_t, .inr (8, [.int 0, .ref h_tape, .ref h_row, .ref h_out, .ref h_sought, .int z_size, .int z_outSize, .int z_soughtSize, .int z_documents, .int z_indexed, .int z_suffixes, .int z_rows, .ref h_start, .ref h_documentOf, .ref h_order, .ref h_rankOf, .ref h_same, .ref h_work, .ref h_next, .ref h_often, .ref h_has, .int z_lesser])), (h_row, .inl (cB, 16384, .inl z_row)), (h_sought, .inl (cB, 200, .inl z_sought)), (h_start, .inl (cI, 66, .inl z_start)), (h_documentOf, .inl (cI, 16384, .inl z_documentOf)), (h_often, .inl (cI, 64, .inl z_often))] H := hP
  have hD : va_D A [(h_t, .inr (8, [.int 0, .ref h_tape, .ref h_row, .ref h_out, .ref h_sought, .int z_size, .int z_outSize, .int z_soughtSize, .int z_documents, .int z_indexed, .int z_suffixes, .int z_rows, .ref h_start, .ref h_documentOf, .ref h_order, .ref h_rankOf, .ref h_same, .ref h_work, .ref h_next, .ref h_often, .ref h_has, .int z_lesser])), (h_row, .inl (cB, 16384, .inl z_row)), (h_sought, .inl (cB, 200, .inl z_sought)), (h_start, .inl (cI, 66, .inl z_start)), (h_documentOf, .inl (cI, 16384, .inl z_documentOf)), (h_often, .inl (cI, 64, .inl z_often))] := hD
  refine lv_iconst (v := 0) hx hb d_MD_most_5 (by decide) ?_
  refine lv_istore_n (lv' := [(2, .int 0), (0, .ref h_t), (1, .int a_p1)]) hx hb d_MD_most_6 rfl hl (by decide) rfl (fun ls hl => ?_)
  obtain ⟨j, hv⟩ := hv
  exact wk_MD_most_7 F hr hlk hK hA j 0 0 z_often hv _ _ _ hP hD hS (lv_sub hl [1, 2, 0] rfl)

set_option maxHeartbeats 4000000 in
set_option maxRecDepth 100000 in
theorem wk_MD_tell_2 {p : Program} {l : Launch} {e : Env} {s : State} {m : MethodId} {below : List Frame} {meth : Method} {c : Code} {A : Nat → Prop} {dC : Nat → ClassId} {dI : Nat → Nat → Nat} {cI cJ cB cZ : ClassId} {h_t : Nat} {h_tape : Nat} {h_row : Nat} {h_out : Nat} {h_sought : Nat} {h_start : Nat} {h_documentOf : Nat} {h_order : Nat} {h_rankOf : Nat} {h_same : Nat} {h_work : Nat} {h_next : Nat} {h_often : Nat} {h_has : Nat} {a_p1 : Int32} {a_p2 : Int32} {z_row : Nat → Int32} {z_thrown : Int32} {z_size : Int32} {z_soughtSize : Int32} {z_documents : Int32} {z_indexed : Int32} {z_suffixes : Int32} {z_rows : Int32} {z_lesser : Int32} {post : Int32 → (Nat → Int32) → Prop} (F : CallFix p m c b_MD_tell 4 s ([.ref h_t, .int a_p1, .int a_p2] : List Value).toArray WT "SuffixIndexModel") (hr : meth.sig.returnType = none) (hlk : meth.locks = false) (hK : va_K (dC, dI) classes (TYS cI cJ cB cZ) s) (hA : ∀ q, s.heap.size ≤ q → A q) : ∀ (k : Nat) (x3 : Int32) (z_outSize : Int32) (z_out : Nat → Int32), vc_MD_tell_2 a_p1 a_p2 z_row post k x3 z_outSize z_out → ∀ (H : Heap) (locs : List Loc) (ls : Array Slot), va_P (dC, dI) classes [(h_t, .inr (8, [.int z_thrown, .ref h_tape, .ref h_row, .ref h_out, .ref h_sought, .int z_size, .int z_outSize, .int z_soughtSize, .int z_documents, .int z_indexed, .int z_suffixes, .int z_rows, .ref h_start, .ref h_documentOf, .ref h_order, .ref h_rankOf, .ref h_same, .ref h_work, .ref h_next, .ref h_often, .ref h_has, .int z_lesser])), (h_row, .inl (cB, 16384, .inl z_row)), (h_out, .inl (cB, 16384, .inl z_out))] H → va_D A [(h_t, .inr (8, [.int z_thrown, .ref h_tape, .ref h_row, .ref h_out, .ref h_sought, .int z_size, .int z_outSize, .int z_soughtSize, .int z_documents, .int z_indexed, .int z_suffixes, .int z_rows, .ref h_start, .ref h_documentOf, .ref h_order, .ref h_rankOf, .ref h_same, .ref h_work, .ref h_next, .ref h_often, .ref h_has, .int z_lesser])), (h_row, .inl (cB, 16384, .inl z_row)), (h_out, .inl (cB, 16384, .inl z_out))] → va_S A s.heap H locs → lv_has ls 4 [(0, .ref h_t), (1, .int a_p1), (2, .int a_p2), (3, .int x3)] → W p l e rm_MD_tell s m ([.ref h_t, .int a_p1, .int a_p2] : List Value).toArray below meth c H locs 0 0 (MQ below (va_Qv (fun u : Int32 × (Nat → Int32) => post u.1 u.2) (fun u t => cAft (dC, dI) classes (TYS cI cJ cB cZ) A [(h_t, .inr (8, [.int z_thrown, .ref h_tape, .ref h_row, .ref h_out, .ref h_sought, .int z_size, .int u.1, .int z_soughtSize, .int z_documents, .int z_indexed, .int z_suffixes, .int z_rows, .ref h_start, .ref h_documentOf, .ref h_order, .ref h_rankOf, .ref h_same, .ref h_work, .ref h_next, .ref h_often, .ref h_has, .int z_lesser])), (h_row, .inl (cB, 16384, .inl z_row)), (h_out, .inl (cB, 16384, .inl u.2))] t) A) ([.ref h_t, .int a_p1, .int a_p2] : List Value).toArray s 0 0 A) (F0 m 2 ls []) := by
  obtain ⟨hx, hb, hml, hown, hw⟩ := id F
  intro k
  induction k with
  | zero =>
    intro x3 z_outSize z_out hv
    exact False.elim hv
  | succ k ih =>
    intro x3 z_outSize z_out hv H locs ls hP hD hS hl
    refine lv_iload_n hx hb d_MD_tell_2 rfl (lv_at hl 3 rfl) ?_
    refine lv_iload_n hx hb d_MD_tell_3 rfl (lv_at hl 2 rfl) ?_
    obtain ⟨hvt, hvf⟩ := hv
    refine lv_icmp_ge (tgt := 27) hx hb d_MD_tell_4 (by decide) (fun c1 => ?_) (fun c1 => ?_)
    · have hv := hvt c1
      refine lv_aload_n hx hb d_MD_tell_27 rfl (lv_at hl 0 rfl) ?_
      refine lv_iload_n hx hb d_MD_tell_28 rfl (lv_at hl 2 rfl) ?_
      refine va_put (D := (dC, dI)) (ci := 8) (v := .int a_p2) (ty := .int) (C := "SuffixIndexModel") (T := F_MD) (N := 22) hx hb hw i_MD t_MD t_MD_ok n_MD hown hK hP hD hS 0 rfl rfl 6 (by decide) (hw _ m_1107) (fun _ h9 => h9) rfl (by decide +kernel) rfl rfl (Nat.le_of_ble_eq_true rfl) d_MD_tell_29 (fun H locs hP hD hS => ?_)
      have hP : va_P (dC, dI) classes [(h_t, .inr (8, [.int z_thrown, .ref h_tape, .ref h_row, .ref h_out, .ref h_sought, .int z_size, .int a_p2, .int z_soughtSize, .int z_documents, .int z_indexed, .int z_suffixes, .int z_rows, .ref h_start, .ref h_documentOf, .ref h_order, .ref h_rankOf, .ref h_same, .ref h_work, .ref h_next, .ref h_often, .ref h_has, .int z_lesser])), (h_row, .inl (cB, 16384, .inl z_row)), (h_out, .inl (cB, 16384, .inl z_out))] H := hP
      have hD : va_D A [(h_t, .inr (8, [.int z_thrown, .ref h_tape, .ref h_row, .ref h_out, .ref h_sought, .int z_size, .int a_p2, .int z_soughtSize, .int z_documents, .int z_indexed, .int z_suffixes, .int z_rows, .ref h_start, .ref h_documentOf, .ref h_order, .ref h_rankOf, .ref h_same, .ref h_work, .ref h_next, .ref h_often, .ref h_has, .int z_lesser])), (h_row, .inl (cB, 16384, .inl z_row)), (h_out, .inl (cB, 16384, .inl z_out))] := hD
      exact W.vret hx hb hr (fun t ht hW => ⟨⟨(a_p2, z_out), rfl, hv, by rw [ht]; exact hP, va_K.moved hW.alike hK, hD⟩, hS.F ht⟩) hS.2.2 d_MD_tell_32
    · have hv := hvf c1
      refine lv_aload_n hx hb d_MD_tell_7 rfl (lv_at hl 0 rfl) ?_
      refine va_get (D := (dC, dI)) (ci := 8) (v := .ref h_out) (C := "SuffixIndexModel") (T := F_MD) (N := 22) hx hb hw i_MD hown hK hP 0 rfl rfl 3 (by decide) (hw _ m_1104) (fun _ h9 => h9) rfl d_MD_tell_8 ?_
      refine lv_iload_n hx hb d_MD_tell_11 rfl (lv_at hl 3 rfl) ?_
      refine lv_aload_n hx hb d_MD_tell_12 rfl (lv_at hl 0 rfl) ?_
      refine va_get (D := (dC, dI)) (ci := 8) (v := .ref h_row) (C := "SuffixIndexModel") (T := F_MD) (N := 22) hx hb hw i_MD hown hK hP 0 rfl rfl 2 (by decide) (hw _ m_1103) (fun _ h9 => h9) rfl d_MD_tell_13 ?_
      refine lv_iload_n hx hb d_MD_tell_16 rfl (lv_at hl 1 rfl) ?_
      refine lv_iload_n hx hb d_MD_tell_17 rfl (lv_at hl 3 rfl) ?_
      refine lv_iadd hx hb d_MD_tell_18 ?_
      obtain ⟨hin, hv⟩ := hv
      refine va_bald hx hb hK hP 1 2 rfl rfl hin d_MD_tell_19 ?_
      obtain ⟨hin, hv⟩ := hv
      refine va_bast hx hb hK hP hD hS 2 2 rfl rfl hin d_MD_tell_20 (fun H locs hP hD hS => ?_)
      have hP : va_P (dC, dI) classes [(h_t, .inr (8, [.int z_thrown, .ref h_tape, .ref h_row, .ref h_out, .ref h_sought, .int z_size, .int z_outSize, .int z_soughtSize, .int z_documents, .int z_indexed, .int z_suffixes, .int z_rows, .ref h_start, .ref h_documentOf, .ref h_order, .ref h_rankOf, .ref h_same, .ref h_work, .ref h_next, .ref h_often, .ref h_has, .int z_lesser])), (h_row, .inl (cB, 16384, .inl z_row)), (h_out, .inl (cB, 16384, .inl (upd z_out x3.toNatClampNeg (vp_nar .byte (z_row (a_p1 + x3).toNatClampNeg)))))] H := hP
      have hD : va_D A [(h_t, .inr (8, [.int z_thrown, .ref h_tape, .ref h_row, .ref h_out, .ref h_sought, .int z_size, .int z_outSize, .int z_soughtSize, .int z_documents, .int z_indexed, .int z_suffixes, .int z_rows, .ref h_start, .ref h_documentOf, .ref h_order, .ref h_rankOf, .ref h_same, .ref h_work, .ref h_next, .ref h_often, .ref h_has, .int z_lesser])), (h_row, .inl (cB, 16384, .inl z_row)), (h_out, .inl (cB, 16384, .inl (upd z_out x3.toNatClampNeg (vp_nar .byte (z_row (a_p1 + x3).toNatClampNeg)))))] := hD
      refine lv_iinc (v := x3 + 1) (lv' := [(3, .int (x3 + 1)), (0, .ref h_t), (1, .int a_p1), (2, .int a_p2)]) hx hb d_MD_tell_21 hl (k := 3) rfl (iinc_v (by decide)) (by decide) rfl (fun ls hl => ?_)
      refine lv_goto (tgt := 2) hx hb d_MD_tell_24 (by decide) ?_
      exact ih (x3 + 1) z_outSize (upd z_out x3.toNatClampNeg (vp_nar .byte (z_row (a_p1 + x3).toNatClampNeg))) hv _ _ _ hP hD hS (lv_sub hl [1, 2, 3, 0] rfl)

set_option maxHeartbeats 4000000 in
set_option maxRecDepth 100000 in
theorem c_MD_tell (l : Launch) (dC : Nat → ClassId) (dI : Nat → Nat → Nat) (cI cJ cB cZ : ClassId) (h_t : Nat) (h_tape : Nat) (h_row : Nat) (h_out : Nat) (h_sought : Nat) (h_start : Nat) (h_documentOf : Nat) (h_order : Nat) (h_rankOf : Nat) (h_same : Nat) (h_work : Nat) (h_next : Nat) (h_often : Nat) (h_has : Nat) (sz : Nat) (z_thrown : Int32) (z_size : Int32) (z_outSize : Int32) (z_soughtSize : Int32) (z_documents : Int32) (z_indexed : Int32) (z_suffixes : Int32) (z_rows : Int32) (z_lesser : Int32) (z_row : Nat → Int32) (z_out : Nat → Int32) (a_p1 : Int32) (a_p2 : Int32) (post : Int32 → (Nat → Int32) → Prop) (hv : vc_MD_tell a_p1 a_p2 z_row post z_outSize z_out) : Met l y_MD_tell (Cond.code y_MD_tell b_MD_tell 4 none :: WT) rm_MD_tell (cPre (dC, dI) classes (TYS cI cJ cB cZ) [(h_t, .inr (8, [.int z_thrown, .ref h_tape, .ref h_row, .ref h_out, .ref h_sought, .int z_size, .int z_outSize, .int z_soughtSize, .int z_documents, .int z_indexed, .int z_suffixes, .int z_rows, .ref h_start, .ref h_documentOf, .ref h_order, .ref h_rankOf, .ref h_same, .ref h_work, .ref h_next, .ref h_often, .ref h_has, .int z_lesser])), (h_row, .inl (cB, 16384, .inl z_row)), (h_out, .inl (cB, 16384, .inl z_out))] sz [.ref h_t, .int a_p1, .int a_p2]) (va_Qv (fun u : Int32 × (Nat → Int32) => post u.1 u.2) (fun u t => cAft (dC, dI) classes (TYS cI cJ cB cZ) (va_A [(h_t, .inr (8, [.int z_thrown, .ref h_tape, .ref h_row, .ref h_out, .ref h_sought, .int z_size, .int z_outSize, .int z_soughtSize, .int z_documents, .int z_indexed, .int z_suffixes, .int z_rows, .ref h_start, .ref h_documentOf, .ref h_order, .ref h_rankOf, .ref h_same, .ref h_work, .ref h_next, .ref h_often, .ref h_has, .int z_lesser])), (h_row, .inl (cB, 16384, .inl z_row)), (h_out, .inl (cB, 16384, .inl z_out))] sz) [(h_t, .inr (8, [.int z_thrown, .ref h_tape, .ref h_row, .ref h_out, .ref h_sought, .int z_size, .int u.1, .int z_soughtSize, .int z_documents, .int z_indexed, .int z_suffixes, .int z_rows, .ref h_start, .ref h_documentOf, .ref h_order, .ref h_rankOf, .ref h_same, .ref h_work, .ref h_next, .ref h_often, .ref h_has, .int z_lesser])), (h_row, .inl (cB, 16384, .inl z_row)), (h_out, .inl (cB, 16384, .inl u.2))] t) (va_A [(h_t, .inr (8, [.int z_thrown, .ref h_tape, .ref h_row, .ref h_out, .ref h_sought, .int z_size, .int z_outSize, .int z_soughtSize, .int z_documents, .int z_indexed, .int z_suffixes, .int z_rows, .ref h_start, .ref h_documentOf, .ref h_order, .ref h_rankOf, .ref h_same, .ref h_work, .ref h_next, .ref h_often, .ref h_has, .int z_lesser])), (h_row, .inl (cB, 16384, .inl z_row)), (h_out, .inl (cB, 16384, .inl z_out))] sz)) 0 0 (va_A [(h_t, .inr (8, [.int z_thrown, .ref h_tape, .ref h_row, .ref h_out, .ref h_sought, .int z_size, .int z_outSize, .int z_soughtSize, .int z_documents, .int z_indexed, .int z_suffixes, .int z_rows, .ref h_start, .ref h_documentOf, .ref h_order, .ref h_rankOf, .ref h_same, .ref h_work, .ref h_next, .ref h_often, .ref h_has, .int z_lesser])), (h_row, .inl (cB, 16384, .inl z_row)), (h_out, .inl (cB, 16384, .inl z_out))] sz) := by
  refine Met.ofW (cc := b_MD_tell) (maxL := 4) (ret := none) (by decide) rfl ?_
  intro p e s m args below meth c s₁ B hml hq
  obtain ⟨rfl, hsz, hP, hK, hD0⟩ := hq
  have hts := atoms_spec (ws := Cond.code y_MD_tell b_MD_tell 4 none :: WT) B.pre
  have hw : ∀ w ∈ WT, w.before ([.ref h_t, .int a_p1, .int a_p2] : List Value).toArray s = true := fun w h => hts w (List.mem_cons_of_mem _ h)
  have hx := B.exec
  have hb := B.bytes
  have hr := B.returns
  have hlk := B.notSynchronized
  have hown : s.vm.findClass "SuffixIndexModel" = some m.cls := findClass_of_methodNamed B.named
  have F : CallFix p m c b_MD_tell 4 s ([.ref h_t, .int a_p1, .int a_p2] : List Value).toArray WT "SuffixIndexModel" := ⟨hx, hb, hml, hown, hw⟩
  subst hsz
  have hD := hD0.self (sz := s.heap.size)
  generalize hAe : va_A [(h_t, .inr (8, [.int z_thrown, .ref h_tape, .ref h_row, .ref h_out, .ref h_sought, .int z_size, .int z_outSize, .int z_soughtSize, .int z_documents, .int z_indexed, .int z_suffixes, .int z_rows, .ref h_start, .ref h_documentOf, .ref h_order, .ref h_rankOf, .ref h_same, .ref h_work, .ref h_next, .ref h_often, .ref h_has, .int z_lesser])), (h_row, .inl (cB, 16384, .inl z_row)), (h_out, .inl (cB, 16384, .inl z_out))] s.heap.size = A at hD ⊢
  have hA : ∀ q : Nat, s.heap.size ≤ q → A q := fun q h => by rw [← hAe]; exact Or.inr h
  have hS : va_S A s.heap s.heap [] := va_S.rf
  have hl := lv_entry ([.ref h_t, .int a_p1, .int a_p2]) (n := 4) (Nat.le_of_ble_eq_true rfl)
  rw [lg_entry_eq]
  generalize (lg_sl ([.ref h_t, .int a_p1, .int a_p2]) ++ List.replicate (4 - (lg_sl ([.ref h_t, .int a_p1, .int a_p2])).length) Slot.unset).toArray = ls at hl ⊢
  have hl : lv_has ls 4 [(0, .ref h_t), (1, .int a_p1), (2, .int a_p2)] := hl
  show W p l e rm_MD_tell s m _ below meth c s.heap [] 0 0 _ _
  have hP : va_P (dC, dI) classes [(h_t, .inr (8, [.int z_thrown, .ref h_tape, .ref h_row, .ref h_out, .ref h_sought, .int z_size, .int z_outSize, .int z_soughtSize, .int z_documents, .int z_indexed, .int z_suffixes, .int z_rows, .ref h_start, .ref h_documentOf, .ref h_order, .ref h_rankOf, .ref h_same, .ref h_work, .ref h_next, .ref h_often, .ref h_has, .int z_lesser])), (h_row, .inl (cB, 16384, .inl z_row)), (h_out, .inl (cB, 16384, .inl z_out))] s.heap := hP
  obtain ⟨H, hHe⟩ : ∃ H, H = s.heap := ⟨_, rfl⟩
  have hS : va_S A s.heap H [] := by rw [hHe]; exact hS
  rw [← hHe] at hP
  suffices hgoal : W p l e rm_MD_tell s m ([.ref h_t, .int a_p1, .int a_p2] : List Value).toArray below meth c H [] 0 0 (MQ below (va_Qv (fun u : Int32 × (Nat → Int32) => post u.1 u.2) (fun u t => cAft (dC, dI) classes (TYS cI cJ cB cZ) A [(h_t, .inr (8, [.int z_thrown, .ref h_tape, .ref h_row, .ref h_out, .ref h_sought, .int z_size, .int u.1, .int z_soughtSize, .int z_documents, .int z_indexed, .int z_suffixes, .int z_rows, .ref h_start, .ref h_documentOf, .ref h_order, .ref h_rankOf, .ref h_same, .ref h_work, .ref h_next, .ref h_often, .ref h_has, .int z_lesser])), (h_row, .inl (cB, 16384, .inl z_row)), (h_out, .inl (cB, 16384, .inl u.2))] t) A) ([.ref h_t, .int a_p1, .int a_p2] : List Value).toArray s 0 0 A) (F0 m 0 ls []) by rw [hHe] at hgoal; exact hgoal
  refine lv_iconst (v := 0) hx hb d_MD_tell_0 (by decide) ?_
  refine lv_istore_n (lv' := [(3, .int 0), (0, .ref h_t), (1, .int a_p1), (2, .int a_p2)]) hx hb d_MD_tell_1 rfl hl (by decide) rfl (fun ls hl => ?_)
  obtain ⟨j, hv⟩ := hv
  exact wk_MD_tell_2 F hr hlk hK hA j 0 z_outSize z_out hv _ _ _ hP hD hS (lv_sub hl [1, 2, 3, 0] rfl)

set_option maxHeartbeats 4000000 in
set_option maxRecDepth 100000 in
theorem wk_MD_near_149 {p : Program} {l : Launch} {e : Env} {s : State} {m : MethodId} {below : List Frame} {meth : Method} {c : Code} {A : Nat → Prop} {dC : Nat → ClassId} {dI : Nat → Nat → Nat} {cI cJ cB cZ : ClassId} {h_t : Nat} {h_tape : Nat} {h_row : Nat} {h_out : Nat} {h_sought : Nat} {h_start : Nat} {h_documentOf : Nat} {h_order : Nat} {h_rankOf : Nat} {h_same : Nat} {h_work : Nat} {h_next : Nat} {h_often : Nat} {h_has : Nat} {a_p1 : Int32} {z_soughtSize : Int32} {z_suffixes : Int32} {z_row : Nat → Int32} {z_sought : Nat → Int32} {z_start : Nat → Int32} {z_documentOf : Nat → Int32} {z_size : Int32} {z_documents : Int32} {z_indexed : Int32} {z_rows : Int32} {z_lesser : Int32} {post : Int32 → Int32 → Int32 → (Nat → Int32) → Prop} {K56 : Int32 → Int32 → Int32 → Int32 → Int32 → (Nat → Int32) → Prop} (F : CallFix p m c b_MD_near 7 s ([.ref h_t, .int a_p1] : List Value).toArray WT "SuffixIndexModel") (hr : meth.sig.returnType = (some .int)) (hlk : meth.locks = false) (hK : va_K (dC, dI) classes (TYS cI cJ cB cZ) s) (hA : ∀ q, s.heap.size ≤ q → A q) (hK56 : ∀ (x2 : Int32) (x3 : Int32) (x4 : Int32) (z_thrown : Int32) (z_outSize : Int32) (z_out : Nat → Int32), K56 x2 x3 x4 z_thrown z_outSize z_out → ∀ (H : Heap) (locs : List Loc) (ls : Array Slot), va_P (dC, dI) classes [(h_t, .inr (8, [.int z_thrown, .ref h_tape, .ref h_row, .ref h_out, .ref h_sought, .int z_size, .int z_outSize, .int z_soughtSize, .int z_documents, .int z_indexed, .int z_suffixes, .int z_rows, .ref h_start, .ref h_documentOf, .ref h_order, .ref h_rankOf, .ref h_same, .ref h_work, .ref h_next, .ref h_often, .ref h_has, .int z_lesser])), (h_row, .inl (cB, 16384, .inl z_row)), (h_out, .inl (cB, 16384, .inl z_out)), (h_sought, .inl (cB, 200, .inl z_sought)), (h_start, .inl (cI, 66, .inl z_start)), (h_documentOf, .inl (cI, 16384, .inl z_documentOf))] H → va_D A [(h_t, .inr (8, [.int z_thrown, .ref h_tape, .ref h_row, .ref h_out, .ref h_sought, .int z_size, .int z_outSize, .int z_soughtSize, .int z_documents, .int z_indexed, .int z_suffixes, .int z_rows, .ref h_start, .ref h_documentOf, .ref h_order, .ref h_rankOf, .ref h_same, .ref h_work, .ref h_next, .ref h_often, .ref h_has, .int z_lesser])), (h_row, .inl (cB, 16384, .inl z_row)), (h_out, .inl (cB, 16384, .inl z_out)), (h_sought, .inl (cB, 200, .inl z_sought)), (h_start, .inl (cI, 66, .inl z_start)), (h_documentOf, .inl (cI, 16384, .inl z_documentOf))] → va_S A s.heap H locs → lv_has ls 7 [(0, .ref h_t), (1, .int a_p1), (2, .int x2), (3, .int x3), (4, .int x4)] → W p l e rm_MD_near s m ([.ref h_t, .int a_p1] : List Value).toArray below meth c H locs 0 0 (MQ below (va_Qi (fun (r : Int32) (u : Int32 × Int32 × (Nat → Int32)) => post r u.1 u.2.1 u.2.2) (fun u t => cAft (dC, dI) classes (TYS cI cJ cB cZ) A [(h_t, .inr (8, [.int u.1, .ref h_tape, .ref h_row, .ref h_out, .ref h_sought, .int z_size, .int u.2.1, .int z_soughtSize, .int z_documents, .int z_indexed, .int z_suffixes, .int z_rows, .ref h_start, .ref h_documentOf, .ref h_order, .ref h_rankOf, .ref h_same, .ref h_work, .ref h_next, .ref h_often, .ref h_has, .int z_lesser])), (h_row, .inl (cB, 16384, .inl z_row)), (h_out, .inl (cB, 16384, .inl u.2.2)), (h_sought, .inl (cB, 200, .inl z_sought)), (h_start, .inl (cI, 66, .inl z_start)), (h_documentOf, .inl (cI, 16384, .inl z_documentOf))] t) A) ([.ref h_t, .int a_p1] : List Value).toArray s 0 0 A) (F0 m 56 ls [])) : ∀ (x2 : Int32) (x3 : Int32) (x4 : Int32) (z_thrown : Int32) (z_outSize : Int32) (z_out : Nat → Int32), vc_MD_near_149 a_p1 z_soughtSize z_suffixes z_row z_sought z_start z_documentOf post K56 x2 x3 x4 z_thrown z_outSize z_out → ∀ (H : Heap) (locs : List Loc) (ls : Array Slot), va_P (dC, dI) classes [(h_t, .inr (8, [.int z_thrown, .ref h_tape, .ref h_row, .ref h_out, .ref h_sought, .int z_size, .int z_outSize, .int z_soughtSize, .int z_documents, .int z_indexed, .int z_suffixes, .int z_rows, .ref h_start, .ref h_documentOf, .ref h_order, .ref h_rankOf, .ref h_same, .ref h_work, .ref h_next, .ref h_often, .ref h_has, .int z_lesser])), (h_row, .inl (cB, 16384, .inl z_row)), (h_out, .inl (cB, 16384, .inl z_out)), (h_sought, .inl (cB, 200, .inl z_sought)), (h_start, .inl (cI, 66, .inl z_start)), (h_documentOf, .inl (cI, 16384, .inl z_documentOf))] H → va_D A [(h_t, .inr (8, [.int z_thrown, .ref h_tape, .ref h_row, .ref h_out, .ref h_sought, .int z_size, .int z_outSize, .int z_soughtSize, .int z_documents, .int z_indexed, .int z_suffixes, .int z_rows, .ref h_start, .ref h_documentOf, .ref h_order, .ref h_rankOf, .ref h_same, .ref h_work, .ref h_next, .ref h_often, .ref h_has, .int z_lesser])), (h_row, .inl (cB, 16384, .inl z_row)), (h_out, .inl (cB, 16384, .inl z_out)), (h_sought, .inl (cB, 200, .inl z_sought)), (h_start, .inl (cI, 66, .inl z_start)), (h_documentOf, .inl (cI, 16384, .inl z_documentOf))] → va_S A s.heap H locs → lv_has ls 7 [(0, .ref h_t), (1, .int a_p1), (2, .int x2), (3, .int x3), (4, .int x4)] → W p l e rm_MD_near s m ([.ref h_t, .int a_p1] : List Value).toArray below meth c H locs 0 0 (MQ below (va_Qi (fun (r : Int32) (u : Int32 × Int32 × (Nat → Int32)) => post r u.1 u.2.1 u.2.2) (fun u t => cAft (dC, dI) classes (TYS cI cJ cB cZ) A [(h_t, .inr (8, [.int u.1, .ref h_tape, .ref h_row, .ref h_out, .ref h_sought, .int z_size, .int u.2.1, .int z_soughtSize, .int z_documents, .int z_indexed, .int z_suffixes, .int z_rows, .ref h_start, .ref h_documentOf, .ref h_order, .ref h_rankOf, .ref h_same, .ref h_work, .ref h_next, .ref h_often, .ref h_has, .int z_lesser])), (h_row, .inl (cB, 16384, .inl z_row)), (h_out, .inl (cB, 16384, .inl u.2.2)), (h_sought, .inl (cB, 200, .inl z_sought)), (h_start, .inl (cI, 66, .inl z_start)), (h_documentOf, .inl (cI, 16384, .inl z_documentOf))] t) A) ([.ref h_t, .int a_p1] : List Value).toArray s 0 0 A) (F0 m 149 ls []) := by
  obtain ⟨hx, hb, hml, hown, hw⟩ := id F
  intro x2 x3 x4 z_thrown z_outSize z_out hv H locs ls hP hD hS hl
  refine lv_iinc (v := x4 + 1) (lv' := [(4, .int (x4 + 1)), (0, .ref h_t), (1, .int a_p1), (2, .int x2), (3, .int x3)]) hx hb d_MD_near_149 hl (k := 4) rfl (iinc_v (by decide)) (by decide) rfl (fun ls hl => ?_)
  refine lv_goto (tgt := 56) hx hb d_MD_near_152 (by decide) ?_
  exact hK56 x2 x3 (x4 + 1) z_thrown z_outSize z_out hv _ _ _ hP hD hS (lv_sub hl [1, 2, 3, 4, 0] rfl)

set_option maxHeartbeats 4000000 in
set_option maxRecDepth 100000 in
theorem wk_MD_near_134 {p : Program} {l : Launch} {e : Env} {s : State} {m : MethodId} {below : List Frame} {meth : Method} {c : Code} {A : Nat → Prop} {dC : Nat → ClassId} {dI : Nat → Nat → Nat} {cI cJ cB cZ : ClassId} {h_t : Nat} {h_tape : Nat} {h_row : Nat} {h_out : Nat} {h_sought : Nat} {h_start : Nat} {h_documentOf : Nat} {h_order : Nat} {h_rankOf : Nat} {h_same : Nat} {h_work : Nat} {h_next : Nat} {h_often : Nat} {h_has : Nat} {a_p1 : Int32} {z_soughtSize : Int32} {z_suffixes : Int32} {z_row : Nat → Int32} {z_sought : Nat → Int32} {z_start : Nat → Int32} {z_documentOf : Nat → Int32} {z_size : Int32} {z_documents : Int32} {z_indexed : Int32} {z_rows : Int32} {z_lesser : Int32} {post : Int32 → Int32 → Int32 → (Nat → Int32) → Prop} {K56 : Int32 → Int32 → Int32 → Int32 → Int32 → (Nat → Int32) → Prop} (F : CallFix p m c b_MD_near 7 s ([.ref h_t, .int a_p1] : List Value).toArray WT "SuffixIndexModel") (hr : meth.sig.returnType = (some .int)) (hlk : meth.locks = false) (hK : va_K (dC, dI) classes (TYS cI cJ cB cZ) s) (hA : ∀ q, s.heap.size ≤ q → A q) (hK56 : ∀ (x2 : Int32) (x3 : Int32) (x4 : Int32) (z_thrown : Int32) (z_outSize : Int32) (z_out : Nat → Int32), K56 x2 x3 x4 z_thrown z_outSize z_out → ∀ (H : Heap) (locs : List Loc) (ls : Array Slot), va_P (dC, dI) classes [(h_t, .inr (8, [.int z_thrown, .ref h_tape, .ref h_row, .ref h_out, .ref h_sought, .int z_size, .int z_outSize, .int z_soughtSize, .int z_documents, .int z_indexed, .int z_suffixes, .int z_rows, .ref h_start, .ref h_documentOf, .ref h_order, .ref h_rankOf, .ref h_same, .ref h_work, .ref h_next, .ref h_often, .ref h_has, .int z_lesser])), (h_row, .inl (cB, 16384, .inl z_row)), (h_out, .inl (cB, 16384, .inl z_out)), (h_sought, .inl (cB, 200, .inl z_sought)), (h_start, .inl (cI, 66, .inl z_start)), (h_documentOf, .inl (cI, 16384, .inl z_documentOf))] H → va_D A [(h_t, .inr (8, [.int z_thrown, .ref h_tape, .ref h_row, .ref h_out, .ref h_sought, .int z_size, .int z_outSize, .int z_soughtSize, .int z_documents, .int z_indexed, .int z_suffixes, .int z_rows, .ref h_start, .ref h_documentOf, .ref h_order, .ref h_rankOf, .ref h_same, .ref h_work, .ref h_next, .ref h_often, .ref h_has, .int z_lesser])), (h_row, .inl (cB, 16384, .inl z_row)), (h_out, .inl (cB, 16384, .inl z_out)), (h_sought, .inl (cB, 200, .inl z_sought)), (h_start, .inl (cI, 66, .inl z_start)), (h_documentOf, .inl (cI, 16384, .inl z_documentOf))] → va_S A s.heap H locs → lv_has ls 7 [(0, .ref h_t), (1, .int a_p1), (2, .int x2), (3, .int x3), (4, .int x4)] → W p l e rm_MD_near s m ([.ref h_t, .int a_p1] : List Value).toArray below meth c H locs 0 0 (MQ below (va_Qi (fun (r : Int32) (u : Int32 × Int32 × (Nat → Int32)) => post r u.1 u.2.1 u.2.2) (fun u t => cAft (dC, dI) classes (TYS cI cJ cB cZ) A [(h_t, .inr (8, [.int u.1, .ref h_tape, .ref h_row, .ref h_out, .ref h_sought, .int z_size, .int u.2.1, .int z_soughtSize, .int z_documents, .int z_indexed, .int z_suffixes, .int z_rows, .ref h_start, .ref h_documentOf, .ref h_order, .ref h_rankOf, .ref h_same, .ref h_work, .ref h_next, .ref h_often, .ref h_has, .int z_lesser])), (h_row, .inl (cB, 16384, .inl z_row)), (h_out, .inl (cB, 16384, .inl u.2.2)), (h_sought, .inl (cB, 200, .inl z_sought)), (h_start, .inl (cI, 66, .inl z_start)), (h_documentOf, .inl (cI, 16384, .inl z_documentOf))] t) A) ([.ref h_t, .int a_p1] : List Value).toArray s 0 0 A) (F0 m 56 ls [])) : ∀ (x2 : Int32) (x3 : Int32) (x4 : Int32) (x5 : Int32) (z_thrown : Int32) (z_outSize : Int32) (z_out : Nat → Int32), vc_MD_near_134 a_p1 z_soughtSize z_suffixes z_row z_sought z_start z_documentOf post K56 x2 x3 x4 x5 z_thrown z_outSize z_out → ∀ (H : Heap) (locs : List Loc) (ls : Array Slot), va_P (dC, dI) classes [(h_t, .inr (8, [.int z_thrown, .ref h_tape, .ref h_row, .ref h_out, .ref h_sought, .int z_size, .int z_outSize, .int z_soughtSize, .int z_documents, .int z_indexed, .int z_suffixes, .int z_rows, .ref h_start, .ref h_documentOf, .ref h_order, .ref h_rankOf, .ref h_same, .ref h_work, .ref h_next, .ref h_often, .ref h_has, .int z_lesser])), (h_row, .inl (cB, 16384, .inl z_row)), (h_out, .inl (cB, 16384, .inl z_out)), (h_sought, .inl (cB, 200, .inl z_sought)), (h_start, .inl (cI, 66, .inl z_start)), (h_documentOf, .inl (cI, 16384, .inl z_documentOf))] H → va_D A [(h_t, .inr (8, [.int z_thrown, .ref h_tape, .ref h_row, .ref h_out, .ref h_sought, .int z_size, .int z_outSize, .int z_soughtSize, .int z_documents, .int z_indexed, .int z_suffixes, .int z_rows, .ref h_start, .ref h_documentOf, .ref h_order, .ref h_rankOf, .ref h_same, .ref h_work, .ref h_next, .ref h_often, .ref h_has, .int z_lesser])), (h_row, .inl (cB, 16384, .inl z_row)), (h_out, .inl (cB, 16384, .inl z_out)), (h_sought, .inl (cB, 200, .inl z_sought)), (h_start, .inl (cI, 66, .inl z_start)), (h_documentOf, .inl (cI, 16384, .inl z_documentOf))] → va_S A s.heap H locs → lv_has ls 7 [(0, .ref h_t), (1, .int a_p1), (2, .int x2), (3, .int x3), (4, .int x4), (5, .int x5)] → W p l e rm_MD_near s m ([.ref h_t, .int a_p1] : List Value).toArray below meth c H locs 0 0 (MQ below (va_Qi (fun (r : Int32) (u : Int32 × Int32 × (Nat → Int32)) => post r u.1 u.2.1 u.2.2) (fun u t => cAft (dC, dI) classes (TYS cI cJ cB cZ) A [(h_t, .inr (8, [.int u.1, .ref h_tape, .ref h_row, .ref h_out, .ref h_sought, .int z_size, .int u.2.1, .int z_soughtSize, .int z_documents, .int z_indexed, .int z_suffixes, .int z_rows, .ref h_start, .ref h_documentOf, .ref h_order, .ref h_rankOf, .ref h_same, .ref h_work, .ref h_next, .ref h_often, .ref h_has, .int z_lesser])), (h_row, .inl (cB, 16384, .inl z_row)), (h_out, .inl (cB, 16384, .inl u.2.2)), (h_sought, .inl (cB, 200, .inl z_sought)), (h_start, .inl (cI, 66, .inl z_start)), (h_documentOf, .inl (cI, 16384, .inl z_documentOf))] t) A) ([.ref h_t, .int a_p1] : List Value).toArray s 0 0 A) (F0 m 134 ls []) := by
  obtain ⟨hx, hb, hml, hown, hw⟩ := id F
  intro x2 x3 x4 x5 z_thrown z_outSize z_out hv H locs ls hP hD hS hl
  refine lv_iload hx hb d_MD_near_134 (lv_at hl 5 rfl) ?_
  refine lv_iload_n hx hb d_MD_near_136 rfl (lv_at hl 1 rfl) ?_
  obtain ⟨hvt, hvf⟩ := hv
  refine lv_icmp_le (tgt := 143) hx hb d_MD_near_137 (by decide) (fun c1 => ?_) (fun c1 => ?_)
  · have hv := hvt c1
    refine lv_iinc (v := x2 + 1) (lv' := [(2, .int (x2 + 1)), (0, .ref h_t), (1, .int a_p1), (3, .int x3), (4, .int x4), (5, .int x5)]) hx hb d_MD_near_143 hl (k := 2) rfl (iinc_v (by decide)) (by decide) rfl (fun ls hl => ?_)
    refine lv_iload hx hb d_MD_near_146 (lv_at hl 4 rfl) ?_
    refine lv_istore_n (lv' := [(3, .int x4), (2, .int (x2 + 1)), (0, .ref h_t), (1, .int a_p1), (4, .int x4), (5, .int x5)]) hx hb d_MD_near_148 rfl hl (by decide) rfl (fun ls hl => ?_)
    exact wk_MD_near_149 F hr hlk hK hA hK56 (x2 + 1) x4 x4 z_thrown z_outSize z_out hv _ _ _ hP hD hS (lv_sub hl [2, 3, 1, 0, 4] rfl)
  · have hv := hvf c1
    refine lv_goto (tgt := 149) hx hb d_MD_near_140 (by decide) ?_
    exact wk_MD_near_149 F hr hlk hK hA hK56 x2 x3 x4 z_thrown z_outSize z_out hv _ _ _ hP hD hS (lv_sub hl [0, 1, 2, 3, 4] rfl)

set_option maxHeartbeats 4000000 in
set_option maxRecDepth 100000 in
theorem wk_MD_near_128 {p : Program} {l : Launch} {e : Env} {s : State} {m : MethodId} {below : List Frame} {meth : Method} {c : Code} {A : Nat → Prop} {dC : Nat → ClassId} {dI : Nat → Nat → Nat} {cI cJ cB cZ : ClassId} {h_t : Nat} {h_tape : Nat} {h_row : Nat} {h_out : Nat} {h_sought : Nat} {h_start : Nat} {h_documentOf : Nat} {h_order : Nat} {h_rankOf : Nat} {h_same : Nat} {h_work : Nat} {h_next : Nat} {h_often : Nat} {h_has : Nat} {a_p1 : Int32} {z_soughtSize : Int32} {z_suffixes : Int32} {z_row : Nat → Int32} {z_sought : Nat → Int32} {z_start : Nat → Int32} {z_documentOf : Nat → Int32} {z_size : Int32} {z_documents : Int32} {z_indexed : Int32} {z_rows : Int32} {z_lesser : Int32} {post : Int32 → Int32 → Int32 → (Nat → Int32) → Prop} {K90 : Int32 → Int32 → Int32 → Int32 → Int32 → Int32 → Int32 → (Nat → Int32) → Prop} (F : CallFix p m c b_MD_near 7 s ([.ref h_t, .int a_p1] : List Value).toArray WT "SuffixIndexModel") (hr : meth.sig.returnType = (some .int)) (hlk : meth.locks = false) (hK : va_K (dC, dI) classes (TYS cI cJ cB cZ) s) (hA : ∀ q, s.heap.size ≤ q → A q) (hK90 : ∀ (x2 : Int32) (x3 : Int32) (x4 : Int32) (x5 : Int32) (x6 : Int32) (z_thrown : Int32) (z_outSize : Int32) (z_out : Nat → Int32), K90 x2 x3 x4 x5 x6 z_thrown z_outSize z_out → ∀ (H : Heap) (locs : List Loc) (ls : Array Slot), va_P (dC, dI) classes [(h_t, .inr (8, [.int z_thrown, .ref h_tape, .ref h_row, .ref h_out, .ref h_sought, .int z_size, .int z_outSize, .int z_soughtSize, .int z_documents, .int z_indexed, .int z_suffixes, .int z_rows, .ref h_start, .ref h_documentOf, .ref h_order, .ref h_rankOf, .ref h_same, .ref h_work, .ref h_next, .ref h_often, .ref h_has, .int z_lesser])), (h_row, .inl (cB, 16384, .inl z_row)), (h_out, .inl (cB, 16384, .inl z_out)), (h_sought, .inl (cB, 200, .inl z_sought)), (h_start, .inl (cI, 66, .inl z_start)), (h_documentOf, .inl (cI, 16384, .inl z_documentOf))] H → va_D A [(h_t, .inr (8, [.int z_thrown, .ref h_tape, .ref h_row, .ref h_out, .ref h_sought, .int z_size, .int z_outSize, .int z_soughtSize, .int z_documents, .int z_indexed, .int z_suffixes, .int z_rows, .ref h_start, .ref h_documentOf, .ref h_order, .ref h_rankOf, .ref h_same, .ref h_work, .ref h_next, .ref h_often, .ref h_has, .int z_lesser])), (h_row, .inl (cB, 16384, .inl z_row)), (h_out, .inl (cB, 16384, .inl z_out)), (h_sought, .inl (cB, 200, .inl z_sought)), (h_start, .inl (cI, 66, .inl z_start)), (h_documentOf, .inl (cI, 16384, .inl z_documentOf))] → va_S A s.heap H locs → lv_has ls 7 [(0, .ref h_t), (1, .int a_p1), (2, .int x2), (3, .int x3), (4, .int x4), (5, .int x5), (6, .int x6)] → W p l e rm_MD_near s m ([.ref h_t, .int a_p1] : List Value).toArray below meth c H locs 0 0 (MQ below (va_Qi (fun (r : Int32) (u : Int32 × Int32 × (Nat → Int32)) => post r u.1 u.2.1 u.2.2) (fun u t => cAft (dC, dI) classes (TYS cI cJ cB cZ) A [(h_t, .inr (8, [.int u.1, .ref h_tape, .ref h_row, .ref h_out, .ref h_sought, .int z_size, .int u.2.1, .int z_soughtSize, .int z_documents, .int z_indexed, .int z_suffixes, .int z_rows, .ref h_start, .ref h_documentOf, .ref h_order, .ref h_rankOf, .ref h_same, .ref h_work, .ref h_next, .ref h_often, .ref h_has, .int z_lesser])), (h_row, .inl (cB, 16384, .inl z_row)), (h_out, .inl (cB, 16384, .inl u.2.2)), (h_sought, .inl (cB, 200, .inl z_sought)), (h_start, .inl (cI, 66, .inl z_start)), (h_documentOf, .inl (cI, 16384, .inl z_documentOf))] t) A) ([.ref h_t, .int a_p1] : List Value).toArray s 0 0 A) (F0 m 90 ls [])) : ∀ (x2 : Int32) (x3 : Int32) (x4 : Int32) (x5 : Int32) (x6 : Int32) (z_thrown : Int32) (z_outSize : Int32) (z_out : Nat → Int32), vc_MD_near_128 a_p1 z_soughtSize z_suffixes z_row z_sought z_start z_documentOf post K90 x2 x3 x4 x5 x6 z_thrown z_outSize z_out → ∀ (H : Heap) (locs : List Loc) (ls : Array Slot), va_P (dC, dI) classes [(h_t, .inr (8, [.int z_thrown, .ref h_tape, .ref h_row, .ref h_out, .ref h_sought, .int z_size, .int z_outSize, .int z_soughtSize, .int z_documents, .int z_indexed, .int z_suffixes, .int z_rows, .ref h_start, .ref h_documentOf, .ref h_order, .ref h_rankOf, .ref h_same, .ref h_work, .ref h_next, .ref h_often, .ref h_has, .int z_lesser])), (h_row, .inl (cB, 16384, .inl z_row)), (h_out, .inl (cB, 16384, .inl z_out)), (h_sought, .inl (cB, 200, .inl z_sought)), (h_start, .inl (cI, 66, .inl z_start)), (h_documentOf, .inl (cI, 16384, .inl z_documentOf))] H → va_D A [(h_t, .inr (8, [.int z_thrown, .ref h_tape, .ref h_row, .ref h_out, .ref h_sought, .int z_size, .int z_outSize, .int z_soughtSize, .int z_documents, .int z_indexed, .int z_suffixes, .int z_rows, .ref h_start, .ref h_documentOf, .ref h_order, .ref h_rankOf, .ref h_same, .ref h_work, .ref h_next, .ref h_often, .ref h_has, .int z_lesser])), (h_row, .inl (cB, 16384, .inl z_row)), (h_out, .inl (cB, 16384, .inl z_out)), (h_sought, .inl (cB, 200, .inl z_sought)), (h_start, .inl (cI, 66, .inl z_start)), (h_documentOf, .inl (cI, 16384, .inl z_documentOf))] → va_S A s.heap H locs → lv_has ls 7 [(0, .ref h_t), (1, .int a_p1), (2, .int x2), (3, .int x3), (4, .int x4), (5, .int x5), (6, .int x6)] → W p l e rm_MD_near s m ([.ref h_t, .int a_p1] : List Value).toArray below meth c H locs 0 0 (MQ below (va_Qi (fun (r : Int32) (u : Int32 × Int32 × (Nat → Int32)) => post r u.1 u.2.1 u.2.2) (fun u t => cAft (dC, dI) classes (TYS cI cJ cB cZ) A [(h_t, .inr (8, [.int u.1, .ref h_tape, .ref h_row, .ref h_out, .ref h_sought, .int z_size, .int u.2.1, .int z_soughtSize, .int z_documents, .int z_indexed, .int z_suffixes, .int z_rows, .ref h_start, .ref h_documentOf, .ref h_order, .ref h_rankOf, .ref h_same, .ref h_work, .ref h_next, .ref h_often, .ref h_has, .int z_lesser])), (h_row, .inl (cB, 16384, .inl z_row)), (h_out, .inl (cB, 16384, .inl u.2.2)), (h_sought, .inl (cB, 200, .inl z_sought)), (h_start, .inl (cI, 66, .inl z_start)), (h_documentOf, .inl (cI, 16384, .inl z_documentOf))] t) A) ([.ref h_t, .int a_p1] : List Value).toArray s 0 0 A) (F0 m 128 ls []) := by
  obtain ⟨hx, hb, hml, hown, hw⟩ := id F
  intro x2 x3 x4 x5 x6 z_thrown z_outSize z_out hv H locs ls hP hD hS hl
  refine lv_iinc (v := x6 + 1) (lv' := [(6, .int (x6 + 1)), (0, .ref h_t), (1, .int a_p1), (2, .int x2), (3, .int x3), (4, .int x4), (5, .int x5)]) hx hb d_MD_near_128 hl (k := 6) rfl (iinc_v (by decide)) (by decide) rfl (fun ls hl => ?_)
  refine lv_goto (tgt := 90) hx hb d_MD_near_131 (by decide) ?_
  exact hK90 x2 x3 x4 x5 (x6 + 1) z_thrown z_outSize z_out hv _ _ _ hP hD hS (lv_sub hl [1, 2, 3, 4, 5, 6, 0] rfl)

set_option maxHeartbeats 4000000 in
set_option maxRecDepth 100000 in
theorem wk_MD_near_90 {p : Program} {l : Launch} {e : Env} {s : State} {m : MethodId} {below : List Frame} {meth : Method} {c : Code} {A : Nat → Prop} {dC : Nat → ClassId} {dI : Nat → Nat → Nat} {cI cJ cB cZ : ClassId} {h_t : Nat} {h_tape : Nat} {h_row : Nat} {h_out : Nat} {h_sought : Nat} {h_start : Nat} {h_documentOf : Nat} {h_order : Nat} {h_rankOf : Nat} {h_same : Nat} {h_work : Nat} {h_next : Nat} {h_often : Nat} {h_has : Nat} {a_p1 : Int32} {z_soughtSize : Int32} {z_suffixes : Int32} {z_row : Nat → Int32} {z_sought : Nat → Int32} {z_start : Nat → Int32} {z_documentOf : Nat → Int32} {z_size : Int32} {z_documents : Int32} {z_indexed : Int32} {z_rows : Int32} {z_lesser : Int32} {post : Int32 → Int32 → Int32 → (Nat → Int32) → Prop} {K56 : Int32 → Int32 → Int32 → Int32 → Int32 → (Nat → Int32) → Prop} (F : CallFix p m c b_MD_near 7 s ([.ref h_t, .int a_p1] : List Value).toArray WT "SuffixIndexModel") (hr : meth.sig.returnType = (some .int)) (hlk : meth.locks = false) (hK : va_K (dC, dI) classes (TYS cI cJ cB cZ) s) (hA : ∀ q, s.heap.size ≤ q → A q) (hK56 : ∀ (x2 : Int32) (x3 : Int32) (x4 : Int32) (z_thrown : Int32) (z_outSize : Int32) (z_out : Nat → Int32), K56 x2 x3 x4 z_thrown z_outSize z_out → ∀ (H : Heap) (locs : List Loc) (ls : Array Slot), va_P (dC, dI) classes [(h_t, .inr (8, [.int z_thrown, .ref h_tape, .ref h_row, .ref h_out, .ref h_sought, .int z_size, .int z_outSize, .int z_soughtSize, .int z_documents, .int z_indexed, .int z_suffixes, .int z_rows, .ref h_start, .ref h_documentOf, .ref h_order, .ref h_rankOf, .ref h_same, .ref h_work, .ref h_next, .ref h_often, .ref h_has, .int z_lesser])), (h_row, .inl (cB, 16384, .inl z_row)), (h_out, .inl (cB, 16384, .inl z_out)), (h_sought, .inl (cB, 200, .inl z_sought)), (h_start, .inl (cI, 66, .inl z_start)), (h_documentOf, .inl (cI, 16384, .inl z_documentOf))] H → va_D A [(h_t, .inr (8, [.int z_thrown, .ref h_tape, .ref h_row, .ref h_out, .ref h_sought, .int z_size, .int z_outSize, .int z_soughtSize, .int z_documents, .int z_indexed, .int z_suffixes, .int z_rows, .ref h_start, .ref h_documentOf, .ref h_order, .ref h_rankOf, .ref h_same, .ref h_work, .ref h_next, .ref h_often, .ref h_has, .int z_lesser])), (h_row, .inl (cB, 16384, .inl z_row)), (h_out, .inl (cB, 16384, .inl z_out)), (h_sought, .inl (cB, 200, .inl z_sought)), (h_start, .inl (cI, 66, .inl z_start)), (h_documentOf, .inl (cI, 16384, .inl z_documentOf))] → va_S A s.heap H locs → lv_has ls 7 [(0, .ref h_t), (1, .int a_p1), (2, .int x2), (3, .int x3), (4, .int x4)] → W p l e rm_MD_near s m ([.ref h_t, .int a_p1] : List Value).toArray below meth c H locs 0 0 (MQ below (va_Qi (fun (r : Int32) (u : Int32 × Int32 × (Nat → Int32)) => post r u.1 u.2.1 u.2.2) (fun u t => cAft (dC, dI) classes (TYS cI cJ cB cZ) A [(h_t, .inr (8, [.int u.1, .ref h_tape, .ref h_row, .ref h_out, .ref h_sought, .int z_size, .int u.2.1, .int z_soughtSize, .int z_documents, .int z_indexed, .int z_suffixes, .int z_rows, .ref h_start, .ref h_documentOf, .ref h_order, .ref h_rankOf, .ref h_same, .ref h_work, .ref h_next, .ref h_often, .ref h_has, .int z_lesser])), (h_row, .inl (cB, 16384, .inl z_row)), (h_out, .inl (cB, 16384, .inl u.2.2)), (h_sought, .inl (cB, 200, .inl z_sought)), (h_start, .inl (cI, 66, .inl z_start)), (h_documentOf, .inl (cI, 16384, .inl z_documentOf))] t) A) ([.ref h_t, .int a_p1] : List Value).toArray s 0 0 A) (F0 m 56 ls [])) : ∀ (k : Nat) (x2 : Int32) (x3 : Int32) (x4 : Int32) (x5 : Int32) (x6 : Int32) (z_thrown : Int32) (z_outSize : Int32) (z_out : Nat → Int32), vc_MD_near_90 a_p1 z_soughtSize z_suffixes z_row z_sought z_start z_documentOf post K56 k x2 x3 x4 x5 x6 z_thrown z_outSize z_out → ∀ (H : Heap) (locs : List Loc) (ls : Array Slot), va_P (dC, dI) classes [(h_t, .inr (8, [.int z_thrown, .ref h_tape, .ref h_row, .ref h_out, .ref h_sought, .int z_size, .int z_outSize, .int z_soughtSize, .int z_documents, .int z_indexed, .int z_suffixes, .int z_rows, .ref h_start, .ref h_documentOf, .ref h_order, .ref h_rankOf, .ref h_same, .ref h_work, .ref h_next, .ref h_often, .ref h_has, .int z_lesser])), (h_row, .inl (cB, 16384, .inl z_row)), (h_out, .inl (cB, 16384, .inl z_out)), (h_sought, .inl (cB, 200, .inl z_sought)), (h_start, .inl (cI, 66, .inl z_start)), (h_documentOf, .inl (cI, 16384, .inl z_documentOf))] H → va_D A [(h_t, .inr (8, [.int z_thrown, .ref h_tape, .ref h_row, .ref h_out, .ref h_sought, .int z_size, .int z_outSize, .int z_soughtSize, .int z_documents, .int z_indexed, .int z_suffixes, .int z_rows, .ref h_start, .ref h_documentOf, .ref h_order, .ref h_rankOf, .ref h_same, .ref h_work, .ref h_next, .ref h_often, .ref h_has, .int z_lesser])), (h_row, .inl (cB, 16384, .inl z_row)), (h_out, .inl (cB, 16384, .inl z_out)), (h_sought, .inl (cB, 200, .inl z_sought)), (h_start, .inl (cI, 66, .inl z_start)), (h_documentOf, .inl (cI, 16384, .inl z_documentOf))] → va_S A s.heap H locs → lv_has ls 7 [(0, .ref h_t), (1, .int a_p1), (2, .int x2), (3, .int x3), (4, .int x4), (5, .int x5), (6, .int x6)] → W p l e rm_MD_near s m ([.ref h_t, .int a_p1] : List Value).toArray below meth c H locs 0 0 (MQ below (va_Qi (fun (r : Int32) (u : Int32 × Int32 × (Nat → Int32)) => post r u.1 u.2.1 u.2.2) (fun u t => cAft (dC, dI) classes (TYS cI cJ cB cZ) A [(h_t, .inr (8, [.int u.1, .ref h_tape, .ref h_row, .ref h_out, .ref h_sought, .int z_size, .int u.2.1, .int z_soughtSize, .int z_documents, .int z_indexed, .int z_suffixes, .int z_rows, .ref h_start, .ref h_documentOf, .ref h_order, .ref h_rankOf, .ref h_same, .ref h_work, .ref h_next, .ref h_often, .ref h_has, .int z_lesser])), (h_row, .inl (cB, 16384, .inl z_row)), (h_out, .inl (cB, 16384, .inl u.2.2)), (h_sought, .inl (cB, 200, .inl z_sought)), (h_start, .inl (cI, 66, .inl z_start)), (h_documentOf, .inl (cI, 16384, .inl z_documentOf))] t) A) ([.ref h_t, .int a_p1] : List Value).toArray s 0 0 A) (F0 m 90 ls []) := by
  obtain ⟨hx, hb, hml, hown, hw⟩ := id F
  intro k
  induction k with
  | zero =>
    intro x2 x3 x4 x5 x6 z_thrown z_outSize z_out hv
    exact False.elim hv
  | succ k ih =>
    intro x2 x3 x4 x5 x6 z_thrown z_outSize z_out hv H locs ls hP hD hS hl
    refine lv_iload hx hb d_MD_near_90 (lv_at hl 6 rfl) ?_
    refine lv_aload_n hx hb d_MD_near_92 rfl (lv_at hl 0 rfl) ?_
    refine va_get (D := (dC, dI)) (ci := 8) (v := .int z_soughtSize) (C := "SuffixIndexModel") (T := F_MD) (N := 22) hx hb hw i_MD hown hK hP 0 rfl rfl 7 (by decide) (hw _ m_1108) (fun _ h9 => h9) rfl d_MD_near_93 ?_
    obtain ⟨hvt, hvf⟩ := hv
    refine lv_icmp_ge (tgt := 134) hx hb d_MD_near_96 (by decide) (fun c2 => ?_) (fun c2 => ?_)
    · have hv := hvt c2
      exact wk_MD_near_134 F hr hlk hK hA hK56 x2 x3 x4 x5 z_thrown z_outSize z_out hv _ _ _ hP hD hS (lv_sub hl [0, 1, 2, 3, 4, 5] rfl)
    · have hv := hvf c2
      refine lv_iload hx hb d_MD_near_99 (lv_at hl 5 rfl) ?_
      refine lv_iload_n hx hb d_MD_near_101 rfl (lv_at hl 1 rfl) ?_
      obtain ⟨hvt, hvf⟩ := hv
      refine lv_icmp_gt (tgt := 134) hx hb d_MD_near_102 (by decide) (fun c3 => ?_) (fun c3 => ?_)
      · have hv := hvt c3
        exact wk_MD_near_134 F hr hlk hK hA hK56 x2 x3 x4 x5 z_thrown z_outSize z_out hv _ _ _ hP hD hS (lv_sub hl [0, 1, 2, 3, 4, 5] rfl)
      · have hv := hvf c3
        refine lv_aload_n hx hb d_MD_near_105 rfl (lv_at hl 0 rfl) ?_
        refine va_get (D := (dC, dI)) (ci := 8) (v := .ref h_row) (C := "SuffixIndexModel") (T := F_MD) (N := 22) hx hb hw i_MD hown hK hP 0 rfl rfl 2 (by decide) (hw _ m_1103) (fun _ h9 => h9) rfl d_MD_near_106 ?_
        refine lv_iload hx hb d_MD_near_109 (lv_at hl 4 rfl) ?_
        refine lv_iload hx hb d_MD_near_111 (lv_at hl 6 rfl) ?_
        refine lv_iadd hx hb d_MD_near_113 ?_
        obtain ⟨hin, hv⟩ := hv
        refine va_bald hx hb hK hP 1 2 rfl rfl hin d_MD_near_114 ?_
        refine lv_aload_n hx hb d_MD_near_115 rfl (lv_at hl 0 rfl) ?_
        refine va_get (D := (dC, dI)) (ci := 8) (v := .ref h_sought) (C := "SuffixIndexModel") (T := F_MD) (N := 22) hx hb hw i_MD hown hK hP 0 rfl rfl 4 (by decide) (hw _ m_1105) (fun _ h9 => h9) rfl d_MD_near_116 ?_
        refine lv_iload hx hb d_MD_near_119 (lv_at hl 6 rfl) ?_
        obtain ⟨hin, hv⟩ := hv
        refine va_bald hx hb hK hP 3 2 rfl rfl hin d_MD_near_121 ?_
        obtain ⟨hvt, hvf⟩ := hv
        refine lv_icmp_eq (tgt := 128) hx hb d_MD_near_122 (by decide) (fun c4 => ?_) (fun c4 => ?_)
        · have hv := hvt c4
          exact wk_MD_near_128 F hr hlk hK hA ih x2 x3 x4 x5 x6 z_thrown z_outSize z_out hv _ _ _ hP hD hS (lv_sub hl [0, 1, 2, 3, 4, 5, 6] rfl)
        · have hv := hvf c4
          refine lv_iinc (v := x5 + 1) (lv' := [(5, .int (x5 + 1)), (0, .ref h_t), (1, .int a_p1), (2, .int x2), (3, .int x3), (4, .int x4), (6, .int x6)]) hx hb d_MD_near_125 hl (k := 5) rfl (iinc_v (by decide)) (by decide) rfl (fun ls hl => ?_)
          exact wk_MD_near_128 F hr hlk hK hA ih x2 x3 x4 (x5 + 1) x6 z_thrown z_outSize z_out hv _ _ _ hP hD hS (lv_sub hl [1, 2, 3, 4, 5, 0, 6] rfl)

set_option maxHeartbeats 4000000 in
set_option maxRecDepth 100000 in
theorem wk_MD_near_56 {p : Program} {l : Launch} {e : Env} {s : State} {m : MethodId} {below : List Frame} {meth : Method} {c : Code} {A : Nat → Prop} {dC : Nat → ClassId} {dI : Nat → Nat → Nat} {cI cJ cB cZ : ClassId} {h_t : Nat} {h_tape : Nat} {h_row : Nat} {h_out : Nat} {h_sought : Nat} {h_start : Nat} {h_documentOf : Nat} {h_order : Nat} {h_rankOf : Nat} {h_same : Nat} {h_work : Nat} {h_next : Nat} {h_often : Nat} {h_has : Nat} {a_p1 : Int32} {z_soughtSize : Int32} {z_suffixes : Int32} {z_row : Nat → Int32} {z_sought : Nat → Int32} {z_start : Nat → Int32} {z_documentOf : Nat → Int32} {z_size : Int32} {z_documents : Int32} {z_indexed : Int32} {z_rows : Int32} {z_lesser : Int32} {post : Int32 → Int32 → Int32 → (Nat → Int32) → Prop} (F : CallFix p m c b_MD_near 7 s ([.ref h_t, .int a_p1] : List Value).toArray WT "SuffixIndexModel") (hr : meth.sig.returnType = (some .int)) (hlk : meth.locks = false) (hK : va_K (dC, dI) classes (TYS cI cJ cB cZ) s) (hA : ∀ q, s.heap.size ≤ q → A q) : ∀ (k : Nat) (x2 : Int32) (x3 : Int32) (x4 : Int32) (z_thrown : Int32) (z_outSize : Int32) (z_out : Nat → Int32), vc_MD_near_56 a_p1 z_soughtSize z_suffixes z_row z_sought z_start z_documentOf post k x2 x3 x4 z_thrown z_outSize z_out → ∀ (H : Heap) (locs : List Loc) (ls : Array Slot), va_P (dC, dI) classes [(h_t, .inr (8, [.int z_thrown, .ref h_tape, .ref h_row, .ref h_out, .ref h_sought, .int z_size, .int z_outSize, .int z_soughtSize, .int z_documents, .int z_indexed, .int z_suffixes, .int z_rows, .ref h_start, .ref h_documentOf, .ref h_order, .ref h_rankOf, .ref h_same, .ref h_work, .ref h_next, .ref h_often, .ref h_has, .int z_lesser])), (h_row, .inl (cB, 16384, .inl z_row)), (h_out, .inl (cB, 16384, .inl z_out)), (h_sought, .inl (cB, 200, .inl z_sought)), (h_start, .inl (cI, 66, .inl z_start)), (h_documentOf, .inl (cI, 16384, .inl z_documentOf))] H → va_D A [(h_t, .inr (8, [.int z_thrown, .ref h_tape, .ref h_row, .ref h_out, .ref h_sought, .int z_size, .int z_outSize, .int z_soughtSize, .int z_documents, .int z_indexed, .int z_suffixes, .int z_rows, .ref h_start, .ref h_documentOf, .ref h_order, .ref h_rankOf, .ref h_same, .ref h_work, .ref h_next, .ref h_often, .ref h_has, .int z_lesser])), (h_row, .inl (cB, 16384, .inl z_row)), (h_out, .inl (cB, 16384, .inl z_out)), (h_sought, .inl (cB, 200, .inl z_sought)), (h_start, .inl (cI, 66, .inl z_start)), (h_documentOf, .inl (cI, 16384, .inl z_documentOf))] → va_S A s.heap H locs → lv_has ls 7 [(0, .ref h_t), (1, .int a_p1), (2, .int x2), (3, .int x3), (4, .int x4)] → W p l e rm_MD_near s m ([.ref h_t, .int a_p1] : List Value).toArray below meth c H locs 0 0 (MQ below (va_Qi (fun (r : Int32) (u : Int32 × Int32 × (Nat → Int32)) => post r u.1 u.2.1 u.2.2) (fun u t => cAft (dC, dI) classes (TYS cI cJ cB cZ) A [(h_t, .inr (8, [.int u.1, .ref h_tape, .ref h_row, .ref h_out, .ref h_sought, .int z_size, .int u.2.1, .int z_soughtSize, .int z_documents, .int z_indexed, .int z_suffixes, .int z_rows, .ref h_start, .ref h_documentOf, .ref h_order, .ref h_rankOf, .ref h_same, .ref h_work, .ref h_next, .ref h_often, .ref h_has, .int z_lesser])), (h_row, .inl (cB, 16384, .inl z_row)), (h_out, .inl (cB, 16384, .inl u.2.2)), (h_sought, .inl (cB, 200, .inl z_sought)), (h_start, .inl (cI, 66, .inl z_start)), (h_documentOf, .inl (cI, 16384, .inl z_documentOf))] t) A) ([.ref h_t, .int a_p1] : List Value).toArray s 0 0 A) (F0 m 56 ls []) := by
  obtain ⟨hx, hb, hml, hown, hw⟩ := id F
  intro k
  induction k with
  | zero =>
    intro x2 x3 x4 z_thrown z_outSize z_out hv
    exact False.elim hv
  | succ k ih =>
    intro x2 x3 x4 z_thrown z_outSize z_out hv H locs ls hP hD hS hl
    refine lv_iload hx hb d_MD_near_56 (lv_at hl 4 rfl) ?_
    refine lv_aload_n hx hb d_MD_near_58 rfl (lv_at hl 0 rfl) ?_
    refine va_get (D := (dC, dI)) (ci := 8) (v := .int z_suffixes) (C := "SuffixIndexModel") (T := F_MD) (N := 22) hx hb hw i_MD hown hK hP 0 rfl rfl 10 (by decide) (hw _ m_1111) (fun _ h9 => h9) rfl d_MD_near_59 ?_
    obtain ⟨hvt, hvf⟩ := hv
    refine lv_icmp_ge (tgt := 155) hx hb d_MD_near_62 (by decide) (fun c5 => ?_) (fun c5 => ?_)
    · have hv := hvt c5
      refine lv_iload_n hx hb d_MD_near_155 rfl (lv_at hl 3 rfl) ?_
      obtain ⟨hvt, hvf⟩ := hv
      refine lv_if_lt (tgt := 168) hx hb d_MD_near_156 (by decide) (fun c6 => ?_) (fun c6 => ?_)
      · have hv := hvt c6
        refine lv_iload_n hx hb d_MD_near_168 rfl (lv_at hl 2 rfl) ?_
        exact W.iret (v := x2) hx hb hr (fun t ht hW => ⟨⟨x2, (z_thrown, z_outSize, z_out), rfl, hv, by rw [ht]; exact hP, va_K.moved hW.alike hK, hD⟩, hS.F ht⟩) hS.2.2 d_MD_near_169
      · have hv := hvf c6
        refine lv_aload_n hx hb d_MD_near_159 rfl (lv_at hl 0 rfl) ?_
        refine lv_iload_n hx hb d_MD_near_160 rfl (lv_at hl 3 rfl) ?_
        refine lv_aload_n hx hb d_MD_near_161 rfl (lv_at hl 0 rfl) ?_
        refine va_get (D := (dC, dI)) (ci := 8) (v := .int z_soughtSize) (C := "SuffixIndexModel") (T := F_MD) (N := 22) hx hb hw i_MD hown hK hP 0 rfl rfl 7 (by decide) (hw _ m_1108) (fun _ h9 => h9) rfl d_MD_near_162 ?_
        refine cV_v (wr := [(h_sought, .inl (cB, 200, .inl z_sought)), (h_start, .inl (cI, 66, .inl z_start)), (h_documentOf, .inl (cI, 16384, .inl z_documentOf))]) (rest := []) (c_MD_tell l dC dI cI cJ cB cZ h_t h_tape h_row h_out h_sought h_start h_documentOf h_order h_rankOf h_same h_work h_next h_often h_has H.size z_thrown z_size z_outSize z_soughtSize z_documents z_indexed z_suffixes z_rows z_lesser z_row z_out x3 z_soughtSize _ hv) F (cw_V (fun _ h => h) 2 hw m_1242 m_1244 ms_37 m_9 m_1245 rfl rfl (by decide +kernel) ⟨by decide, by decide⟩) hK hP hD hS hA [0, 1, 2] [3, 4, 5] rfl rfl rfl rfl (by decide) 0 8 rfl rfl rfl hl.1 rfl (Nat.le_of_ble_eq_true rfl) d_MD_near_165 ⟨Nat.le_of_ble_eq_true rfl, Nat.le_of_ble_eq_true rfl⟩ (fun u H locs hv hP hD hS => ?_)
        obtain ⟨u7_0, u7_1⟩ := u
        have hP : va_P (dC, dI) classes [(h_t, .inr (8, [.int z_thrown, .ref h_tape, .ref h_row, .ref h_out, .ref h_sought, .int z_size, .int u7_0, .int z_soughtSize, .int z_documents, .int z_indexed, .int z_suffixes, .int z_rows, .ref h_start, .ref h_documentOf, .ref h_order, .ref h_rankOf, .ref h_same, .ref h_work, .ref h_next, .ref h_often, .ref h_has, .int z_lesser])), (h_row, .inl (cB, 16384, .inl z_row)), (h_out, .inl (cB, 16384, .inl u7_1)), (h_sought, .inl (cB, 200, .inl z_sought)), (h_start, .inl (cI, 66, .inl z_start)), (h_documentOf, .inl (cI, 16384, .inl z_documentOf))] H := P_sub hP [3, 4, 5, 0, 1, 2] rfl
        have hD : va_D A [(h_t, .inr (8, [.int z_thrown, .ref h_tape, .ref h_row, .ref h_out, .ref h_sought, .int z_size, .int u7_0, .int z_soughtSize, .int z_documents, .int z_indexed, .int z_suffixes, .int z_rows, .ref h_start, .ref h_documentOf, .ref h_order, .ref h_rankOf, .ref h_same, .ref h_work, .ref h_next, .ref h_often, .ref h_has, .int z_lesser])), (h_row, .inl (cB, 16384, .inl z_row)), (h_out, .inl (cB, 16384, .inl u7_1)), (h_sought, .inl (cB, 200, .inl z_sought)), (h_start, .inl (cI, 66, .inl z_start)), (h_documentOf, .inl (cI, 16384, .inl z_documentOf))] := hD.sub [3, 4, 5, 0, 1, 2] rfl rfl
        refine lv_iload_n hx hb d_MD_near_168 rfl (lv_at hl 2 rfl) ?_
        exact W.iret (v := x2) hx hb hr (fun t ht hW => ⟨⟨x2, (z_thrown, u7_0, u7_1), rfl, hv, by rw [ht]; exact hP, va_K.moved hW.alike hK, hD⟩, hS.F ht⟩) hS.2.2 d_MD_near_169
    · have hv := hvf c5
      refine lv_iload hx hb d_MD_near_65 (lv_at hl 4 rfl) ?_
      refine lv_aload_n hx hb d_MD_near_67 rfl (lv_at hl 0 rfl) ?_
      refine va_get (D := (dC, dI)) (ci := 8) (v := .int z_soughtSize) (C := "SuffixIndexModel") (T := F_MD) (N := 22) hx hb hw i_MD hown hK hP 0 rfl rfl 7 (by decide) (hw _ m_1108) (fun _ h9 => h9) rfl d_MD_near_68 ?_
      refine lv_iadd hx hb d_MD_near_71 ?_
      refine lv_aload_n hx hb d_MD_near_72 rfl (lv_at hl 0 rfl) ?_
      refine lv_iload hx hb d_MD_near_73 (lv_at hl 4 rfl) ?_
      refine cV_i (wr := [(h_row, .inl (cB, 16384, .inl z_row)), (h_out, .inl (cB, 16384, .inl z_out)), (h_sought, .inl (cB, 200, .inl z_sought))]) (rest := [.int (x4 + z_soughtSize)]) (c_MD_endOf l dC dI cI cJ cB cZ h_t h_tape h_row h_out h_sought h_start h_documentOf h_order h_rankOf h_same h_work h_next h_often h_has H.size z_thrown z_size z_outSize z_soughtSize z_documents z_indexed z_suffixes z_rows z_lesser z_start z_documentOf x4 _ hv) F (cw_V (fun _ h => h) 1 hw m_1209 m_1211 ms_33 m_9 m_1212 rfl rfl (by decide +kernel) ⟨by decide, by decide⟩) hK hP hD hS hA [0, 4, 5] [1, 2, 3] rfl rfl rfl rfl (by decide) 0 8 rfl rfl rfl hl.1 rfl (Nat.le_of_ble_eq_true rfl) d_MD_near_75 ⟨Nat.le_of_ble_eq_true rfl, Nat.le_of_ble_eq_true rfl⟩ (fun r8 u H locs hv hP hD hS => ?_)
      have hP : va_P (dC, dI) classes [(h_t, .inr (8, [.int z_thrown, .ref h_tape, .ref h_row, .ref h_out, .ref h_sought, .int z_size, .int z_outSize, .int z_soughtSize, .int z_documents, .int z_indexed, .int z_suffixes, .int z_rows, .ref h_start, .ref h_documentOf, .ref h_order, .ref h_rankOf, .ref h_same, .ref h_work, .ref h_next, .ref h_often, .ref h_has, .int z_lesser])), (h_row, .inl (cB, 16384, .inl z_row)), (h_out, .inl (cB, 16384, .inl z_out)), (h_sought, .inl (cB, 200, .inl z_sought)), (h_start, .inl (cI, 66, .inl z_start)), (h_documentOf, .inl (cI, 16384, .inl z_documentOf))] H := P_sub hP [3, 0, 1, 2, 4, 5] rfl
      have hD : va_D A [(h_t, .inr (8, [.int z_thrown, .ref h_tape, .ref h_row, .ref h_out, .ref h_sought, .int z_size, .int z_outSize, .int z_soughtSize, .int z_documents, .int z_indexed, .int z_suffixes, .int z_rows, .ref h_start, .ref h_documentOf, .ref h_order, .ref h_rankOf, .ref h_same, .ref h_work, .ref h_next, .ref h_often, .ref h_has, .int z_lesser])), (h_row, .inl (cB, 16384, .inl z_row)), (h_out, .inl (cB, 16384, .inl z_out)), (h_sought, .inl (cB, 200, .inl z_sought)), (h_start, .inl (cI, 66, .inl z_start)), (h_documentOf, .inl (cI, 16384, .inl z_documentOf))] := hD.sub [3, 0, 1, 2, 4, 5] rfl rfl
      obtain ⟨hvt, hvf⟩ := hv
      refine lv_icmp_le (tgt := 84) hx hb d_MD_near_78 (by decide) (fun c9 => ?_) (fun c9 => ?_)
      · have hv := hvt c9
        refine lv_iconst (v := 0) hx hb d_MD_near_84 (by decide) ?_
        refine lv_istore (lv' := [(5, .int 0), (0, .ref h_t), (1, .int a_p1), (2, .int x2), (3, .int x3), (4, .int x4)]) hx hb d_MD_near_85 hl (by decide) rfl (fun ls hl => ?_)
        refine lv_iconst (v := 0) hx hb d_MD_near_87 (by decide) ?_
        refine lv_istore (lv' := [(6, .int 0), (5, .int 0), (0, .ref h_t), (1, .int a_p1), (2, .int x2), (3, .int x3), (4, .int x4)]) hx hb d_MD_near_88 hl (by decide) rfl (fun ls hl => ?_)
        obtain ⟨j, hv⟩ := hv
        exact wk_MD_near_90 F hr hlk hK hA ih j x2 x3 x4 0 0 z_thrown z_outSize z_out hv _ _ _ hP hD hS (lv_sub hl [2, 3, 4, 5, 6, 1, 0] rfl)
      · have hv := hvf c9
        refine lv_goto (tgt := 149) hx hb d_MD_near_81 (by decide) ?_
        exact wk_MD_near_149 F hr hlk hK hA ih x2 x3 x4 z_thrown z_outSize z_out hv _ _ _ hP hD hS (lv_sub hl [0, 1, 2, 3, 4] rfl)

set_option maxHeartbeats 4000000 in
set_option maxRecDepth 100000 in
theorem wk_MD_near_41 {p : Program} {l : Launch} {e : Env} {s : State} {m : MethodId} {below : List Frame} {meth : Method} {c : Code} {A : Nat → Prop} {dC : Nat → ClassId} {dI : Nat → Nat → Nat} {cI cJ cB cZ : ClassId} {h_t : Nat} {h_tape : Nat} {h_row : Nat} {h_out : Nat} {h_sought : Nat} {h_start : Nat} {h_documentOf : Nat} {h_order : Nat} {h_rankOf : Nat} {h_same : Nat} {h_work : Nat} {h_next : Nat} {h_often : Nat} {h_has : Nat} {a_p1 : Int32} {z_soughtSize : Int32} {z_suffixes : Int32} {z_row : Nat → Int32} {z_sought : Nat → Int32} {z_start : Nat → Int32} {z_documentOf : Nat → Int32} {z_size : Int32} {z_documents : Int32} {z_indexed : Int32} {z_rows : Int32} {z_lesser : Int32} {post : Int32 → Int32 → Int32 → (Nat → Int32) → Prop} (F : CallFix p m c b_MD_near 7 s ([.ref h_t, .int a_p1] : List Value).toArray WT "SuffixIndexModel") (hr : meth.sig.returnType = (some .int)) (hlk : meth.locks = false) (hK : va_K (dC, dI) classes (TYS cI cJ cB cZ) s) (hA : ∀ q, s.heap.size ≤ q → A q) : ∀ (k1 : Int32) (k2 : Int32) (z_thrown : Int32) (z_outSize : Int32) (z_out : Nat → Int32), vc_MD_near_41 a_p1 z_soughtSize z_suffixes z_row z_sought z_start z_documentOf post k1 k2 z_thrown z_outSize z_out → ∀ (H : Heap) (locs : List Loc) (ls : Array Slot), va_P (dC, dI) classes [(h_t, .inr (8, [.int z_thrown, .ref h_tape, .ref h_row, .ref h_out, .ref h_sought, .int z_size, .int z_outSize, .int z_soughtSize, .int z_documents, .int z_indexed, .int z_suffixes, .int z_rows, .ref h_start, .ref h_documentOf, .ref h_order, .ref h_rankOf, .ref h_same, .ref h_work, .ref h_next, .ref h_often, .ref h_has, .int z_lesser])), (h_row, .inl (cB, 16384, .inl z_row)), (h_out, .inl (cB, 16384, .inl z_out)), (h_sought, .inl (cB, 200, .inl z_sought)), (h_start, .inl (cI, 66, .inl z_start)), (h_documentOf, .inl (cI, 16384, .inl z_documentOf))] H → va_D A [(h_t, .inr (8, [.int z_thrown, .ref h_tape, .ref h_row, .ref h_out, .ref h_sought, .int z_size, .int z_outSize, .int z_soughtSize, .int z_documents, .int z_indexed, .int z_suffixes, .int z_rows, .ref h_start, .ref h_documentOf, .ref h_order, .ref h_rankOf, .ref h_same, .ref h_work, .ref h_next, .ref h_often, .ref h_has, .int z_lesser])), (h_row, .inl (cB, 16384, .inl z_row)), (h_out, .inl (cB, 16384, .inl z_out)), (h_sought, .inl (cB, 200, .inl z_sought)), (h_start, .inl (cI, 66, .inl z_start)), (h_documentOf, .inl (cI, 16384, .inl z_documentOf))] → va_S A s.heap H locs → lv_has ls 7 [(0, .ref h_t), (1, .int a_p1)] → W p l e rm_MD_near s m ([.ref h_t, .int a_p1] : List Value).toArray below meth c H locs 0 0 (MQ below (va_Qi (fun (r : Int32) (u : Int32 × Int32 × (Nat → Int32)) => post r u.1 u.2.1 u.2.2) (fun u t => cAft (dC, dI) classes (TYS cI cJ cB cZ) A [(h_t, .inr (8, [.int u.1, .ref h_tape, .ref h_row, .ref h_out, .ref h_sought, .int z_size, .int u.2.1, .int z_soughtSize, .int z_documents, .int z_indexed, .int z_suffixes, .int z_rows, .ref h_start, .ref h_documentOf, .ref h_order, .ref h_rankOf, .ref h_same, .ref h_work, .ref h_next, .ref h_often, .ref h_has, .int z_lesser])), (h_row, .inl (cB, 16384, .inl z_row)), (h_out, .inl (cB, 16384, .inl u.2.2)), (h_sought, .inl (cB, 200, .inl z_sought)), (h_start, .inl (cI, 66, .inl z_start)), (h_documentOf, .inl (cI, 16384, .inl z_documentOf))] t) A) ([.ref h_t, .int a_p1] : List Value).toArray s 0 0 A) (F0 m 41 ls [.int k2, .int k1, .ref h_t]) := by
  obtain ⟨hx, hb, hml, hown, hw⟩ := id F
  intro k1 k2 z_thrown z_outSize z_out hv H locs ls hP hD hS hl
  refine cV_i (wr := [(h_row, .inl (cB, 16384, .inl z_row)), (h_out, .inl (cB, 16384, .inl z_out)), (h_sought, .inl (cB, 200, .inl z_sought)), (h_start, .inl (cI, 66, .inl z_start)), (h_documentOf, .inl (cI, 16384, .inl z_documentOf))]) (rest := []) (c_MD_refuse l dC dI cI cJ cB cZ h_t h_tape h_row h_out h_sought h_start h_documentOf h_order h_rankOf h_same h_work h_next h_often h_has H.size z_thrown z_size z_outSize z_soughtSize z_documents z_indexed z_suffixes z_rows z_lesser k1 k2 _ hv) F (cw_V (fun _ h => h) 2 hw m_1177 m_1179 ms_29 m_9 m_1180 rfl rfl (by decide +kernel) ⟨by decide, by decide⟩) hK hP hD hS hA [0] [1, 2, 3, 4, 5] rfl rfl rfl rfl (by decide) 0 8 rfl rfl rfl hl.1 rfl (Nat.le_of_ble_eq_true rfl) d_MD_near_41 ⟨Nat.le_of_ble_eq_true rfl, Nat.le_of_ble_eq_true rfl⟩ (fun r10 u H locs hv hP hD hS => ?_)
  obtain ⟨u10_0, rfl⟩ : ∃ z, z = u := ⟨_, rfl⟩
  have hP : va_P (dC, dI) classes [(h_t, .inr (8, [.int u10_0, .ref h_tape, .ref h_row, .ref h_out, .ref h_sought, .int z_size, .int z_outSize, .int z_soughtSize, .int z_documents, .int z_indexed, .int z_suffixes, .int z_rows, .ref h_start, .ref h_documentOf, .ref h_order, .ref h_rankOf, .ref h_same, .ref h_work, .ref h_next, .ref h_often, .ref h_has, .int z_lesser])), (h_row, .inl (cB, 16384, .inl z_row)), (h_out, .inl (cB, 16384, .inl z_out)), (h_sought, .inl (cB, 200, .inl z_sought)), (h_start, .inl (cI, 66, .inl z_start)), (h_documentOf, .inl (cI, 16384, .inl z_documentOf))] H := P_sub hP [5, 0, 1, 2, 3, 4] rfl
  have hD : va_D A [(h_t, .inr (8, [.int u10_0, .ref h_tape, .ref h_row, .ref h_out, .ref h_sought, .int z_size, .int z_outSize, .int z_soughtSize, .int z_documents, .int z_indexed, .int z_suffixes, .int z_rows, .ref h_start, .ref h_documentOf, .ref h_order, .ref h_rankOf, .ref h_same, .ref h_work, .ref h_next, .ref h_often, .ref h_has, .int z_lesser])), (h_row, .inl (cB, 16384, .inl z_row)), (h_out, .inl (cB, 16384, .inl z_out)), (h_sought, .inl (cB, 200, .inl z_sought)), (h_start, .inl (cI, 66, .inl z_start)), (h_documentOf, .inl (cI, 16384, .inl z_documentOf))] := hD.sub [5, 0, 1, 2, 3, 4] rfl rfl
  obtain ⟨hvt, hvf⟩ := hv
  refine lv_if_eq (tgt := 49) hx hb d_MD_near_44 (by decide) (fun c11 => ?_) (fun c11 => ?_)
  · have hv := hvt c11
    refine lv_iconst (v := 0) hx hb d_MD_near_49 (by decide) ?_
    refine lv_istore_n (lv' := [(2, .int 0), (0, .ref h_t), (1, .int a_p1)]) hx hb d_MD_near_50 rfl hl (by decide) rfl (fun ls hl => ?_)
    refine lv_iconst (v := (-1)) hx hb d_MD_near_51 (by decide) ?_
    refine lv_istore_n (lv' := [(3, .int (-1)), (2, .int 0), (0, .ref h_t), (1, .int a_p1)]) hx hb d_MD_near_52 rfl hl (by decide) rfl (fun ls hl => ?_)
    refine lv_iconst (v := 0) hx hb d_MD_near_53 (by decide) ?_
    refine lv_istore (lv' := [(4, .int 0), (3, .int (-1)), (2, .int 0), (0, .ref h_t), (1, .int a_p1)]) hx hb d_MD_near_54 hl (by decide) rfl (fun ls hl => ?_)
    obtain ⟨j, hv⟩ := hv
    exact wk_MD_near_56 F hr hlk hK hA j 0 (-1) 0 u10_0 z_outSize z_out hv _ _ _ hP hD hS (lv_sub hl [3, 4, 2, 1, 0] rfl)
  · have hv := hvf c11
    refine lv_iconst (v := 0) hx hb d_MD_near_47 (by decide) ?_
    exact W.iret (v := 0) hx hb hr (fun t ht hW => ⟨⟨0, (u10_0, z_outSize, z_out), rfl, hv, by rw [ht]; exact hP, va_K.moved hW.alike hK, hD⟩, hS.F ht⟩) hS.2.2 d_MD_near_48

set_option maxHeartbeats 4000000 in
set_option maxRecDepth 100000 in
theorem wk_MD_near_21 {p : Program} {l : Launch} {e : Env} {s : State} {m : MethodId} {below : List Frame} {meth : Method} {c : Code} {A : Nat → Prop} {dC : Nat → ClassId} {dI : Nat → Nat → Nat} {cI cJ cB cZ : ClassId} {h_t : Nat} {h_tape : Nat} {h_row : Nat} {h_out : Nat} {h_sought : Nat} {h_start : Nat} {h_documentOf : Nat} {h_order : Nat} {h_rankOf : Nat} {h_same : Nat} {h_work : Nat} {h_next : Nat} {h_often : Nat} {h_has : Nat} {a_p1 : Int32} {z_soughtSize : Int32} {z_suffixes : Int32} {z_row : Nat → Int32} {z_sought : Nat → Int32} {z_start : Nat → Int32} {z_documentOf : Nat → Int32} {z_size : Int32} {z_documents : Int32} {z_indexed : Int32} {z_rows : Int32} {z_lesser : Int32} {post : Int32 → Int32 → Int32 → (Nat → Int32) → Prop} (F : CallFix p m c b_MD_near 7 s ([.ref h_t, .int a_p1] : List Value).toArray WT "SuffixIndexModel") (hr : meth.sig.returnType = (some .int)) (hlk : meth.locks = false) (hK : va_K (dC, dI) classes (TYS cI cJ cB cZ) s) (hA : ∀ q, s.heap.size ≤ q → A q) : ∀ (k1 : Int32) (k2 : Int32) (z_thrown : Int32) (z_outSize : Int32) (z_out : Nat → Int32), vc_MD_near_21 a_p1 z_soughtSize z_suffixes z_row z_sought z_start z_documentOf post k1 k2 z_thrown z_outSize z_out → ∀ (H : Heap) (locs : List Loc) (ls : Array Slot), va_P (dC, dI) classes [(h_t, .inr (8, [.int z_thrown, .ref h_tape, .ref h_row, .ref h_out, .ref h_sought, .int z_size, .int z_outSize, .int z_soughtSize, .int z_documents, .int z_indexed, .int z_suffixes, .int z_rows, .ref h_start, .ref h_documentOf, .ref h_order, .ref h_rankOf, .ref h_same, .ref h_work, .ref h_next, .ref h_often, .ref h_has, .int z_lesser])), (h_row, .inl (cB, 16384, .inl z_row)), (h_out, .inl (cB, 16384, .inl z_out)), (h_sought, .inl (cB, 200, .inl z_sought)), (h_start, .inl (cI, 66, .inl z_start)), (h_documentOf, .inl (cI, 16384, .inl z_documentOf))] H → va_D A [(h_t, .inr (8, [.int z_thrown, .ref h_tape, .ref h_row, .ref h_out, .ref h_sought, .int z_size, .int z_outSize, .int z_soughtSize, .int z_documents, .int z_indexed, .int z_suffixes, .int z_rows, .ref h_start, .ref h_documentOf, .ref h_order, .ref h_rankOf, .ref h_same, .ref h_work, .ref h_next, .ref h_often, .ref h_has, .int z_lesser])), (h_row, .inl (cB, 16384, .inl z_row)), (h_out, .inl (cB, 16384, .inl z_out)), (h_sought, .inl (cB, 200, .inl z_sought)), (h_start, .inl (cI, 66, .inl z_start)), (h_documentOf, .inl (cI, 16384, .inl z_documentOf))] → va_S A s.heap H locs → lv_has ls 7 [(0, .ref h_t), (1, .int a_p1)] → W p l e rm_MD_near s m ([.ref h_t, .int a_p1] : List Value).toArray below meth c H locs 0 0 (MQ below (va_Qi (fun (r : Int32) (u : Int32 × Int32 × (Nat → Int32)) => post r u.1 u.2.1 u.2.2) (fun u t => cAft (dC, dI) classes (TYS cI cJ cB cZ) A [(h_t, .inr (8, [.int u.1, .ref h_tape, .ref h_row, .ref h_out, .ref h_sought, .int z_size, .int u.2.1, .int z_soughtSize, .int z_documents, .int z_indexed, .int z_suffixes, .int z_rows, .ref h_start, .ref h_documentOf, .ref h_order, .ref h_rankOf, .ref h_same, .ref h_work, .ref h_next, .ref h_often, .ref h_has, .int z_lesser])), (h_row, .inl (cB, 16384, .inl z_row)), (h_out, .inl (cB, 16384, .inl u.2.2)), (h_sought, .inl (cB, 200, .inl z_sought)), (h_start, .inl (cI, 66, .inl z_start)), (h_documentOf, .inl (cI, 16384, .inl z_documentOf))] t) A) ([.ref h_t, .int a_p1] : List Value).toArray s 0 0 A) (F0 m 21 ls [.int k2, .int k1, .ref h_t]) := by
  obtain ⟨hx, hb, hml, hown, hw⟩ := id F
  intro k1 k2 z_thrown z_outSize z_out hv H locs ls hP hD hS hl
  refine cV_i (wr := [(h_row, .inl (cB, 16384, .inl z_row)), (h_out, .inl (cB, 16384, .inl z_out)), (h_sought, .inl (cB, 200, .inl z_sought)), (h_start, .inl (cI, 66, .inl z_start)), (h_documentOf, .inl (cI, 16384, .inl z_documentOf))]) (rest := []) (c_MD_refuse l dC dI cI cJ cB cZ h_t h_tape h_row h_out h_sought h_start h_documentOf h_order h_rankOf h_same h_work h_next h_often h_has H.size z_thrown z_size z_outSize z_soughtSize z_documents z_indexed z_suffixes z_rows z_lesser k1 k2 _ hv) F (cw_V (fun _ h => h) 2 hw m_1177 m_1179 ms_29 m_9 m_1180 rfl rfl (by decide +kernel) ⟨by decide, by decide⟩) hK hP hD hS hA [0] [1, 2, 3, 4, 5] rfl rfl rfl rfl (by decide) 0 8 rfl rfl rfl hl.1 rfl (Nat.le_of_ble_eq_true rfl) d_MD_near_21 ⟨Nat.le_of_ble_eq_true rfl, Nat.le_of_ble_eq_true rfl⟩ (fun r12 u H locs hv hP hD hS => ?_)
  obtain ⟨u12_0, rfl⟩ : ∃ z, z = u := ⟨_, rfl⟩
  have hP : va_P (dC, dI) classes [(h_t, .inr (8, [.int u12_0, .ref h_tape, .ref h_row, .ref h_out, .ref h_sought, .int z_size, .int z_outSize, .int z_soughtSize, .int z_documents, .int z_indexed, .int z_suffixes, .int z_rows, .ref h_start, .ref h_documentOf, .ref h_order, .ref h_rankOf, .ref h_same, .ref h_work, .ref h_next, .ref h_often, .ref h_has, .int z_lesser])), (h_row, .inl (cB, 16384, .inl z_row)), (h_out, .inl (cB, 16384, .inl z_out)), (h_sought, .inl (cB, 200, .inl z_sought)), (h_start, .inl (cI, 66, .inl z_start)), (h_documentOf, .inl (cI, 16384, .inl z_documentOf))] H := P_sub hP [5, 0, 1, 2, 3, 4] rfl
  have hD : va_D A [(h_t, .inr (8, [.int u12_0, .ref h_tape, .ref h_row, .ref h_out, .ref h_sought, .int z_size, .int z_outSize, .int z_soughtSize, .int z_documents, .int z_indexed, .int z_suffixes, .int z_rows, .ref h_start, .ref h_documentOf, .ref h_order, .ref h_rankOf, .ref h_same, .ref h_work, .ref h_next, .ref h_often, .ref h_has, .int z_lesser])), (h_row, .inl (cB, 16384, .inl z_row)), (h_out, .inl (cB, 16384, .inl z_out)), (h_sought, .inl (cB, 200, .inl z_sought)), (h_start, .inl (cI, 66, .inl z_start)), (h_documentOf, .inl (cI, 16384, .inl z_documentOf))] := hD.sub [5, 0, 1, 2, 3, 4] rfl rfl
  obtain ⟨hvt, hvf⟩ := hv
  refine lv_if_ne (tgt := 47) hx hb d_MD_near_24 (by decide) (fun c13 => ?_) (fun c13 => ?_)
  · have hv := hvt c13
    refine lv_iconst (v := 0) hx hb d_MD_near_47 (by decide) ?_
    exact W.iret (v := 0) hx hb hr (fun t ht hW => ⟨⟨0, (u12_0, z_outSize, z_out), rfl, hv, by rw [ht]; exact hP, va_K.moved hW.alike hK, hD⟩, hS.F ht⟩) hS.2.2 d_MD_near_48
  · have hv := hvf c13
    refine lv_aload_n hx hb d_MD_near_27 rfl (lv_at hl 0 rfl) ?_
    refine lv_iconst (v := 2) hx hb d_MD_near_28 (by decide) ?_
    refine lv_aload_n hx hb d_MD_near_29 rfl (lv_at hl 0 rfl) ?_
    refine va_get (D := (dC, dI)) (ci := 8) (v := .int z_soughtSize) (C := "SuffixIndexModel") (T := F_MD) (N := 22) hx hb hw i_MD hown hK hP 0 rfl rfl 7 (by decide) (hw _ m_1108) (fun _ h9 => h9) rfl d_MD_near_30 ?_
    obtain ⟨hvt, hvf⟩ := hv
    refine lv_if_ne (tgt := 40) hx hb d_MD_near_33 (by decide) (fun c14 => ?_) (fun c14 => ?_)
    · have hv := hvt c14
      refine lv_iconst (v := 0) hx hb d_MD_near_40 (by decide) ?_
      exact wk_MD_near_41 F hr hlk hK hA 2 0 u12_0 z_outSize z_out hv _ _ _ hP hD hS (lv_sub hl [0, 1] rfl)
    · have hv := hvf c14
      refine lv_iconst (v := 1) hx hb d_MD_near_36 (by decide) ?_
      refine lv_goto (tgt := 41) hx hb d_MD_near_37 (by decide) ?_
      exact wk_MD_near_41 F hr hlk hK hA 2 1 u12_0 z_outSize z_out hv _ _ _ hP hD hS (lv_sub hl [0, 1] rfl)

set_option maxHeartbeats 4000000 in
set_option maxRecDepth 100000 in
theorem wk_MD_near_16 {p : Program} {l : Launch} {e : Env} {s : State} {m : MethodId} {below : List Frame} {meth : Method} {c : Code} {A : Nat → Prop} {dC : Nat → ClassId} {dI : Nat → Nat → Nat} {cI cJ cB cZ : ClassId} {h_t : Nat} {h_tape : Nat} {h_row : Nat} {h_out : Nat} {h_sought : Nat} {h_start : Nat} {h_documentOf : Nat} {h_order : Nat} {h_rankOf : Nat} {h_same : Nat} {h_work : Nat} {h_next : Nat} {h_often : Nat} {h_has : Nat} {a_p1 : Int32} {z_soughtSize : Int32} {z_suffixes : Int32} {z_row : Nat → Int32} {z_sought : Nat → Int32} {z_start : Nat → Int32} {z_documentOf : Nat → Int32} {z_size : Int32} {z_documents : Int32} {z_indexed : Int32} {z_rows : Int32} {z_lesser : Int32} {post : Int32 → Int32 → Int32 → (Nat → Int32) → Prop} (F : CallFix p m c b_MD_near 7 s ([.ref h_t, .int a_p1] : List Value).toArray WT "SuffixIndexModel") (hr : meth.sig.returnType = (some .int)) (hlk : meth.locks = false) (hK : va_K (dC, dI) classes (TYS cI cJ cB cZ) s) (hA : ∀ q, s.heap.size ≤ q → A q) : ∀ (k1 : Int32) (z_thrown : Int32) (z_outSize : Int32) (z_out : Nat → Int32), vc_MD_near_16 a_p1 z_soughtSize z_suffixes z_row z_sought z_start z_documentOf post k1 z_thrown z_outSize z_out → ∀ (H : Heap) (locs : List Loc) (ls : Array Slot), va_P (dC, dI) classes [(h_t, .inr (8, [.int z_thrown, .ref h_tape, .ref h_row, .ref h_out, .ref h_sought, .int z_size, .int z_outSize, .int z_soughtSize, .int z_documents, .int z_indexed, .int z_suffixes, .int z_rows, .ref h_start, .ref h_documentOf, .ref h_order, .ref h_rankOf, .ref h_same, .ref h_work, .ref h_next, .ref h_often, .ref h_has, .int z_lesser])), (h_row, .inl (cB, 16384, .inl z_row)), (h_out, .inl (cB, 16384, .inl z_out)), (h_sought, .inl (cB, 200, .inl z_sought)), (h_start, .inl (cI, 66, .inl z_start)), (h_documentOf, .inl (cI, 16384, .inl z_documentOf))] H → va_D A [(h_t, .inr (8, [.int z_thrown, .ref h_tape, .ref h_row, .ref h_out, .ref h_sought, .int z_size, .int z_outSize, .int z_soughtSize, .int z_documents, .int z_indexed, .int z_suffixes, .int z_rows, .ref h_start, .ref h_documentOf, .ref h_order, .ref h_rankOf, .ref h_same, .ref h_work, .ref h_next, .ref h_often, .ref h_has, .int z_lesser])), (h_row, .inl (cB, 16384, .inl z_row)), (h_out, .inl (cB, 16384, .inl z_out)), (h_sought, .inl (cB, 200, .inl z_sought)), (h_start, .inl (cI, 66, .inl z_start)), (h_documentOf, .inl (cI, 16384, .inl z_documentOf))] → va_S A s.heap H locs → lv_has ls 7 [(0, .ref h_t), (1, .int a_p1)] → W p l e rm_MD_near s m ([.ref h_t, .int a_p1] : List Value).toArray below meth c H locs 0 0 (MQ below (va_Qi (fun (r : Int32) (u : Int32 × Int32 × (Nat → Int32)) => post r u.1 u.2.1 u.2.2) (fun u t => cAft (dC, dI) classes (TYS cI cJ cB cZ) A [(h_t, .inr (8, [.int u.1, .ref h_tape, .ref h_row, .ref h_out, .ref h_sought, .int z_size, .int u.2.1, .int z_soughtSize, .int z_documents, .int z_indexed, .int z_suffixes, .int z_rows, .ref h_start, .ref h_documentOf, .ref h_order, .ref h_rankOf, .ref h_same, .ref h_work, .ref h_next, .ref h_often, .ref h_has, .int z_lesser])), (h_row, .inl (cB, 16384, .inl z_row)), (h_out, .inl (cB, 16384, .inl u.2.2)), (h_sought, .inl (cB, 200, .inl z_sought)), (h_start, .inl (cI, 66, .inl z_start)), (h_documentOf, .inl (cI, 16384, .inl z_documentOf))] t) A) ([.ref h_t, .int a_p1] : List Value).toArray s 0 0 A) (F0 m 16 ls [.int k1, .ref h_t]) := by
  obtain ⟨hx, hb, hml, hown, hw⟩ := id F
  intro k1 z_thrown z_outSize z_out hv H locs ls hP hD hS hl
  refine lv_iconst (v := 1) hx hb d_MD_near_16 (by decide) ?_
  refine lv_goto (tgt := 21) hx hb d_MD_near_17 (by decide) ?_
  exact wk_MD_near_21 F hr hlk hK hA k1 1 z_thrown z_outSize z_out hv _ _ _ hP hD hS (lv_sub hl [0, 1] rfl)

set_option maxHeartbeats 4000000 in
set_option maxRecDepth 100000 in
theorem c_MD_near (l : Launch) (dC : Nat → ClassId) (dI : Nat → Nat → Nat) (cI cJ cB cZ : ClassId) (h_t : Nat) (h_tape : Nat) (h_row : Nat) (h_out : Nat) (h_sought : Nat) (h_start : Nat) (h_documentOf : Nat) (h_order : Nat) (h_rankOf : Nat) (h_same : Nat) (h_work : Nat) (h_next : Nat) (h_often : Nat) (h_has : Nat) (sz : Nat) (z_thrown : Int32) (z_size : Int32) (z_outSize : Int32) (z_soughtSize : Int32) (z_documents : Int32) (z_indexed : Int32) (z_suffixes : Int32) (z_rows : Int32) (z_lesser : Int32) (z_row : Nat → Int32) (z_out : Nat → Int32) (z_sought : Nat → Int32) (z_start : Nat → Int32) (z_documentOf : Nat → Int32) (a_p1 : Int32) (post : Int32 → Int32 → Int32 → (Nat → Int32) → Prop) (hv : vc_MD_near a_p1 z_soughtSize z_suffixes z_row z_sought z_start z_documentOf post z_thrown z_outSize z_out) : Met l y_MD_near (Cond.code y_MD_near b_MD_near 7 (some .int) :: WT) rm_MD_near (cPre (dC, dI) classes (TYS cI cJ cB cZ) [(h_t, .inr (8, [.int z_thrown, .ref h_tape, .ref h_row, .ref h_out, .ref h_sought, .int z_size, .int z_outSize, .int z_soughtSize, .int z_documents, .int z_indexed, .int z_suffixes, .int z_rows, .ref h_start, .ref h_documentOf, .ref h_order, .ref h_rankOf, .ref h_same, .ref h_work, .ref h_next, .ref h_often, .ref h_has, .int z_lesser])), (h_row, .inl (cB, 16384, .inl z_row)), (h_out, .inl (cB, 16384, .inl z_out)), (h_sought, .inl (cB, 200, .inl z_sought)), (h_start, .inl (cI, 66, .inl z_start)), (h_documentOf, .inl (cI, 16384, .inl z_documentOf))] sz [.ref h_t, .int a_p1]) (va_Qi (fun (r : Int32) (u : Int32 × Int32 × (Nat → Int32)) => post r u.1 u.2.1 u.2.2) (fun u t => cAft (dC, dI) classes (TYS cI cJ cB cZ) (va_A [(h_t, .inr (8, [.int z_thrown, .ref h_tape, .ref h_row, .ref h_out, .ref h_sought, .int z_size, .int z_outSize, .int z_soughtSize, .int z_documents, .int z_indexed, .int z_suffixes, .int z_rows, .ref h_start, .ref h_documentOf, .ref h_order, .ref h_rankOf, .ref h_same, .ref h_work, .ref h_next, .ref h_often, .ref h_has, .int z_lesser])), (h_row, .inl (cB, 16384, .inl z_row)), (h_out, .inl (cB, 16384, .inl z_out)), (h_sought, .inl (cB, 200, .inl z_sought)), (h_start, .inl (cI, 66, .inl z_start)), (h_documentOf, .inl (cI, 16384, .inl z_documentOf))] sz) [(h_t, .inr (8, [.int u.1, .ref h_tape, .ref h_row, .ref h_out, .ref h_sought, .int z_size, .int u.2.1, .int z_soughtSize, .int z_documents, .int z_indexed, .int z_suffixes, .int z_rows, .ref h_start, .ref h_documentOf, .ref h_order, .ref h_rankOf, .ref h_same, .ref h_work, .ref h_next, .ref h_often, .ref h_has, .int z_lesser])), (h_row, .inl (cB, 16384, .inl z_row)), (h_out, .inl (cB, 16384, .inl u.2.2)), (h_sought, .inl (cB, 200, .inl z_sought)), (h_start, .inl (cI, 66, .inl z_start)), (h_documentOf, .inl (cI, 16384, .inl z_documentOf))] t) (va_A [(h_t, .inr (8, [.int z_thrown, .ref h_tape, .ref h_row, .ref h_out, .ref h_sought, .int z_size, .int z_outSize, .int z_soughtSize, .int z_documents, .int z_indexed, .int z_suffixes, .int z_rows, .ref h_start, .ref h_documentOf, .ref h_order, .ref h_rankOf, .ref h_same, .ref h_work, .ref h_next, .ref h_often, .ref h_has, .int z_lesser])), (h_row, .inl (cB, 16384, .inl z_row)), (h_out, .inl (cB, 16384, .inl z_out)), (h_sought, .inl (cB, 200, .inl z_sought)), (h_start, .inl (cI, 66, .inl z_start)), (h_documentOf, .inl (cI, 16384, .inl z_documentOf))] sz)) 0 0 (va_A [(h_t, .inr (8, [.int z_thrown, .ref h_tape, .ref h_row, .ref h_out, .ref h_sought, .int z_size, .int z_outSize, .int z_soughtSize, .int z_documents, .int z_indexed, .int z_suffixes, .int z_rows, .ref h_start, .ref h_documentOf, .ref h_order, .ref h_rankOf, .ref h_same, .ref h_work, .ref h_next, .ref h_often, .ref h_has, .int z_lesser])), (h_row, .inl (cB, 16384, .inl z_row)), (h_out, .inl (cB, 16384, .inl z_out)), (h_sought, .inl (cB, 200, .inl z_sought)), (h_start, .inl (cI, 66, .inl z_start)), (h_documentOf, .inl (cI, 16384, .inl z_documentOf))] sz) := by
  refine Met.ofW (cc := b_MD_near) (maxL := 7) (ret := (some .int)) (by decide) rfl ?_
  intro p e s m args below meth c s₁ B hml hq
  obtain ⟨rfl, hsz, hP, hK, hD0⟩ := hq
  have hts := atoms_spec (ws := Cond.code y_MD_near b_MD_near 7 (some .int) :: WT) B.pre
  have hw : ∀ w ∈ WT, w.before ([.ref h_t, .int a_p1] : List Value).toArray s = true := fun w h => hts w (List.mem_cons_of_mem _ h)
  have hx := B.exec
  have hb := B.bytes
  have hr := B.returns
  have hlk := B.notSynchronized
  have hown : s.vm.findClass "SuffixIndexModel" = some m.cls := findClass_of_methodNamed B.named
  have F : CallFix p m c b_MD_near 7 s ([.ref h_t, .int a_p1] : List Value).toArray WT "SuffixIndexModel" := ⟨hx, hb, hml, hown, hw⟩
  subst hsz
  have hD := hD0.self (sz := s.heap.size)
  generalize hAe : va_A [(h_t, .inr (8, [.int z_thrown, .ref h_tape, .ref h_row, .ref h_out, .ref h_sought, .int z_size, .int z_outSize, .int z_soughtSize, .int z_documents, .int z_indexed, .int z_suffixes, .int z_rows, .ref h_start, .ref h_documentOf, .ref h_order, .ref h_rankOf, .ref h_same, .ref h_work, .ref h_next, .ref h_often, .ref h_has, .int z_lesser])), (h_row, .inl (cB, 16384, .inl z_row)), (h_out, .inl (cB, 16384, .inl z_out)), (h_sought, .inl (cB, 200, .inl z_sought)), (h_start, .inl (cI, 66, .inl z_start)), (h_documentOf, .inl (cI, 16384, .inl z_documentOf))] s.heap.size = A at hD ⊢
  have hA : ∀ q : Nat, s.heap.size ≤ q → A q := fun q h => by rw [← hAe]; exact Or.inr h
  have hS : va_S A s.heap s.heap [] := va_S.rf
  have hl := lv_entry ([.ref h_t, .int a_p1]) (n := 7) (Nat.le_of_ble_eq_true rfl)
  rw [lg_entry_eq]
  generalize (lg_sl ([.ref h_t, .int a_p1]) ++ List.replicate (7 - (lg_sl ([.ref h_t, .int a_p1])).length) Slot.unset).toArray = ls at hl ⊢
  have hl : lv_has ls 7 [(0, .ref h_t), (1, .int a_p1)] := hl
  show W p l e rm_MD_near s m _ below meth c s.heap [] 0 0 _ _
  have hP : va_P (dC, dI) classes [(h_t, .inr (8, [.int z_thrown, .ref h_tape, .ref h_row, .ref h_out, .ref h_sought, .int z_size, .int z_outSize, .int z_soughtSize, .int z_documents, .int z_indexed, .int z_suffixes, .int z_rows, .ref h_start, .ref h_documentOf, .ref h_order, .ref h_rankOf, .ref h_same, .ref h_work, .ref h_next, .ref h_often, .ref h_has, .int z_lesser])), (h_row, .inl (cB, 16384, .inl z_row)), (h_out, .inl (cB, 16384, .inl z_out)), (h_sought, .inl (cB, 200, .inl z_sought)), (h_start, .inl (cI, 66, .inl z_start)), (h_documentOf, .inl (cI, 16384, .inl z_documentOf))] s.heap := hP
  obtain ⟨H, hHe⟩ : ∃ H, H = s.heap := ⟨_, rfl⟩
  have hS : va_S A s.heap H [] := by rw [hHe]; exact hS
  rw [← hHe] at hP
  suffices hgoal : W p l e rm_MD_near s m ([.ref h_t, .int a_p1] : List Value).toArray below meth c H [] 0 0 (MQ below (va_Qi (fun (r : Int32) (u : Int32 × Int32 × (Nat → Int32)) => post r u.1 u.2.1 u.2.2) (fun u t => cAft (dC, dI) classes (TYS cI cJ cB cZ) A [(h_t, .inr (8, [.int u.1, .ref h_tape, .ref h_row, .ref h_out, .ref h_sought, .int z_size, .int u.2.1, .int z_soughtSize, .int z_documents, .int z_indexed, .int z_suffixes, .int z_rows, .ref h_start, .ref h_documentOf, .ref h_order, .ref h_rankOf, .ref h_same, .ref h_work, .ref h_next, .ref h_often, .ref h_has, .int z_lesser])), (h_row, .inl (cB, 16384, .inl z_row)), (h_out, .inl (cB, 16384, .inl u.2.2)), (h_sought, .inl (cB, 200, .inl z_sought)), (h_start, .inl (cI, 66, .inl z_start)), (h_documentOf, .inl (cI, 16384, .inl z_documentOf))] t) A) ([.ref h_t, .int a_p1] : List Value).toArray s 0 0 A) (F0 m 0 ls []) by rw [hHe] at hgoal; exact hgoal
  refine lv_aload_n hx hb d_MD_near_0 rfl (lv_at hl 0 rfl) ?_
  refine lv_iconst (v := 0) hx hb d_MD_near_1 (by decide) ?_
  refine va_put (D := (dC, dI)) (ci := 8) (v := .int 0) (ty := .int) (C := "SuffixIndexModel") (T := F_MD) (N := 22) hx hb hw i_MD t_MD t_MD_ok n_MD hown hK hP hD hS 0 rfl rfl 0 (by decide) (hw _ m_1101) (fun _ h9 => h9) rfl (by decide +kernel) rfl rfl (Nat.le_of_ble_eq_true rfl) d_MD_near_2 (fun H locs hP hD hS => ?_)
  have hP : va_P (dC, dI) classes [(h_t, .inr (8, [.int 0, .ref h_tape, .ref h_row, .ref h_out, .ref h_sought, .int z_size, .int z_outSize, .int z_soughtSize, .int z_documents, .int z_indexed, .int z_suffixes, .int z_rows, .ref h_start, .ref h_documentOf, .ref h_order, .ref h_rankOf, .ref h_same, .ref h_work, .ref h_next, .ref h_often, .ref h_has, .int z_lesser])), (h_row, .inl (cB, 16384, .inl z_row)), (h_out, .inl (cB, 16384, .inl z_out)), (h_sought, .inl (cB, 200, .inl z_sought)), (h_start, .inl (cI, 66, .inl z_start)), (h_documentOf, .inl (cI, 16384, .inl z_documentOf))] H := hP
  have hD : va_D A [(h_t, .inr (8, [.int 0, .ref h_tape, .ref h_row, .ref h_out, .ref h_sought, .int z_size, .int z_outSize, .int z_soughtSize, .int z_documents, .int z_indexed, .int z_suffixes, .int z_rows, .ref h_start, .ref h_documentOf, .ref h_order, .ref h_rankOf, .ref h_same, .ref h_work, .ref h_next, .ref h_often, .ref h_has, .int z_lesser])), (h_row, .inl (cB, 16384, .inl z_row)), (h_out, .inl (cB, 16384, .inl z_out)), (h_sought, .inl (cB, 200, .inl z_sought)), (h_start, .inl (cI, 66, .inl z_start)), (h_documentOf, .inl (cI, 16384, .inl z_documentOf))] := hD
  refine lv_aload_n hx hb d_MD_near_5 rfl (lv_at hl 0 rfl) ?_
  refine lv_iconst (v := 1) hx hb d_MD_near_6 (by decide) ?_
  refine lv_iload_n hx hb d_MD_near_7 rfl (lv_at hl 1 rfl) ?_
  obtain ⟨hvt, hvf⟩ := hv
  refine lv_if_lt (tgt := 16) hx hb d_MD_near_8 (by decide) (fun c15 => ?_) (fun c15 => ?_)
  · have hv := hvt c15
    exact wk_MD_near_16 F hr hlk hK hA 1 0 z_outSize z_out hv _ _ _ hP hD hS (lv_sub hl [0, 1] rfl)
  · have hv := hvf c15
    refine lv_iload_n hx hb d_MD_near_11 rfl (lv_at hl 1 rfl) ?_
    refine lv_iconst (v := 3) hx hb d_MD_near_12 (by decide) ?_
    obtain ⟨hvt, hvf⟩ := hv
    refine lv_icmp_le (tgt := 20) hx hb d_MD_near_13 (by decide) (fun c16 => ?_) (fun c16 => ?_)
    · have hv := hvt c16
      refine lv_iconst (v := 0) hx hb d_MD_near_20 (by decide) ?_
      exact wk_MD_near_21 F hr hlk hK hA 1 0 0 z_outSize z_out hv _ _ _ hP hD hS (lv_sub hl [0, 1] rfl)
    · have hv := hvf c16
      exact wk_MD_near_16 F hr hlk hK hA 1 0 z_outSize z_out hv _ _ _ hP hD hS (lv_sub hl [0, 1] rfl)

set_option maxHeartbeats 4000000 in
set_option maxRecDepth 100000 in
theorem wk_MD_matched_109 {p : Program} {l : Launch} {e : Env} {s : State} {m : MethodId} {below : List Frame} {meth : Method} {c : Code} {A : Nat → Prop} {dC : Nat → ClassId} {dI : Nat → Nat → Nat} {cI cJ cB cZ : ClassId} {h_t : Nat} {h_tape : Nat} {h_row : Nat} {h_out : Nat} {h_sought : Nat} {h_start : Nat} {h_documentOf : Nat} {h_order : Nat} {h_rankOf : Nat} {h_same : Nat} {h_work : Nat} {h_next : Nat} {h_often : Nat} {h_has : Nat} {z_soughtSize : Int32} {z_suffixes : Int32} {z_row : Nat → Int32} {z_sought : Nat → Int32} {z_start : Nat → Int32} {z_documentOf : Nat → Int32} {z_size : Int32} {z_outSize : Int32} {z_documents : Int32} {z_indexed : Int32} {z_rows : Int32} {z_lesser : Int32} {post : Int32 → Int32 → Prop} {K44 : Int32 → Int32 → Int32 → Int32 → Int32 → Prop} (F : CallFix p m c b_MD_matched 6 s ([.ref h_t] : List Value).toArray WT "SuffixIndexModel") (hr : meth.sig.returnType = (some .int)) (hlk : meth.locks = false) (hK : va_K (dC, dI) classes (TYS cI cJ cB cZ) s) (hA : ∀ q, s.heap.size ≤ q → A q) (hK44 : ∀ (x1 : Int32) (x2 : Int32) (x3 : Int32) (x4 : Int32) (z_thrown : Int32), K44 x1 x2 x3 x4 z_thrown → ∀ (H : Heap) (locs : List Loc) (ls : Array Slot), va_P (dC, dI) classes [(h_t, .inr (8, [.int z_thrown, .ref h_tape, .ref h_row, .ref h_out, .ref h_sought, .int z_size, .int z_outSize, .int z_soughtSize, .int z_documents, .int z_indexed, .int z_suffixes, .int z_rows, .ref h_start, .ref h_documentOf, .ref h_order, .ref h_rankOf, .ref h_same, .ref h_work, .ref h_next, .ref h_often, .ref h_has, .int z_lesser])), (h_row, .inl (cB, 16384, .inl z_row)), (h_sought, .inl (cB, 200, .inl z_sought)), (h_start, .inl (cI, 66, .inl z_start)), (h_documentOf, .inl (cI, 16384, .inl z_documentOf))] H → va_D A [(h_t, .inr (8, [.int z_thrown, .ref h_tape, .ref h_row, .ref h_out, .ref h_sought, .int z_size, .int z_outSize, .int z_soughtSize, .int z_documents, .int z_indexed, .int z_suffixes, .int z_rows, .ref h_start, .ref h_documentOf, .ref h_order, .ref h_rankOf, .ref h_same, .ref h_work, .ref h_next, .ref h_often, .ref h_has, .int z_lesser])), (h_row, .inl (cB, 16384, .inl z_row)), (h_sought, .inl (cB, 200, .inl z_sought)), (h_start, .inl (cI, 66, .inl z_start)), (h_documentOf, .inl (cI, 16384, .inl z_documentOf))] → va_S A s.heap H locs → lv_has ls 6 [(0, .ref h_t), (1, .int x1), (2, .int x2), (3, .int x3), (4, .int x4)] → W p l e rm_MD_matched s m ([.ref h_t] : List Value).toArray below meth c H locs 0 0 (MQ below (va_Qi (fun (r : Int32) (u : Int32) => post r u) (fun u t => cAft (dC, dI) classes (TYS cI cJ cB cZ) A [(h_t, .inr (8, [.int u, .ref h_tape, .ref h_row, .ref h_out, .ref h_sought, .int z_size, .int z_outSize, .int z_soughtSize, .int z_documents, .int z_indexed, .int z_suffixes, .int z_rows, .ref h_start, .ref h_documentOf, .ref h_order, .ref h_rankOf, .ref h_same, .ref h_work, .ref h_next, .ref h_often, .ref h_has, .int z_lesser])), (h_row, .inl (cB, 16384, .inl z_row)), (h_sought, .inl (cB, 200, .inl z_sought)), (h_start, .inl (cI, 66, .inl z_start)), (h_documentOf, .inl (cI, 16384, .inl z_documentOf))] t) A) ([.ref h_t] : List Value).toArray s 0 0 A) (F0 m 44 ls [])) : ∀ (x1 : Int32) (x2 : Int32) (x3 : Int32) (x4 : Int32) (x5 : Int32) (z_thrown : Int32), vc_MD_matched_109 z_soughtSize z_suffixes z_row z_sought z_start z_documentOf post K44 x1 x2 x3 x4 x5 z_thrown → ∀ (H : Heap) (locs : List Loc) (ls : Array Slot), va_P (dC, dI) classes [(h_t, .inr (8, [.int z_thrown, .ref h_tape, .ref h_row, .ref h_out, .ref h_sought, .int z_size, .int z_outSize, .int z_soughtSize, .int z_documents, .int z_indexed, .int z_suffixes, .int z_rows, .ref h_start, .ref h_documentOf, .ref h_order, .ref h_rankOf, .ref h_same, .ref h_work, .ref h_next, .ref h_often, .ref h_has, .int z_lesser])), (h_row, .inl (cB, 16384, .inl z_row)), (h_sought, .inl (cB, 200, .inl z_sought)), (h_start, .inl (cI, 66, .inl z_start)), (h_documentOf, .inl (cI, 16384, .inl z_documentOf))] H → va_D A [(h_t, .inr (8, [.int z_thrown, .ref h_tape, .ref h_row, .ref h_out, .ref h_sought, .int z_size, .int z_outSize, .int z_soughtSize, .int z_documents, .int z_indexed, .int z_suffixes, .int z_rows, .ref h_start, .ref h_documentOf, .ref h_order, .ref h_rankOf, .ref h_same, .ref h_work, .ref h_next, .ref h_often, .ref h_has, .int z_lesser])), (h_row, .inl (cB, 16384, .inl z_row)), (h_sought, .inl (cB, 200, .inl z_sought)), (h_start, .inl (cI, 66, .inl z_start)), (h_documentOf, .inl (cI, 16384, .inl z_documentOf))] → va_S A s.heap H locs → lv_has ls 6 [(0, .ref h_t), (1, .int x1), (2, .int x2), (3, .int x3), (4, .int x4), (5, .int x5)] → W p l e rm_MD_matched s m ([.ref h_t] : List Value).toArray below meth c H locs 0 0 (MQ below (va_Qi (fun (r : Int32) (u : Int32) => post r u) (fun u t => cAft (dC, dI) classes (TYS cI cJ cB cZ) A [(h_t, .inr (8, [.int u, .ref h_tape, .ref h_row, .ref h_out, .ref h_sought, .int z_size, .int z_outSize, .int z_soughtSize, .int z_documents, .int z_indexed, .int z_suffixes, .int z_rows, .ref h_start, .ref h_documentOf, .ref h_order, .ref h_rankOf, .ref h_same, .ref h_work, .ref h_next, .ref h_often, .ref h_has, .int z_lesser])), (h_row, .inl (cB, 16384, .inl z_row)), (h_sought, .inl (cB, 200, .inl z_sought)), (h_start, .inl (cI, 66, .inl z_start)), (h_documentOf, .inl (cI, 16384, .inl z_documentOf))] t) A) ([.ref h_t] : List Value).toArray s 0 0 A) (F0 m 109 ls []) := by
  obtain ⟨hx, hb, hml, hown, hw⟩ := id F
  intro x1 x2 x3 x4 x5 z_thrown hv H locs ls hP hD hS hl
  refine lv_iload_n hx hb d_MD_matched_109 rfl (lv_at hl 3 rfl) ?_
  refine lv_iload hx hb d_MD_matched_110 (lv_at hl 5 rfl) ?_
  refine va_mmax hx hb (hml.trans hl.1.symm) hown (hw _ m_1250) (hw _ m_424) (hw _ m_22) (hw _ m_425) (by decide) (Nat.le_of_ble_eq_true rfl) (Nat.zero_le _) (Nat.zero_le _) d_MD_matched_112 ?_
  refine lv_istore_n (lv' := [(3, .int (if x3 < x5 then x5 else x3)), (0, .ref h_t), (1, .int x1), (2, .int x2), (4, .int x4), (5, .int x5)]) hx hb d_MD_matched_115 rfl hl (by decide) rfl (fun ls hl => ?_)
  refine lv_iinc (v := x4 + 1) (lv' := [(4, .int (x4 + 1)), (3, .int (if x3 < x5 then x5 else x3)), (0, .ref h_t), (1, .int x1), (2, .int x2), (5, .int x5)]) hx hb d_MD_matched_116 hl (k := 4) rfl (iinc_v (by decide)) (by decide) rfl (fun ls hl => ?_)
  refine lv_goto (tgt := 44) hx hb d_MD_matched_119 (by decide) ?_
  exact hK44 x1 x2 (if x3 < x5 then x5 else x3) (x4 + 1) z_thrown hv _ _ _ hP hD hS (lv_sub hl [2, 3, 4, 1, 0] rfl)

set_option maxHeartbeats 4000000 in
set_option maxRecDepth 100000 in
theorem wk_MD_matched_56 {p : Program} {l : Launch} {e : Env} {s : State} {m : MethodId} {below : List Frame} {meth : Method} {c : Code} {A : Nat → Prop} {dC : Nat → ClassId} {dI : Nat → Nat → Nat} {cI cJ cB cZ : ClassId} {h_t : Nat} {h_tape : Nat} {h_row : Nat} {h_out : Nat} {h_sought : Nat} {h_start : Nat} {h_documentOf : Nat} {h_order : Nat} {h_rankOf : Nat} {h_same : Nat} {h_work : Nat} {h_next : Nat} {h_often : Nat} {h_has : Nat} {z_soughtSize : Int32} {z_suffixes : Int32} {z_row : Nat → Int32} {z_sought : Nat → Int32} {z_start : Nat → Int32} {z_documentOf : Nat → Int32} {z_size : Int32} {z_outSize : Int32} {z_documents : Int32} {z_indexed : Int32} {z_rows : Int32} {z_lesser : Int32} {post : Int32 → Int32 → Prop} {K44 : Int32 → Int32 → Int32 → Int32 → Int32 → Prop} (F : CallFix p m c b_MD_matched 6 s ([.ref h_t] : List Value).toArray WT "SuffixIndexModel") (hr : meth.sig.returnType = (some .int)) (hlk : meth.locks = false) (hK : va_K (dC, dI) classes (TYS cI cJ cB cZ) s) (hA : ∀ q, s.heap.size ≤ q → A q) (hK44 : ∀ (x1 : Int32) (x2 : Int32) (x3 : Int32) (x4 : Int32) (z_thrown : Int32), K44 x1 x2 x3 x4 z_thrown → ∀ (H : Heap) (locs : List Loc) (ls : Array Slot), va_P (dC, dI) classes [(h_t, .inr (8, [.int z_thrown, .ref h_tape, .ref h_row, .ref h_out, .ref h_sought, .int z_size, .int z_outSize, .int z_soughtSize, .int z_documents, .int z_indexed, .int z_suffixes, .int z_rows, .ref h_start, .ref h_documentOf, .ref h_order, .ref h_rankOf, .ref h_same, .ref h_work, .ref h_next, .ref h_often, .ref h_has, .int z_lesser])), (h_row, .inl (cB, 16384, .inl z_row)), (h_sought, .inl (cB, 200, .inl z_sought)), (h_start, .inl (cI, 66, .inl z_start)), (h_documentOf, .inl (cI, 16384, .inl z_documentOf))] H → va_D A [(h_t, .inr (8, [.int z_thrown, .ref h_tape, .ref h_row, .ref h_out, .ref h_sought, .int z_size, .int z_outSize, .int z_soughtSize, .int z_documents, .int z_indexed, .int z_suffixes, .int z_rows, .ref h_start, .ref h_documentOf, .ref h_order, .ref h_rankOf, .ref h_same, .ref h_work, .ref h_next, .ref h_often, .ref h_has, .int z_lesser])), (h_row, .inl (cB, 16384, .inl z_row)), (h_sought, .inl (cB, 200, .inl z_sought)), (h_start, .inl (cI, 66, .inl z_start)), (h_documentOf, .inl (cI, 16384, .inl z_documentOf))] → va_S A s.heap H locs → lv_has ls 6 [(0, .ref h_t), (1, .int x1), (2, .int x2), (3, .int x3), (4, .int x4)] → W p l e rm_MD_matched s m ([.ref h_t] : List Value).toArray below meth c H locs 0 0 (MQ below (va_Qi (fun (r : Int32) (u : Int32) => post r u) (fun u t => cAft (dC, dI) classes (TYS cI cJ cB cZ) A [(h_t, .inr (8, [.int u, .ref h_tape, .ref h_row, .ref h_out, .ref h_sought, .int z_size, .int z_outSize, .int z_soughtSize, .int z_documents, .int z_indexed, .int z_suffixes, .int z_rows, .ref h_start, .ref h_documentOf, .ref h_order, .ref h_rankOf, .ref h_same, .ref h_work, .ref h_next, .ref h_often, .ref h_has, .int z_lesser])), (h_row, .inl (cB, 16384, .inl z_row)), (h_sought, .inl (cB, 200, .inl z_sought)), (h_start, .inl (cI, 66, .inl z_start)), (h_documentOf, .inl (cI, 16384, .inl z_documentOf))] t) A) ([.ref h_t] : List Value).toArray s 0 0 A) (F0 m 44 ls [])) : ∀ (k : Nat) (x1 : Int32) (x2 : Int32) (x3 : Int32) (x4 : Int32) (x5 : Int32) (z_thrown : Int32), vc_MD_matched_56 z_soughtSize z_suffixes z_row z_sought z_start z_documentOf post K44 k x1 x2 x3 x4 x5 z_thrown → ∀ (H : Heap) (locs : List Loc) (ls : Array Slot), va_P (dC, dI) classes [(h_t, .inr (8, [.int z_thrown, .ref h_tape, .ref h_row, .ref h_out, .ref h_sought, .int z_size, .int z_outSize, .int z_soughtSize, .int z_documents, .int z_indexed, .int z_suffixes, .int z_rows, .ref h_start, .ref h_documentOf, .ref h_order, .ref h_rankOf, .ref h_same, .ref h_work, .ref h_next, .ref h_often, .ref h_has, .int z_lesser])), (h_row, .inl (cB, 16384, .inl z_row)), (h_sought, .inl (cB, 200, .inl z_sought)), (h_start, .inl (cI, 66, .inl z_start)), (h_documentOf, .inl (cI, 16384, .inl z_documentOf))] H → va_D A [(h_t, .inr (8, [.int z_thrown, .ref h_tape, .ref h_row, .ref h_out, .ref h_sought, .int z_size, .int z_outSize, .int z_soughtSize, .int z_documents, .int z_indexed, .int z_suffixes, .int z_rows, .ref h_start, .ref h_documentOf, .ref h_order, .ref h_rankOf, .ref h_same, .ref h_work, .ref h_next, .ref h_often, .ref h_has, .int z_lesser])), (h_row, .inl (cB, 16384, .inl z_row)), (h_sought, .inl (cB, 200, .inl z_sought)), (h_start, .inl (cI, 66, .inl z_start)), (h_documentOf, .inl (cI, 16384, .inl z_documentOf))] → va_S A s.heap H locs → lv_has ls 6 [(0, .ref h_t), (1, .int x1), (2, .int x2), (3, .int x3), (4, .int x4), (5, .int x5)] → W p l e rm_MD_matched s m ([.ref h_t] : List Value).toArray below meth c H locs 0 0 (MQ below (va_Qi (fun (r : Int32) (u : Int32) => post r u) (fun u t => cAft (dC, dI) classes (TYS cI cJ cB cZ) A [(h_t, .inr (8, [.int u, .ref h_tape, .ref h_row, .ref h_out, .ref h_sought, .int z_size, .int z_outSize, .int z_soughtSize, .int z_documents, .int z_indexed, .int z_suffixes, .int z_rows, .ref h_start, .ref h_documentOf, .ref h_order, .ref h_rankOf, .ref h_same, .ref h_work, .ref h_next, .ref h_often, .ref h_has, .int z_lesser])), (h_row, .inl (cB, 16384, .inl z_row)), (h_sought, .inl (cB, 200, .inl z_sought)), (h_start, .inl (cI, 66, .inl z_start)), (h_documentOf, .inl (cI, 16384, .inl z_documentOf))] t) A) ([.ref h_t] : List Value).toArray s 0 0 A) (F0 m 56 ls []) := by
  obtain ⟨hx, hb, hml, hown, hw⟩ := id F
  intro k
  induction k with
  | zero =>
    intro x1 x2 x3 x4 x5 z_thrown hv
    exact False.elim hv
  | succ k ih =>
    intro x1 x2 x3 x4 x5 z_thrown hv H locs ls hP hD hS hl
    refine lv_iload_n hx hb d_MD_matched_56 rfl (lv_at hl 2 rfl) ?_
    refine lv_iload hx hb d_MD_matched_57 (lv_at hl 5 rfl) ?_
    refine lv_iadd hx hb d_MD_matched_59 ?_
    refine lv_aload_n hx hb d_MD_matched_60 rfl (lv_at hl 0 rfl) ?_
    refine va_get (D := (dC, dI)) (ci := 8) (v := .int z_soughtSize) (C := "SuffixIndexModel") (T := F_MD) (N := 22) hx hb hw i_MD hown hK hP 0 rfl rfl 7 (by decide) (hw _ m_1108) (fun _ h9 => h9) rfl d_MD_matched_61 ?_
    obtain ⟨hvt, hvf⟩ := hv
    refine lv_icmp_ge (tgt := 109) hx hb d_MD_matched_64 (by decide) (fun c1 => ?_) (fun c1 => ?_)
    · have hv := hvt c1
      exact wk_MD_matched_109 F hr hlk hK hA hK44 x1 x2 x3 x4 x5 z_thrown hv _ _ _ hP hD hS (lv_sub hl [0, 1, 2, 3, 4, 5] rfl)
    · have hv := hvf c1
      refine lv_iload hx hb d_MD_matched_67 (lv_at hl 4 rfl) ?_
      refine lv_iload hx hb d_MD_matched_69 (lv_at hl 5 rfl) ?_
      refine lv_iadd hx hb d_MD_matched_71 ?_
      refine lv_aload_n hx hb d_MD_matched_72 rfl (lv_at hl 0 rfl) ?_
      refine lv_iload hx hb d_MD_matched_73 (lv_at hl 4 rfl) ?_
      refine cV_i (wr := [(h_row, .inl (cB, 16384, .inl z_row)), (h_sought, .inl (cB, 200, .inl z_sought))]) (rest := [.int (x4 + x5)]) (c_MD_endOf l dC dI cI cJ cB cZ h_t h_tape h_row h_out h_sought h_start h_documentOf h_order h_rankOf h_same h_work h_next h_often h_has H.size z_thrown z_size z_outSize z_soughtSize z_documents z_indexed z_suffixes z_rows z_lesser z_start z_documentOf x4 _ hv) F (cw_V (fun _ h => h) 1 hw m_1209 m_1211 ms_33 m_9 m_1212 rfl rfl (by decide +kernel) ⟨by decide, by decide⟩) hK hP hD hS hA [0, 3, 4] [1, 2] rfl rfl rfl rfl (by decide) 0 8 rfl rfl rfl hl.1 rfl (Nat.le_of_ble_eq_true rfl) d_MD_matched_75 ⟨Nat.le_of_ble_eq_true rfl, Nat.le_of_ble_eq_true rfl⟩ (fun r2 u H locs hv hP hD hS => ?_)
      have hP : va_P (dC, dI) classes [(h_t, .inr (8, [.int z_thrown, .ref h_tape, .ref h_row, .ref h_out, .ref h_sought, .int z_size, .int z_outSize, .int z_soughtSize, .int z_documents, .int z_indexed, .int z_suffixes, .int z_rows, .ref h_start, .ref h_documentOf, .ref h_order, .ref h_rankOf, .ref h_same, .ref h_work, .ref h_next, .ref h_often, .ref h_has, .int z_lesser])), (h_row, .inl (cB, 16384, .inl z_row)), (h_sought, .inl (cB, 200, .inl z_sought)), (h_start, .inl (cI, 66, .inl z_start)), (h_documentOf, .inl (cI, 16384, .inl z_documentOf))] H := P_sub hP [2, 0, 1, 3, 4] rfl
      have hD : va_D A [(h_t, .inr (8, [.int z_thrown, .ref h_tape, .ref h_row, .ref h_out, .ref h_sought, .int z_size, .int z_outSize, .int z_soughtSize, .int z_documents, .int z_indexed, .int z_suffixes, .int z_rows, .ref h_start, .ref h_documentOf, .ref h_order, .ref h_rankOf, .ref h_same, .ref h_work, .ref h_next, .ref h_often, .ref h_has, .int z_lesser])), (h_row, .inl (cB, 16384, .inl z_row)), (h_sought, .inl (cB, 200, .inl z_sought)), (h_start, .inl (cI, 66, .inl z_start)), (h_documentOf, .inl (cI, 16384, .inl z_documentOf))] := hD.sub [2, 0, 1, 3, 4] rfl rfl
      obtain ⟨hvt, hvf⟩ := hv
      refine lv_icmp_ge (tgt := 109) hx hb d_MD_matched_78 (by decide) (fun c3 => ?_) (fun c3 => ?_)
      · have hv := hvt c3
        exact wk_MD_matched_109 F hr hlk hK hA hK44 x1 x2 x3 x4 x5 z_thrown hv _ _ _ hP hD hS (lv_sub hl [0, 1, 2, 3, 4, 5] rfl)
      · have hv := hvf c3
        refine lv_aload_n hx hb d_MD_matched_81 rfl (lv_at hl 0 rfl) ?_
        refine va_get (D := (dC, dI)) (ci := 8) (v := .ref h_row) (C := "SuffixIndexModel") (T := F_MD) (N := 22) hx hb hw i_MD hown hK hP 0 rfl rfl 2 (by decide) (hw _ m_1103) (fun _ h9 => h9) rfl d_MD_matched_82 ?_
        refine lv_iload hx hb d_MD_matched_85 (lv_at hl 4 rfl) ?_
        refine lv_iload hx hb d_MD_matched_87 (lv_at hl 5 rfl) ?_
        refine lv_iadd hx hb d_MD_matched_89 ?_
        obtain ⟨hin, hv⟩ := hv
        refine va_bald hx hb hK hP 1 2 rfl rfl hin d_MD_matched_90 ?_
        refine lv_aload_n hx hb d_MD_matched_91 rfl (lv_at hl 0 rfl) ?_
        refine va_get (D := (dC, dI)) (ci := 8) (v := .ref h_sought) (C := "SuffixIndexModel") (T := F_MD) (N := 22) hx hb hw i_MD hown hK hP 0 rfl rfl 4 (by decide) (hw _ m_1105) (fun _ h9 => h9) rfl d_MD_matched_92 ?_
        refine lv_iload_n hx hb d_MD_matched_95 rfl (lv_at hl 2 rfl) ?_
        refine lv_iload hx hb d_MD_matched_96 (lv_at hl 5 rfl) ?_
        refine lv_iadd hx hb d_MD_matched_98 ?_
        obtain ⟨hin, hv⟩ := hv
        refine va_bald hx hb hK hP 2 2 rfl rfl hin d_MD_matched_99 ?_
        obtain ⟨hvt, hvf⟩ := hv
        refine lv_icmp_ne (tgt := 109) hx hb d_MD_matched_100 (by decide) (fun c4 => ?_) (fun c4 => ?_)
        · have hv := hvt c4
          exact wk_MD_matched_109 F hr hlk hK hA hK44 x1 x2 x3 x4 x5 z_thrown hv _ _ _ hP hD hS (lv_sub hl [0, 1, 2, 3, 4, 5] rfl)
        · have hv := hvf c4
          refine lv_iinc (v := x5 + 1) (lv' := [(5, .int (x5 + 1)), (0, .ref h_t), (1, .int x1), (2, .int x2), (3, .int x3), (4, .int x4)]) hx hb d_MD_matched_103 hl (k := 5) rfl (iinc_v (by decide)) (by decide) rfl (fun ls hl => ?_)
          refine lv_goto (tgt := 56) hx hb d_MD_matched_106 (by decide) ?_
          exact ih x1 x2 x3 x4 (x5 + 1) z_thrown hv _ _ _ hP hD hS (lv_sub hl [1, 2, 3, 4, 5, 0] rfl)

set_option maxHeartbeats 4000000 in
set_option maxRecDepth 100000 in
theorem wk_MD_matched_44 {p : Program} {l : Launch} {e : Env} {s : State} {m : MethodId} {below : List Frame} {meth : Method} {c : Code} {A : Nat → Prop} {dC : Nat → ClassId} {dI : Nat → Nat → Nat} {cI cJ cB cZ : ClassId} {h_t : Nat} {h_tape : Nat} {h_row : Nat} {h_out : Nat} {h_sought : Nat} {h_start : Nat} {h_documentOf : Nat} {h_order : Nat} {h_rankOf : Nat} {h_same : Nat} {h_work : Nat} {h_next : Nat} {h_often : Nat} {h_has : Nat} {z_soughtSize : Int32} {z_suffixes : Int32} {z_row : Nat → Int32} {z_sought : Nat → Int32} {z_start : Nat → Int32} {z_documentOf : Nat → Int32} {z_size : Int32} {z_outSize : Int32} {z_documents : Int32} {z_indexed : Int32} {z_rows : Int32} {z_lesser : Int32} {post : Int32 → Int32 → Prop} {K31 : Int32 → Int32 → Int32 → Prop} (F : CallFix p m c b_MD_matched 6 s ([.ref h_t] : List Value).toArray WT "SuffixIndexModel") (hr : meth.sig.returnType = (some .int)) (hlk : meth.locks = false) (hK : va_K (dC, dI) classes (TYS cI cJ cB cZ) s) (hA : ∀ q, s.heap.size ≤ q → A q) (hK31 : ∀ (x1 : Int32) (x2 : Int32) (z_thrown : Int32), K31 x1 x2 z_thrown → ∀ (H : Heap) (locs : List Loc) (ls : Array Slot), va_P (dC, dI) classes [(h_t, .inr (8, [.int z_thrown, .ref h_tape, .ref h_row, .ref h_out, .ref h_sought, .int z_size, .int z_outSize, .int z_soughtSize, .int z_documents, .int z_indexed, .int z_suffixes, .int z_rows, .ref h_start, .ref h_documentOf, .ref h_order, .ref h_rankOf, .ref h_same, .ref h_work, .ref h_next, .ref h_often, .ref h_has, .int z_lesser])), (h_row, .inl (cB, 16384, .inl z_row)), (h_sought, .inl (cB, 200, .inl z_sought)), (h_start, .inl (cI, 66, .inl z_start)), (h_documentOf, .inl (cI, 16384, .inl z_documentOf))] H → va_D A [(h_t, .inr (8, [.int z_thrown, .ref h_tape, .ref h_row, .ref h_out, .ref h_sought, .int z_size, .int z_outSize, .int z_soughtSize, .int z_documents, .int z_indexed, .int z_suffixes, .int z_rows, .ref h_start, .ref h_documentOf, .ref h_order, .ref h_rankOf, .ref h_same, .ref h_work, .ref h_next, .ref h_often, .ref h_has, .int z_lesser])), (h_row, .inl (cB, 16384, .inl z_row)), (h_sought, .inl (cB, 200, .inl z_sought)), (h_start, .inl (cI, 66, .inl z_start)), (h_documentOf, .inl (cI, 16384, .inl z_documentOf))] → va_S A s.heap H locs → lv_has ls 6 [(0, .ref h_t), (1, .int x1), (2, .int x2)] → W p l e rm_MD_matched s m ([.ref h_t] : List Value).toArray below meth c H locs 0 0 (MQ below (va_Qi (fun (r : Int32) (u : Int32) => post r u) (fun u t => cAft (dC, dI) classes (TYS cI cJ cB cZ) A [(h_t, .inr (8, [.int u, .ref h_tape, .ref h_row, .ref h_out, .ref h_sought, .int z_size, .int z_outSize, .int z_soughtSize, .int z_documents, .int z_indexed, .int z_suffixes, .int z_rows, .ref h_start, .ref h_documentOf, .ref h_order, .ref h_rankOf, .ref h_same, .ref h_work, .ref h_next, .ref h_often, .ref h_has, .int z_lesser])), (h_row, .inl (cB, 16384, .inl z_row)), (h_sought, .inl (cB, 200, .inl z_sought)), (h_start, .inl (cI, 66, .inl z_start)), (h_documentOf, .inl (cI, 16384, .inl z_documentOf))] t) A) ([.ref h_t] : List Value).toArray s 0 0 A) (F0 m 31 ls [])) : ∀ (k : Nat) (x1 : Int32) (x2 : Int32) (x3 : Int32) (x4 : Int32) (z_thrown : Int32), vc_MD_matched_44 z_soughtSize z_suffixes z_row z_sought z_start z_documentOf post K31 k x1 x2 x3 x4 z_thrown → ∀ (H : Heap) (locs : List Loc) (ls : Array Slot), va_P (dC, dI) classes [(h_t, .inr (8, [.int z_thrown, .ref h_tape, .ref h_row, .ref h_out, .ref h_sought, .int z_size, .int z_outSize, .int z_soughtSize, .int z_documents, .int z_indexed, .int z_suffixes, .int z_rows, .ref h_start, .ref h_documentOf, .ref h_order, .ref h_rankOf, .ref h_same, .ref h_work, .ref h_next, .ref h_often, .ref h_has, .int z_lesser])), (h_row, .inl (cB, 16384, .inl z_row)), (h_sought, .inl (cB, 200, .inl z_sought)), (h_start, .inl (cI, 66, .inl z_start)), (h_documentOf, .inl (cI, 16384, .inl z_documentOf))] H → va_D A [(h_t, .inr (8, [.int z_thrown, .ref h_tape, .ref h_row, .ref h_out, .ref h_sought, .int z_size, .int z_outSize, .int z_soughtSize, .int z_documents, .int z_indexed, .int z_suffixes, .int z_rows, .ref h_start, .ref h_documentOf, .ref h_order, .ref h_rankOf, .ref h_same, .ref h_work, .ref h_next, .ref h_often, .ref h_has, .int z_lesser])), (h_row, .inl (cB, 16384, .inl z_row)), (h_sought, .inl (cB, 200, .inl z_sought)), (h_start, .inl (cI, 66, .inl z_start)), (h_documentOf, .inl (cI, 16384, .inl z_documentOf))] → va_S A s.heap H locs → lv_has ls 6 [(0, .ref h_t), (1, .int x1), (2, .int x2), (3, .int x3), (4, .int x4)] → W p l e rm_MD_matched s m ([.ref h_t] : List Value).toArray below meth c H locs 0 0 (MQ below (va_Qi (fun (r : Int32) (u : Int32) => post r u) (fun u t => cAft (dC, dI) classes (TYS cI cJ cB cZ) A [(h_t, .inr (8, [.int u, .ref h_tape, .ref h_row, .ref h_out, .ref h_sought, .int z_size, .int z_outSize, .int z_soughtSize, .int z_documents, .int z_indexed, .int z_suffixes, .int z_rows, .ref h_start, .ref h_documentOf, .ref h_order, .ref h_rankOf, .ref h_same, .ref h_work, .ref h_next, .ref h_often, .ref h_has, .int z_lesser])), (h_row, .inl (cB, 16384, .inl z_row)), (h_sought, .inl (cB, 200, .inl z_sought)), (h_start, .inl (cI, 66, .inl z_start)), (h_documentOf, .inl (cI, 16384, .inl z_documentOf))] t) A) ([.ref h_t] : List Value).toArray s 0 0 A) (F0 m 44 ls []) := by
  obtain ⟨hx, hb, hml, hown, hw⟩ := id F
  intro k
  induction k with
  | zero =>
    intro x1 x2 x3 x4 z_thrown hv
    exact False.elim hv
  | succ k ih =>
    intro x1 x2 x3 x4 z_thrown hv H locs ls hP hD hS hl
    refine lv_iload hx hb d_MD_matched_44 (lv_at hl 4 rfl) ?_
    refine lv_aload_n hx hb d_MD_matched_46 rfl (lv_at hl 0 rfl) ?_
    refine va_get (D := (dC, dI)) (ci := 8) (v := .int z_suffixes) (C := "SuffixIndexModel") (T := F_MD) (N := 22) hx hb hw i_MD hown hK hP 0 rfl rfl 10 (by decide) (hw _ m_1111) (fun _ h9 => h9) rfl d_MD_matched_47 ?_
    obtain ⟨hvt, hvf⟩ := hv
    refine lv_icmp_ge (tgt := 122) hx hb d_MD_matched_50 (by decide) (fun c5 => ?_) (fun c5 => ?_)
    · have hv := hvt c5
      refine lv_iload_n hx hb d_MD_matched_122 rfl (lv_at hl 1 rfl) ?_
      refine lv_iload_n hx hb d_MD_matched_123 rfl (lv_at hl 3 rfl) ?_
      refine lv_iadd hx hb d_MD_matched_124 ?_
      refine lv_istore_n (lv' := [(1, .int (x1 + x3)), (0, .ref h_t), (2, .int x2), (3, .int x3), (4, .int x4)]) hx hb d_MD_matched_125 rfl hl (by decide) rfl (fun ls hl => ?_)
      refine lv_iinc (v := x2 + 1) (lv' := [(2, .int (x2 + 1)), (1, .int (x1 + x3)), (0, .ref h_t), (3, .int x3), (4, .int x4)]) hx hb d_MD_matched_126 hl (k := 2) rfl (iinc_v (by decide)) (by decide) rfl (fun ls hl => ?_)
      refine lv_goto (tgt := 31) hx hb d_MD_matched_129 (by decide) ?_
      exact hK31 (x1 + x3) (x2 + 1) z_thrown hv _ _ _ hP hD hS (lv_sub hl [2, 1, 0] rfl)
    · have hv := hvf c5
      refine lv_iconst (v := 0) hx hb d_MD_matched_53 (by decide) ?_
      refine lv_istore (lv' := [(5, .int 0), (0, .ref h_t), (1, .int x1), (2, .int x2), (3, .int x3), (4, .int x4)]) hx hb d_MD_matched_54 hl (by decide) rfl (fun ls hl => ?_)
      obtain ⟨j, hv⟩ := hv
      exact wk_MD_matched_56 F hr hlk hK hA ih j x1 x2 x3 x4 0 z_thrown hv _ _ _ hP hD hS (lv_sub hl [1, 2, 3, 4, 5, 0] rfl)

set_option maxHeartbeats 4000000 in
set_option maxRecDepth 100000 in
theorem wk_MD_matched_31 {p : Program} {l : Launch} {e : Env} {s : State} {m : MethodId} {below : List Frame} {meth : Method} {c : Code} {A : Nat → Prop} {dC : Nat → ClassId} {dI : Nat → Nat → Nat} {cI cJ cB cZ : ClassId} {h_t : Nat} {h_tape : Nat} {h_row : Nat} {h_out : Nat} {h_sought : Nat} {h_start : Nat} {h_documentOf : Nat} {h_order : Nat} {h_rankOf : Nat} {h_same : Nat} {h_work : Nat} {h_next : Nat} {h_often : Nat} {h_has : Nat} {z_soughtSize : Int32} {z_suffixes : Int32} {z_row : Nat → Int32} {z_sought : Nat → Int32} {z_start : Nat → Int32} {z_documentOf : Nat → Int32} {z_size : Int32} {z_outSize : Int32} {z_documents : Int32} {z_indexed : Int32} {z_rows : Int32} {z_lesser : Int32} {post : Int32 → Int32 → Prop} (F : CallFix p m c b_MD_matched 6 s ([.ref h_t] : List Value).toArray WT "SuffixIndexModel") (hr : meth.sig.returnType = (some .int)) (hlk : meth.locks = false) (hK : va_K (dC, dI) classes (TYS cI cJ cB cZ) s) (hA : ∀ q, s.heap.size ≤ q → A q) : ∀ (k : Nat) (x1 : Int32) (x2 : Int32) (z_thrown : Int32), vc_MD_matched_31 z_soughtSize z_suffixes z_row z_sought z_start z_documentOf post k x1 x2 z_thrown → ∀ (H : Heap) (locs : List Loc) (ls : Array Slot), va_P (dC, dI) classes [(h_t, .inr (8, [.int z_thrown, .ref h_tape, .ref h_row, .ref h_out, .ref h_sought, .int z_size, .int z_outSize, .int z_soughtSize, .int z_documents, .int z_indexed, .int z_suffixes, .int z_rows, .ref h_start, .ref h_documentOf, .ref h_order, .ref h_rankOf, .ref h_same, .ref h_work, .ref h_next, .ref h_often, .ref h_has, .int z_lesser])), (h_row, .inl (cB, 16384, .inl z_row)), (h_sought, .inl (cB, 200, .inl z_sought)), (h_start, .inl (cI, 66, .inl z_start)), (h_documentOf, .inl (cI, 16384, .inl z_documentOf))] H → va_D A [(h_t, .inr (8, [.int z_thrown, .ref h_tape, .ref h_row, .ref h_out, .ref h_sought, .int z_size, .int z_outSize, .int z_soughtSize, .int z_documents, .int z_indexed, .int z_suffixes, .int z_rows, .ref h_start, .ref h_documentOf, .ref h_order, .ref h_rankOf, .ref h_same, .ref h_work, .ref h_next, .ref h_often, .ref h_has, .int z_lesser])), (h_row, .inl (cB, 16384, .inl z_row)), (h_sought, .inl (cB, 200, .inl z_sought)), (h_start, .inl (cI, 66, .inl z_start)), (h_documentOf, .inl (cI, 16384, .inl z_documentOf))] → va_S A s.heap H locs → lv_has ls 6 [(0, .ref h_t), (1, .int x1), (2, .int x2)] → W p l e rm_MD_matched s m ([.ref h_t] : List Value).toArray below meth c H locs 0 0 (MQ below (va_Qi (fun (r : Int32) (u : Int32) => post r u) (fun u t => cAft (dC, dI) classes (TYS cI cJ cB cZ) A [(h_t, .inr (8, [.int u, .ref h_tape, .ref h_row, .ref h_out, .ref h_sought, .int z_size, .int z_outSize, .int z_soughtSize, .int z_documents, .int z_indexed, .int z_suffixes, .int z_rows, .ref h_start, .ref h_documentOf, .ref h_order, .ref h_rankOf, .ref h_same, .ref h_work, .ref h_next, .ref h_often, .ref h_has, .int z_lesser])), (h_row, .inl (cB, 16384, .inl z_row)), (h_sought, .inl (cB, 200, .inl z_sought)), (h_start, .inl (cI, 66, .inl z_start)), (h_documentOf, .inl (cI, 16384, .inl z_documentOf))] t) A) ([.ref h_t] : List Value).toArray s 0 0 A) (F0 m 31 ls []) := by
  obtain ⟨hx, hb, hml, hown, hw⟩ := id F
  intro k
  induction k with
  | zero =>
    intro x1 x2 z_thrown hv
    exact False.elim hv
  | succ k ih =>
    intro x1 x2 z_thrown hv H locs ls hP hD hS hl
    refine lv_iload_n hx hb d_MD_matched_31 rfl (lv_at hl 2 rfl) ?_
    refine lv_aload_n hx hb d_MD_matched_32 rfl (lv_at hl 0 rfl) ?_
    refine va_get (D := (dC, dI)) (ci := 8) (v := .int z_soughtSize) (C := "SuffixIndexModel") (T := F_MD) (N := 22) hx hb hw i_MD hown hK hP 0 rfl rfl 7 (by decide) (hw _ m_1108) (fun _ h9 => h9) rfl d_MD_matched_33 ?_
    obtain ⟨hvt, hvf⟩ := hv
    refine lv_icmp_ge (tgt := 132) hx hb d_MD_matched_36 (by decide) (fun c6 => ?_) (fun c6 => ?_)
    · have hv := hvt c6
      refine lv_iload_n hx hb d_MD_matched_132 rfl (lv_at hl 1 rfl) ?_
      exact W.iret (v := x1) hx hb hr (fun t ht hW => ⟨⟨x1, z_thrown, rfl, hv, by rw [ht]; exact hP, va_K.moved hW.alike hK, hD⟩, hS.F ht⟩) hS.2.2 d_MD_matched_133
    · have hv := hvf c6
      refine lv_iconst (v := 0) hx hb d_MD_matched_39 (by decide) ?_
      refine lv_istore_n (lv' := [(3, .int 0), (0, .ref h_t), (1, .int x1), (2, .int x2)]) hx hb d_MD_matched_40 rfl hl (by decide) rfl (fun ls hl => ?_)
      refine lv_iconst (v := 0) hx hb d_MD_matched_41 (by decide) ?_
      refine lv_istore (lv' := [(4, .int 0), (3, .int 0), (0, .ref h_t), (1, .int x1), (2, .int x2)]) hx hb d_MD_matched_42 hl (by decide) rfl (fun ls hl => ?_)
      obtain ⟨j, hv⟩ := hv
      exact wk_MD_matched_44 F hr hlk hK hA ih j x1 x2 0 0 z_thrown hv _ _ _ hP hD hS (lv_sub hl [2, 3, 4, 1, 0] rfl)

set_option maxHeartbeats 4000000 in
set_option maxRecDepth 100000 in
theorem wk_MD_matched_19 {p : Program} {l : Launch} {e : Env} {s : State} {m : MethodId} {below : List Frame} {meth : Method} {c : Code} {A : Nat → Prop} {dC : Nat → ClassId} {dI : Nat → Nat → Nat} {cI cJ cB cZ : ClassId} {h_t : Nat} {h_tape : Nat} {h_row : Nat} {h_out : Nat} {h_sought : Nat} {h_start : Nat} {h_documentOf : Nat} {h_order : Nat} {h_rankOf : Nat} {h_same : Nat} {h_work : Nat} {h_next : Nat} {h_often : Nat} {h_has : Nat} {z_soughtSize : Int32} {z_suffixes : Int32} {z_row : Nat → Int32} {z_sought : Nat → Int32} {z_start : Nat → Int32} {z_documentOf : Nat → Int32} {z_size : Int32} {z_outSize : Int32} {z_documents : Int32} {z_indexed : Int32} {z_rows : Int32} {z_lesser : Int32} {post : Int32 → Int32 → Prop} (F : CallFix p m c b_MD_matched 6 s ([.ref h_t] : List Value).toArray WT "SuffixIndexModel") (hr : meth.sig.returnType = (some .int)) (hlk : meth.locks = false) (hK : va_K (dC, dI) classes (TYS cI cJ cB cZ) s) (hA : ∀ q, s.heap.size ≤ q → A q) : ∀ (k1 : Int32) (k2 : Int32) (z_thrown : Int32), vc_MD_matched_19 z_soughtSize z_suffixes z_row z_sought z_start z_documentOf post k1 k2 z_thrown → ∀ (H : Heap) (locs : List Loc) (ls : Array Slot), va_P (dC, dI) classes [(h_t, .inr (8, [.int z_thrown, .ref h_tape, .ref h_row, .ref h_out, .ref h_sought, .int z_size, .int z_outSize, .int z_soughtSize, .int z_documents, .int z_indexed, .int z_suffixes, .int z_rows, .ref h_start, .ref h_documentOf, .ref h_order, .ref h_rankOf, .ref h_same, .ref h_work, .ref h_next, .ref h_often, .ref h_has, .int z_lesser])), (h_row, .inl (cB, 16384, .inl z_row)), (h_sought, .inl (cB, 200, .inl z_sought)), (h_start, .inl (cI, 66, .inl z_start)), (h_documentOf, .inl (cI, 16384, .inl z_documentOf))] H → va_D A [(h_t, .inr (8, [.int z_thrown, .ref h_tape, .ref h_row, .ref h_out, .ref h_sought, .int z_size, .int z_outSize, .int z_soughtSize, .int z_documents, .int z_indexed, .int z_suffixes, .int z_rows, .ref h_start, .ref h_documentOf, .ref h_order, .ref h_rankOf, .ref h_same, .ref h_work, .ref h_next, .ref h_often, .ref h_has, .int z_lesser])), (h_row, .inl (cB, 16384, .inl z_row)), (h_sought, .inl (cB, 200, .inl z_sought)), (h_start, .inl (cI, 66, .inl z_start)), (h_documentOf, .inl (cI, 16384, .inl z_documentOf))] → va_S A s.heap H locs → lv_has ls 6 [(0, .ref h_t)] → W p l e rm_MD_matched s m ([.ref h_t] : List Value).toArray below meth c H locs 0 0 (MQ below (va_Qi (fun (r : Int32) (u : Int32) => post r u) (fun u t => cAft (dC, dI) classes (TYS cI cJ cB cZ) A [(h_t, .inr (8, [.int u, .ref h_tape, .ref h_row, .ref h_out, .ref h_sought, .int z_size, .int z_outSize, .int z_soughtSize, .int z_documents, .int z_indexed, .int z_suffixes, .int z_rows, .ref h_start, .ref h_documentOf, .ref h_order, .ref h_rankOf, .ref h_same, .ref h_work, .ref h_next, .ref h_often, .ref h_has, .int z_lesser])), (h_row, .inl (cB, 16384, .inl z_row)), (h_sought, .inl (cB, 200, .inl z_sought)), (h_start, .inl (cI, 66, .inl z_start)), (h_documentOf, .inl (cI, 16384, .inl z_documentOf))] t) A) ([.ref h_t] : List Value).toArray s 0 0 A) (F0 m 19 ls [.int k2, .int k1, .ref h_t]) := by
  obtain ⟨hx, hb, hml, hown, hw⟩ := id F
  intro k1 k2 z_thrown hv H locs ls hP hD hS hl
  refine cV_i (wr := [(h_row, .inl (cB, 16384, .inl z_row)), (h_sought, .inl (cB, 200, .inl z_sought)), (h_start, .inl (cI, 66, .inl z_start)), (h_documentOf, .inl (cI, 16384, .inl z_documentOf))]) (rest := []) (c_MD_refuse l dC dI cI cJ cB cZ h_t h_tape h_row h_out h_sought h_start h_documentOf h_order h_rankOf h_same h_work h_next h_often h_has H.size z_thrown z_size z_outSize z_soughtSize z_documents z_indexed z_suffixes z_rows z_lesser k1 k2 _ hv) F (cw_V (fun _ h => h) 2 hw m_1177 m_1179 ms_29 m_9 m_1180 rfl rfl (by decide +kernel) ⟨by decide, by decide⟩) hK hP hD hS hA [0] [1, 2, 3, 4] rfl rfl rfl rfl (by decide) 0 8 rfl rfl rfl hl.1 rfl (Nat.le_of_ble_eq_true rfl) d_MD_matched_19 ⟨Nat.le_of_ble_eq_true rfl, Nat.le_of_ble_eq_true rfl⟩ (fun r7 u H locs hv hP hD hS => ?_)
  obtain ⟨u7_0, rfl⟩ : ∃ z, z = u := ⟨_, rfl⟩
  have hP : va_P (dC, dI) classes [(h_t, .inr (8, [.int u7_0, .ref h_tape, .ref h_row, .ref h_out, .ref h_sought, .int z_size, .int z_outSize, .int z_soughtSize, .int z_documents, .int z_indexed, .int z_suffixes, .int z_rows, .ref h_start, .ref h_documentOf, .ref h_order, .ref h_rankOf, .ref h_same, .ref h_work, .ref h_next, .ref h_often, .ref h_has, .int z_lesser])), (h_row, .inl (cB, 16384, .inl z_row)), (h_sought, .inl (cB, 200, .inl z_sought)), (h_start, .inl (cI, 66, .inl z_start)), (h_documentOf, .inl (cI, 16384, .inl z_documentOf))] H := P_sub hP [4, 0, 1, 2, 3] rfl
  have hD : va_D A [(h_t, .inr (8, [.int u7_0, .ref h_tape, .ref h_row, .ref h_out, .ref h_sought, .int z_size, .int z_outSize, .int z_soughtSize, .int z_documents, .int z_indexed, .int z_suffixes, .int z_rows, .ref h_start, .ref h_documentOf, .ref h_order, .ref h_rankOf, .ref h_same, .ref h_work, .ref h_next, .ref h_often, .ref h_has, .int z_lesser])), (h_row, .inl (cB, 16384, .inl z_row)), (h_sought, .inl (cB, 200, .inl z_sought)), (h_start, .inl (cI, 66, .inl z_start)), (h_documentOf, .inl (cI, 16384, .inl z_documentOf))] := hD.sub [4, 0, 1, 2, 3] rfl rfl
  obtain ⟨hvt, hvf⟩ := hv
  refine lv_if_eq (tgt := 27) hx hb d_MD_matched_22 (by decide) (fun c8 => ?_) (fun c8 => ?_)
  · have hv := hvt c8
    refine lv_iconst (v := 0) hx hb d_MD_matched_27 (by decide) ?_
    refine lv_istore_n (lv' := [(1, .int 0), (0, .ref h_t)]) hx hb d_MD_matched_28 rfl hl (by decide) rfl (fun ls hl => ?_)
    refine lv_iconst (v := 0) hx hb d_MD_matched_29 (by decide) ?_
    refine lv_istore_n (lv' := [(2, .int 0), (1, .int 0), (0, .ref h_t)]) hx hb d_MD_matched_30 rfl hl (by decide) rfl (fun ls hl => ?_)
    obtain ⟨j, hv⟩ := hv
    exact wk_MD_matched_31 F hr hlk hK hA j 0 0 u7_0 hv _ _ _ hP hD hS (lv_sub hl [2, 1, 0] rfl)
  · have hv := hvf c8
    refine lv_iconst (v := 0) hx hb d_MD_matched_25 (by decide) ?_
    exact W.iret (v := 0) hx hb hr (fun t ht hW => ⟨⟨0, u7_0, rfl, hv, by rw [ht]; exact hP, va_K.moved hW.alike hK, hD⟩, hS.F ht⟩) hS.2.2 d_MD_matched_26

set_option maxHeartbeats 4000000 in
set_option maxRecDepth 100000 in
theorem c_MD_matched (l : Launch) (dC : Nat → ClassId) (dI : Nat → Nat → Nat) (cI cJ cB cZ : ClassId) (h_t : Nat) (h_tape : Nat) (h_row : Nat) (h_out : Nat) (h_sought : Nat) (h_start : Nat) (h_documentOf : Nat) (h_order : Nat) (h_rankOf : Nat) (h_same : Nat) (h_work : Nat) (h_next : Nat) (h_often : Nat) (h_has : Nat) (sz : Nat) (z_thrown : Int32) (z_size : Int32) (z_outSize : Int32) (z_soughtSize : Int32) (z_documents : Int32) (z_indexed : Int32) (z_suffixes : Int32) (z_rows : Int32) (z_lesser : Int32) (z_row : Nat → Int32) (z_sought : Nat → Int32) (z_start : Nat → Int32) (z_documentOf : Nat → Int32) (post : Int32 → Int32 → Prop) (hv : vc_MD_matched z_soughtSize z_suffixes z_row z_sought z_start z_documentOf post z_thrown) : Met l y_MD_matched (Cond.code y_MD_matched b_MD_matched 6 (some .int) :: WT) rm_MD_matched (cPre (dC, dI) classes (TYS cI cJ cB cZ) [(h_t, .inr (8, [.int z_thrown, .ref h_tape, .ref h_row, .ref h_out, .ref h_sought, .int z_size, .int z_outSize, .int z_soughtSize, .int z_documents, .int z_indexed, .int z_suffixes, .int z_rows, .ref h_start, .ref h_documentOf, .ref h_order, .ref h_rankOf, .ref h_same, .ref h_work, .ref h_next, .ref h_often, .ref h_has, .int z_lesser])), (h_row, .inl (cB, 16384, .inl z_row)), (h_sought, .inl (cB, 200, .inl z_sought)), (h_start, .inl (cI, 66, .inl z_start)), (h_documentOf, .inl (cI, 16384, .inl z_documentOf))] sz [.ref h_t]) (va_Qi (fun (r : Int32) (u : Int32) => post r u) (fun u t => cAft (dC, dI) classes (TYS cI cJ cB cZ) (va_A [(h_t, .inr (8, [.int z_thrown, .ref h_tape, .ref h_row, .ref h_out, .ref h_sought, .int z_size, .int z_outSize, .int z_soughtSize, .int z_documents, .int z_indexed, .int z_suffixes, .int z_rows, .ref h_start, .ref h_documentOf, .ref h_order, .ref h_rankOf, .ref h_same, .ref h_work, .ref h_next, .ref h_often, .ref h_has, .int z_lesser])), (h_row, .inl (cB, 16384, .inl z_row)), (h_sought, .inl (cB, 200, .inl z_sought)), (h_start, .inl (cI, 66, .inl z_start)), (h_documentOf, .inl (cI, 16384, .inl z_documentOf))] sz) [(h_t, .inr (8, [.int u, .ref h_tape, .ref h_row, .ref h_out, .ref h_sought, .int z_size, .int z_outSize, .int z_soughtSize, .int z_documents, .int z_indexed, .int z_suffixes, .int z_rows, .ref h_start, .ref h_documentOf, .ref h_order, .ref h_rankOf, .ref h_same, .ref h_work, .ref h_next, .ref h_often, .ref h_has, .int z_lesser])), (h_row, .inl (cB, 16384, .inl z_row)), (h_sought, .inl (cB, 200, .inl z_sought)), (h_start, .inl (cI, 66, .inl z_start)), (h_documentOf, .inl (cI, 16384, .inl z_documentOf))] t) (va_A [(h_t, .inr (8, [.int z_thrown, .ref h_tape, .ref h_row, .ref h_out, .ref h_sought, .int z_size, .int z_outSize, .int z_soughtSize, .int z_documents, .int z_indexed, .int z_suffixes, .int z_rows, .ref h_start, .ref h_documentOf, .ref h_order, .ref h_rankOf, .ref h_same, .ref h_work, .ref h_next, .ref h_often, .ref h_has, .int z_lesser])), (h_row, .inl (cB, 16384, .inl z_row)), (h_sought, .inl (cB, 200, .inl z_sought)), (h_start, .inl (cI, 66, .inl z_start)), (h_documentOf, .inl (cI, 16384, .inl z_documentOf))] sz)) 0 0 (va_A [(h_t, .inr (8, [.int z_thrown, .ref h_tape, .ref h_row, .ref h_out, .ref h_sought, .int z_size, .int z_outSize, .int z_soughtSize, .int z_documents, .int z_indexed, .int z_suffixes, .int z_rows, .ref h_start, .ref h_documentOf, .ref h_order, .ref h_rankOf, .ref h_same, .ref h_work, .ref h_next, .ref h_often, .ref h_has, .int z_lesser])), (h_row, .inl (cB, 16384, .inl z_row)), (h_sought, .inl (cB, 200, .inl z_sought)), (h_start, .inl (cI, 66, .inl z_start)), (h_documentOf, .inl (cI, 16384, .inl z_documentOf))] sz) := by
  refine Met.ofW (cc := b_MD_matched) (maxL := 6) (ret := (some .int)) (by decide) rfl ?_
  intro p e s m args below meth c s₁ B hml hq
  obtain ⟨rfl, hsz, hP, hK, hD0⟩ := hq
  have hts := atoms_spec (ws := Cond.code y_MD_matched b_MD_matched 6 (some .int) :: WT) B.pre
  have hw : ∀ w ∈ WT, w.before ([.ref h_t] : List Value).toArray s = true := fun w h => hts w (List.mem_cons_of_mem _ h)
  have hx := B.exec
  have hb := B.bytes
  have hr := B.returns
  have hlk := B.notSynchronized
  have hown : s.vm.findClass "SuffixIndexModel" = some m.cls := findClass_of_methodNamed B.named
  have F : CallFix p m c b_MD_matched 6 s ([.ref h_t] : List Value).toArray WT "SuffixIndexModel" := ⟨hx, hb, hml, hown, hw⟩
  subst hsz
  have hD := hD0.self (sz := s.heap.size)
  generalize hAe : va_A [(h_t, .inr (8, [.int z_thrown, .ref h_tape, .ref h_row, .ref h_out, .ref h_sought, .int z_size, .int z_outSize, .int z_soughtSize, .int z_documents, .int z_indexed, .int z_suffixes, .int z_rows, .ref h_start, .ref h_documentOf, .ref h_order, .ref h_rankOf, .ref h_same, .ref h_work, .ref h_next, .ref h_often, .ref h_has, .int z_lesser])), (h_row, .inl (cB, 16384, .inl z_row)), (h_sought, .inl (cB, 200, .inl z_sought)), (h_start, .inl (cI, 66, .inl z_start)), (h_documentOf, .inl (cI, 16384, .inl z_documentOf))] s.heap.size = A at hD ⊢
  have hA : ∀ q : Nat, s.heap.size ≤ q → A q := fun q h => by rw [← hAe]; exact Or.inr h
  have hS : va_S A s.heap s.heap [] := va_S.rf
  have hl := lv_entry ([.ref h_t]) (n := 6) (Nat.le_of_ble_eq_true rfl)
  rw [lg_entry_eq]
  generalize (lg_sl ([.ref h_t]) ++ List.replicate (6 - (lg_sl ([.ref h_t])).length) Slot.unset).toArray = ls at hl ⊢
  have hl : lv_has ls 6 [(0, .ref h_t)] := hl
  show W p l e rm_MD_matched s m _ below meth c s.heap [] 0 0 _ _
  have hP : va_P (dC, dI) classes [(h_t, .inr (8, [.int z_thrown, .ref h_tape, .ref h_row, .ref h_out, .ref h_sought, .int z_size, .int z_outSize, .int z_soughtSize, .int z_documents, .int z_indexed, .int z_suffixes, .int z_rows, .ref h_start, .ref h_documentOf, .ref h_order, .ref h_rankOf, .ref h_same, .ref h_work, .ref h_next, .ref h_often, .ref h_has, .int z_lesser])), (h_row, .inl (cB, 16384, .inl z_row)), (h_sought, .inl (cB, 200, .inl z_sought)), (h_start, .inl (cI, 66, .inl z_start)), (h_documentOf, .inl (cI, 16384, .inl z_documentOf))] s.heap := hP
  obtain ⟨H, hHe⟩ : ∃ H, H = s.heap := ⟨_, rfl⟩
  have hS : va_S A s.heap H [] := by rw [hHe]; exact hS
  rw [← hHe] at hP
  suffices hgoal : W p l e rm_MD_matched s m ([.ref h_t] : List Value).toArray below meth c H [] 0 0 (MQ below (va_Qi (fun (r : Int32) (u : Int32) => post r u) (fun u t => cAft (dC, dI) classes (TYS cI cJ cB cZ) A [(h_t, .inr (8, [.int u, .ref h_tape, .ref h_row, .ref h_out, .ref h_sought, .int z_size, .int z_outSize, .int z_soughtSize, .int z_documents, .int z_indexed, .int z_suffixes, .int z_rows, .ref h_start, .ref h_documentOf, .ref h_order, .ref h_rankOf, .ref h_same, .ref h_work, .ref h_next, .ref h_often, .ref h_has, .int z_lesser])), (h_row, .inl (cB, 16384, .inl z_row)), (h_sought, .inl (cB, 200, .inl z_sought)), (h_start, .inl (cI, 66, .inl z_start)), (h_documentOf, .inl (cI, 16384, .inl z_documentOf))] t) A) ([.ref h_t] : List Value).toArray s 0 0 A) (F0 m 0 ls []) by rw [hHe] at hgoal; exact hgoal
  refine lv_aload_n hx hb d_MD_matched_0 rfl (lv_at hl 0 rfl) ?_
  refine lv_iconst (v := 0) hx hb d_MD_matched_1 (by decide) ?_
  refine va_put (D := (dC, dI)) (ci := 8) (v := .int 0) (ty := .int) (C := "SuffixIndexModel") (T := F_MD) (N := 22) hx hb hw i_MD t_MD t_MD_ok n_MD hown hK hP hD hS 0 rfl rfl 0 (by decide) (hw _ m_1101) (fun _ h9 => h9) rfl (by decide +kernel) rfl rfl (Nat.le_of_ble_eq_true rfl) d_MD_matched_2 (fun H locs hP hD hS => ?_)
  have hP : va_P (dC, dI) classes [(h_t, .inr (8, [.int 0, .ref h_tape, .ref h_row, .ref h_out, .ref h_sought, .int z_size, .int z_outSize, .int z_soughtSize, .int z_documents, .int z_indexed, .int z_suffixes, .int z_rows, .ref h_start, .ref h_documentOf, .ref h_order, .ref h_rankOf, .ref h_same, .ref h_work, .ref h_next, .ref h_often, .ref h_has, .int z_lesser])), (h_row, .inl (cB, 16384, .inl z_row)), (h_sought, .inl (cB, 200, .inl z_sought)), (h_start, .inl (cI, 66, .inl z_start)), (h_documentOf, .inl (cI, 16384, .inl z_documentOf))] H := hP
  have hD : va_D A [(h_t, .inr (8, [.int 0, .ref h_tape, .ref h_row, .ref h_out, .ref h_sought, .int z_size, .int z_outSize, .int z_soughtSize, .int z_documents, .int z_indexed, .int z_suffixes, .int z_rows, .ref h_start, .ref h_documentOf, .ref h_order, .ref h_rankOf, .ref h_same, .ref h_work, .ref h_next, .ref h_often, .ref h_has, .int z_lesser])), (h_row, .inl (cB, 16384, .inl z_row)), (h_sought, .inl (cB, 200, .inl z_sought)), (h_start, .inl (cI, 66, .inl z_start)), (h_documentOf, .inl (cI, 16384, .inl z_documentOf))] := hD
  refine lv_aload_n hx hb d_MD_matched_5 rfl (lv_at hl 0 rfl) ?_
  refine lv_iconst (v := 1) hx hb d_MD_matched_6 (by decide) ?_
  refine lv_aload_n hx hb d_MD_matched_7 rfl (lv_at hl 0 rfl) ?_
  refine va_get (D := (dC, dI)) (ci := 8) (v := .int z_soughtSize) (C := "SuffixIndexModel") (T := F_MD) (N := 22) hx hb hw i_MD hown hK hP 0 rfl rfl 7 (by decide) (hw _ m_1108) (fun _ h9 => h9) rfl d_MD_matched_8 ?_
  obtain ⟨hvt, hvf⟩ := hv
  refine lv_if_ne (tgt := 18) hx hb d_MD_matched_11 (by decide) (fun c9 => ?_) (fun c9 => ?_)
  · have hv := hvt c9
    refine lv_iconst (v := 0) hx hb d_MD_matched_18 (by decide) ?_
    exact wk_MD_matched_19 F hr hlk hK hA 1 0 0 hv _ _ _ hP hD hS (lv_sub hl [0] rfl)
  · have hv := hvf c9
    refine lv_iconst (v := 1) hx hb d_MD_matched_14 (by decide) ?_
    refine lv_goto (tgt := 19) hx hb d_MD_matched_15 (by decide) ?_
    exact wk_MD_matched_19 F hr hlk hK hA 1 1 0 hv _ _ _ hP hD hS (lv_sub hl [0] rfl)

set_option maxHeartbeats 4000000 in
set_option maxRecDepth 100000 in
theorem wk_MD_suffix_24 {p : Program} {l : Launch} {e : Env} {s : State} {m : MethodId} {below : List Frame} {meth : Method} {c : Code} {A : Nat → Prop} {dC : Nat → ClassId} {dI : Nat → Nat → Nat} {cI cJ cB cZ : ClassId} {h_t : Nat} {h_tape : Nat} {h_row : Nat} {h_out : Nat} {h_sought : Nat} {h_start : Nat} {h_documentOf : Nat} {h_order : Nat} {h_rankOf : Nat} {h_same : Nat} {h_work : Nat} {h_next : Nat} {h_often : Nat} {h_has : Nat} {a_p1 : Int32} {z_suffixes : Int32} {z_start : Nat → Int32} {z_documentOf : Nat → Int32} {z_order : Nat → Int32} {z_size : Int32} {z_outSize : Int32} {z_soughtSize : Int32} {z_documents : Int32} {z_indexed : Int32} {z_rows : Int32} {z_lesser : Int32} {post : Int32 → Int32 → Prop} (F : CallFix p m c b_MD_suffix 2 s ([.ref h_t, .int a_p1] : List Value).toArray WT "SuffixIndexModel") (hr : meth.sig.returnType = (some .int)) (hlk : meth.locks = false) (hK : va_K (dC, dI) classes (TYS cI cJ cB cZ) s) (hA : ∀ q, s.heap.size ≤ q → A q) : ∀ (k1 : Int32) (k2 : Int32) (z_thrown : Int32), vc_MD_suffix_24 a_p1 z_suffixes z_start z_documentOf z_order post k1 k2 z_thrown → ∀ (H : Heap) (locs : List Loc) (ls : Array Slot), va_P (dC, dI) classes [(h_t, .inr (8, [.int z_thrown, .ref h_tape, .ref h_row, .ref h_out, .ref h_sought, .int z_size, .int z_outSize, .int z_soughtSize, .int z_documents, .int z_indexed, .int z_suffixes, .int z_rows, .ref h_start, .ref h_documentOf, .ref h_order, .ref h_rankOf, .ref h_same, .ref h_work, .ref h_next, .ref h_often, .ref h_has, .int z_lesser])), (h_start, .inl (cI, 66, .inl z_start)), (h_documentOf, .inl (cI, 16384, .inl z_documentOf)), (h_order, .inl (cI, 16384, .inl z_order))] H → va_D A [(h_t, .inr (8, [.int z_thrown, .ref h_tape, .ref h_row, .ref h_out, .ref h_sought, .int z_size, .int z_outSize, .int z_soughtSize, .int z_documents, .int z_indexed, .int z_suffixes, .int z_rows, .ref h_start, .ref h_documentOf, .ref h_order, .ref h_rankOf, .ref h_same, .ref h_work, .ref h_next, .ref h_often, .ref h_has, .int z_lesser])), (h_start, .inl (cI, 66, .inl z_start)), (h_documentOf, .inl (cI, 16384, .inl z_documentOf)), (h_order, .inl (cI, 16384, .inl z_order))] → va_S A s.heap H locs → lv_has ls 2 [(0, .ref h_t), (1, .int a_p1)] → W p l e rm_MD_suffix s m ([.ref h_t, .int a_p1] : List Value).toArray below meth c H locs 0 0 (MQ below (va_Qi (fun (r : Int32) (u : Int32) => post r u) (fun u t => cAft (dC, dI) classes (TYS cI cJ cB cZ) A [(h_t, .inr (8, [.int u, .ref h_tape, .ref h_row, .ref h_out, .ref h_sought, .int z_size, .int z_outSize, .int z_soughtSize, .int z_documents, .int z_indexed, .int z_suffixes, .int z_rows, .ref h_start, .ref h_documentOf, .ref h_order, .ref h_rankOf, .ref h_same, .ref h_work, .ref h_next, .ref h_often, .ref h_has, .int z_lesser])), (h_start, .inl (cI, 66, .inl z_start)), (h_documentOf, .inl (cI, 16384, .inl z_documentOf)), (h_order, .inl (cI, 16384, .inl z_order))] t) A) ([.ref h_t, .int a_p1] : List Value).toArray s 0 0 A) (F0 m 24 ls [.int k2, .int k1, .ref h_t]) := by
  obtain ⟨hx, hb, hml, hown, hw⟩ := id F
  intro k1 k2 z_thrown hv H locs ls hP hD hS hl
  refine cV_i (wr := [(h_start, .inl (cI, 66, .inl z_start)), (h_documentOf, .inl (cI, 16384, .inl z_documentOf)), (h_order, .inl (cI, 16384, .inl z_order))]) (rest := []) (c_MD_refuse l dC dI cI cJ cB cZ h_t h_tape h_row h_out h_sought h_start h_documentOf h_order h_rankOf h_same h_work h_next h_often h_has H.size z_thrown z_size z_outSize z_soughtSize z_documents z_indexed z_suffixes z_rows z_lesser k1 k2 _ hv) F (cw_V (fun _ h => h) 2 hw m_1177 m_1179 ms_29 m_9 m_1180 rfl rfl (by decide +kernel) ⟨by decide, by decide⟩) hK hP hD hS hA [0] [1, 2, 3] rfl rfl rfl rfl (by decide) 0 8 rfl rfl rfl hl.1 rfl (Nat.le_of_ble_eq_true rfl) d_MD_suffix_24 ⟨Nat.le_of_ble_eq_true rfl, Nat.le_of_ble_eq_true rfl⟩ (fun r1 u H locs hv hP hD hS => ?_)
  obtain ⟨u1_0, rfl⟩ : ∃ z, z = u := ⟨_, rfl⟩
  have hP : va_P (dC, dI) classes [(h_t, .inr (8, [.int u1_0, .ref h_tape, .ref h_row, .ref h_out, .ref h_sought, .int z_size, .int z_outSize, .int z_soughtSize, .int z_documents, .int z_indexed, .int z_suffixes, .int z_rows, .ref h_start, .ref h_documentOf, .ref h_order, .ref h_rankOf, .ref h_same, .ref h_work, .ref h_next, .ref h_often, .ref h_has, .int z_lesser])), (h_start, .inl (cI, 66, .inl z_start)), (h_documentOf, .inl (cI, 16384, .inl z_documentOf)), (h_order, .inl (cI, 16384, .inl z_order))] H := P_sub hP [3, 0, 1, 2] rfl
  have hD : va_D A [(h_t, .inr (8, [.int u1_0, .ref h_tape, .ref h_row, .ref h_out, .ref h_sought, .int z_size, .int z_outSize, .int z_soughtSize, .int z_documents, .int z_indexed, .int z_suffixes, .int z_rows, .ref h_start, .ref h_documentOf, .ref h_order, .ref h_rankOf, .ref h_same, .ref h_work, .ref h_next, .ref h_often, .ref h_has, .int z_lesser])), (h_start, .inl (cI, 66, .inl z_start)), (h_documentOf, .inl (cI, 16384, .inl z_documentOf)), (h_order, .inl (cI, 16384, .inl z_order))] := hD.sub [3, 0, 1, 2] rfl rfl
  obtain ⟨hvt, hvf⟩ := hv
  refine lv_if_eq (tgt := 32) hx hb d_MD_suffix_27 (by decide) (fun c2 => ?_) (fun c2 => ?_)
  · have hv := hvt c2
    refine lv_aload_n hx hb d_MD_suffix_32 rfl (lv_at hl 0 rfl) ?_
    refine lv_aload_n hx hb d_MD_suffix_33 rfl (lv_at hl 0 rfl) ?_
    refine va_get (D := (dC, dI)) (ci := 8) (v := .ref h_order) (C := "SuffixIndexModel") (T := F_MD) (N := 22) hx hb hw i_MD hown hK hP 0 rfl rfl 14 (by decide) (hw _ m_1115) (fun _ h9 => h9) rfl d_MD_suffix_34 ?_
    refine lv_iload_n hx hb d_MD_suffix_37 rfl (lv_at hl 1 rfl) ?_
    obtain ⟨hin, hv⟩ := hv
    refine va_iald hx hb hK hP 3 0 rfl rfl hin d_MD_suffix_38 ?_
    refine cV_i (wr := [(h_order, .inl (cI, 16384, .inl z_order))]) (rest := []) (c_MD_where l dC dI cI cJ cB cZ h_t h_tape h_row h_out h_sought h_start h_documentOf h_order h_rankOf h_same h_work h_next h_often h_has H.size u1_0 z_size z_outSize z_soughtSize z_documents z_indexed z_suffixes z_rows z_lesser z_start z_documentOf (z_order a_p1.toNatClampNeg) _ hv) F (cw_V (fun _ h => h) 1 hw m_1229 m_1231 ms_36 m_9 m_1232 rfl rfl (by decide +kernel) ⟨by decide, by decide⟩) hK hP hD hS hA [0, 1, 2] [3] rfl rfl rfl rfl (by decide) 0 8 rfl rfl rfl hl.1 rfl (Nat.le_of_ble_eq_true rfl) d_MD_suffix_39 ⟨Nat.le_of_ble_eq_true rfl, Nat.le_of_ble_eq_true rfl⟩ (fun r3 u H locs hv hP hD hS => ?_)
    have hP : va_P (dC, dI) classes [(h_t, .inr (8, [.int u1_0, .ref h_tape, .ref h_row, .ref h_out, .ref h_sought, .int z_size, .int z_outSize, .int z_soughtSize, .int z_documents, .int z_indexed, .int z_suffixes, .int z_rows, .ref h_start, .ref h_documentOf, .ref h_order, .ref h_rankOf, .ref h_same, .ref h_work, .ref h_next, .ref h_often, .ref h_has, .int z_lesser])), (h_start, .inl (cI, 66, .inl z_start)), (h_documentOf, .inl (cI, 16384, .inl z_documentOf)), (h_order, .inl (cI, 16384, .inl z_order))] H := P_sub hP [1, 2, 3, 0] rfl
    have hD : va_D A [(h_t, .inr (8, [.int u1_0, .ref h_tape, .ref h_row, .ref h_out, .ref h_sought, .int z_size, .int z_outSize, .int z_soughtSize, .int z_documents, .int z_indexed, .int z_suffixes, .int z_rows, .ref h_start, .ref h_documentOf, .ref h_order, .ref h_rankOf, .ref h_same, .ref h_work, .ref h_next, .ref h_often, .ref h_has, .int z_lesser])), (h_start, .inl (cI, 66, .inl z_start)), (h_documentOf, .inl (cI, 16384, .inl z_documentOf)), (h_order, .inl (cI, 16384, .inl z_order))] := hD.sub [1, 2, 3, 0] rfl rfl
    exact W.iret (v := r3) hx hb hr (fun t ht hW => ⟨⟨r3, u1_0, rfl, hv, by rw [ht]; exact hP, va_K.moved hW.alike hK, hD⟩, hS.F ht⟩) hS.2.2 d_MD_suffix_42
  · have hv := hvf c2
    refine lv_iconst (v := 0) hx hb d_MD_suffix_30 (by decide) ?_
    exact W.iret (v := 0) hx hb hr (fun t ht hW => ⟨⟨0, u1_0, rfl, hv, by rw [ht]; exact hP, va_K.moved hW.alike hK, hD⟩, hS.F ht⟩) hS.2.2 d_MD_suffix_31

set_option maxHeartbeats 4000000 in
set_option maxRecDepth 100000 in
theorem wk_MD_suffix_19 {p : Program} {l : Launch} {e : Env} {s : State} {m : MethodId} {below : List Frame} {meth : Method} {c : Code} {A : Nat → Prop} {dC : Nat → ClassId} {dI : Nat → Nat → Nat} {cI cJ cB cZ : ClassId} {h_t : Nat} {h_tape : Nat} {h_row : Nat} {h_out : Nat} {h_sought : Nat} {h_start : Nat} {h_documentOf : Nat} {h_order : Nat} {h_rankOf : Nat} {h_same : Nat} {h_work : Nat} {h_next : Nat} {h_often : Nat} {h_has : Nat} {a_p1 : Int32} {z_suffixes : Int32} {z_start : Nat → Int32} {z_documentOf : Nat → Int32} {z_order : Nat → Int32} {z_size : Int32} {z_outSize : Int32} {z_soughtSize : Int32} {z_documents : Int32} {z_indexed : Int32} {z_rows : Int32} {z_lesser : Int32} {post : Int32 → Int32 → Prop} (F : CallFix p m c b_MD_suffix 2 s ([.ref h_t, .int a_p1] : List Value).toArray WT "SuffixIndexModel") (hr : meth.sig.returnType = (some .int)) (hlk : meth.locks = false) (hK : va_K (dC, dI) classes (TYS cI cJ cB cZ) s) (hA : ∀ q, s.heap.size ≤ q → A q) : ∀ (k1 : Int32) (z_thrown : Int32), vc_MD_suffix_19 a_p1 z_suffixes z_start z_documentOf z_order post k1 z_thrown → ∀ (H : Heap) (locs : List Loc) (ls : Array Slot), va_P (dC, dI) classes [(h_t, .inr (8, [.int z_thrown, .ref h_tape, .ref h_row, .ref h_out, .ref h_sought, .int z_size, .int z_outSize, .int z_soughtSize, .int z_documents, .int z_indexed, .int z_suffixes, .int z_rows, .ref h_start, .ref h_documentOf, .ref h_order, .ref h_rankOf, .ref h_same, .ref h_work, .ref h_next, .ref h_often, .ref h_has, .int z_lesser])), (h_start, .inl (cI, 66, .inl z_start)), (h_documentOf, .inl (cI, 16384, .inl z_documentOf)), (h_order, .inl (cI, 16384, .inl z_order))] H → va_D A [(h_t, .inr (8, [.int z_thrown, .ref h_tape, .ref h_row, .ref h_out, .ref h_sought, .int z_size, .int z_outSize, .int z_soughtSize, .int z_documents, .int z_indexed, .int z_suffixes, .int z_rows, .ref h_start, .ref h_documentOf, .ref h_order, .ref h_rankOf, .ref h_same, .ref h_work, .ref h_next, .ref h_often, .ref h_has, .int z_lesser])), (h_start, .inl (cI, 66, .inl z_start)), (h_documentOf, .inl (cI, 16384, .inl z_documentOf)), (h_order, .inl (cI, 16384, .inl z_order))] → va_S A s.heap H locs → lv_has ls 2 [(0, .ref h_t), (1, .int a_p1)] → W p l e rm_MD_suffix s m ([.ref h_t, .int a_p1] : List Value).toArray below meth c H locs 0 0 (MQ below (va_Qi (fun (r : Int32) (u : Int32) => post r u) (fun u t => cAft (dC, dI) classes (TYS cI cJ cB cZ) A [(h_t, .inr (8, [.int u, .ref h_tape, .ref h_row, .ref h_out, .ref h_sought, .int z_size, .int z_outSize, .int z_soughtSize, .int z_documents, .int z_indexed, .int z_suffixes, .int z_rows, .ref h_start, .ref h_documentOf, .ref h_order, .ref h_rankOf, .ref h_same, .ref h_work, .ref h_next, .ref h_often, .ref h_has, .int z_lesser])), (h_start, .inl (cI, 66, .inl z_start)), (h_documentOf, .inl (cI, 16384, .inl z_documentOf)), (h_order, .inl (cI, 16384, .inl z_order))] t) A) ([.ref h_t, .int a_p1] : List Value).toArray s 0 0 A) (F0 m 19 ls [.int k1, .ref h_t]) := by
  obtain ⟨hx, hb, hml, hown, hw⟩ := id F
  intro k1 z_thrown hv H locs ls hP hD hS hl
  refine lv_iconst (v := 1) hx hb d_MD_suffix_19 (by decide) ?_
  refine lv_goto (tgt := 24) hx hb d_MD_suffix_20 (by decide) ?_
  exact wk_MD_suffix_24 F hr hlk hK hA k1 1 z_thrown hv _ _ _ hP hD hS (lv_sub hl [0, 1] rfl)

set_option maxHeartbeats 4000000 in
set_option maxRecDepth 100000 in
theorem c_MD_suffix (l : Launch) (dC : Nat → ClassId) (dI : Nat → Nat → Nat) (cI cJ cB cZ : ClassId) (h_t : Nat) (h_tape : Nat) (h_row : Nat) (h_out : Nat) (h_sought : Nat) (h_start : Nat) (h_documentOf : Nat) (h_order : Nat) (h_rankOf : Nat) (h_same : Nat) (h_work : Nat) (h_next : Nat) (h_often : Nat) (h_has : Nat) (sz : Nat) (z_thrown : Int32) (z_size : Int32) (z_outSize : Int32) (z_soughtSize : Int32) (z_documents : Int32) (z_indexed : Int32) (z_suffixes : Int32) (z_rows : Int32) (z_lesser : Int32) (z_start : Nat → Int32) (z_documentOf : Nat → Int32) (z_order : Nat → Int32) (a_p1 : Int32) (post : Int32 → Int32 → Prop) (hv : vc_MD_suffix a_p1 z_suffixes z_start z_documentOf z_order post z_thrown) : Met l y_MD_suffix (Cond.code y_MD_suffix b_MD_suffix 2 (some .int) :: WT) rm_MD_suffix (cPre (dC, dI) classes (TYS cI cJ cB cZ) [(h_t, .inr (8, [.int z_thrown, .ref h_tape, .ref h_row, .ref h_out, .ref h_sought, .int z_size, .int z_outSize, .int z_soughtSize, .int z_documents, .int z_indexed, .int z_suffixes, .int z_rows, .ref h_start, .ref h_documentOf, .ref h_order, .ref h_rankOf, .ref h_same, .ref h_work, .ref h_next, .ref h_often, .ref h_has, .int z_lesser])), (h_start, .inl (cI, 66, .inl z_start)), (h_documentOf, .inl (cI, 16384, .inl z_documentOf)), (h_order, .inl (cI, 16384, .inl z_order))] sz [.ref h_t, .int a_p1]) (va_Qi (fun (r : Int32) (u : Int32) => post r u) (fun u t => cAft (dC, dI) classes (TYS cI cJ cB cZ) (va_A [(h_t, .inr (8, [.int z_thrown, .ref h_tape, .ref h_row, .ref h_out, .ref h_sought, .int z_size, .int z_outSize, .int z_soughtSize, .int z_documents, .int z_indexed, .int z_suffixes, .int z_rows, .ref h_start, .ref h_documentOf, .ref h_order, .ref h_rankOf, .ref h_same, .ref h_work, .ref h_next, .ref h_often, .ref h_has, .int z_lesser])), (h_start, .inl (cI, 66, .inl z_start)), (h_documentOf, .inl (cI, 16384, .inl z_documentOf)), (h_order, .inl (cI, 16384, .inl z_order))] sz) [(h_t, .inr (8, [.int u, .ref h_tape, .ref h_row, .ref h_out, .ref h_sought, .int z_size, .int z_outSize, .int z_soughtSize, .int z_documents, .int z_indexed, .int z_suffixes, .int z_rows, .ref h_start, .ref h_documentOf, .ref h_order, .ref h_rankOf, .ref h_same, .ref h_work, .ref h_next, .ref h_often, .ref h_has, .int z_lesser])), (h_start, .inl (cI, 66, .inl z_start)), (h_documentOf, .inl (cI, 16384, .inl z_documentOf)), (h_order, .inl (cI, 16384, .inl z_order))] t) (va_A [(h_t, .inr (8, [.int z_thrown, .ref h_tape, .ref h_row, .ref h_out, .ref h_sought, .int z_size, .int z_outSize, .int z_soughtSize, .int z_documents, .int z_indexed, .int z_suffixes, .int z_rows, .ref h_start, .ref h_documentOf, .ref h_order, .ref h_rankOf, .ref h_same, .ref h_work, .ref h_next, .ref h_often, .ref h_has, .int z_lesser])), (h_start, .inl (cI, 66, .inl z_start)), (h_documentOf, .inl (cI, 16384, .inl z_documentOf)), (h_order, .inl (cI, 16384, .inl z_order))] sz)) 0 0 (va_A [(h_t, .inr (8, [.int z_thrown, .ref h_tape, .ref h_row, .ref h_out, .ref h_sought, .int z_size, .int z_outSize, .int z_soughtSize, .int z_documents, .int z_indexed, .int z_suffixes, .int z_rows, .ref h_start, .ref h_documentOf, .ref h_order, .ref h_rankOf, .ref h_same, .ref h_work, .ref h_next, .ref h_often, .ref h_has, .int z_lesser])), (h_start, .inl (cI, 66, .inl z_start)), (h_documentOf, .inl (cI, 16384, .inl z_documentOf)), (h_order, .inl (cI, 16384, .inl z_order))] sz) := by
  refine Met.ofW (cc := b_MD_suffix) (maxL := 2) (ret := (some .int)) (by decide) rfl ?_
  intro p e s m args below meth c s₁ B hml hq
  obtain ⟨rfl, hsz, hP, hK, hD0⟩ := hq
  have hts := atoms_spec (ws := Cond.code y_MD_suffix b_MD_suffix 2 (some .int) :: WT) B.pre
  have hw : ∀ w ∈ WT, w.before ([.ref h_t, .int a_p1] : List Value).toArray s = true := fun w h => hts w (List.mem_cons_of_mem _ h)
  have hx := B.exec
  have hb := B.bytes
  have hr := B.returns
  have hlk := B.notSynchronized
  have hown : s.vm.findClass "SuffixIndexModel" = some m.cls := findClass_of_methodNamed B.named
  have F : CallFix p m c b_MD_suffix 2 s ([.ref h_t, .int a_p1] : List Value).toArray WT "SuffixIndexModel" := ⟨hx, hb, hml, hown, hw⟩
  subst hsz
  have hD := hD0.self (sz := s.heap.size)
  generalize hAe : va_A [(h_t, .inr (8, [.int z_thrown, .ref h_tape, .ref h_row, .ref h_out, .ref h_sought, .int z_size, .int z_outSize, .int z_soughtSize, .int z_documents, .int z_indexed, .int z_suffixes, .int z_rows, .ref h_start, .ref h_documentOf, .ref h_order, .ref h_rankOf, .ref h_same, .ref h_work, .ref h_next, .ref h_often, .ref h_has, .int z_lesser])), (h_start, .inl (cI, 66, .inl z_start)), (h_documentOf, .inl (cI, 16384, .inl z_documentOf)), (h_order, .inl (cI, 16384, .inl z_order))] s.heap.size = A at hD ⊢
  have hA : ∀ q : Nat, s.heap.size ≤ q → A q := fun q h => by rw [← hAe]; exact Or.inr h
  have hS : va_S A s.heap s.heap [] := va_S.rf
  have hl := lv_entry ([.ref h_t, .int a_p1]) (n := 2) (Nat.le_of_ble_eq_true rfl)
  rw [lg_entry_eq]
  generalize (lg_sl ([.ref h_t, .int a_p1]) ++ List.replicate (2 - (lg_sl ([.ref h_t, .int a_p1])).length) Slot.unset).toArray = ls at hl ⊢
  have hl : lv_has ls 2 [(0, .ref h_t), (1, .int a_p1)] := hl
  show W p l e rm_MD_suffix s m _ below meth c s.heap [] 0 0 _ _
  have hP : va_P (dC, dI) classes [(h_t, .inr (8, [.int z_thrown, .ref h_tape, .ref h_row, .ref h_out, .ref h_sought, .int z_size, .int z_outSize, .int z_soughtSize, .int z_documents, .int z_indexed, .int z_suffixes, .int z_rows, .ref h_start, .ref h_documentOf, .ref h_order, .ref h_rankOf, .ref h_same, .ref h_work, .ref h_next, .ref h_often, .ref h_has, .int z_lesser])), (h_start, .inl (cI, 66, .inl z_start)), (h_documentOf, .inl (cI, 16384, .inl z_documentOf)), (h_order, .inl (cI, 16384, .inl z_order))] s.heap := hP
  obtain ⟨H, hHe⟩ : ∃ H, H = s.heap := ⟨_, rfl⟩
  have hS : va_S A s.heap H [] := by rw [hHe]; exact hS
  rw [← hHe] at hP
  suffices hgoal : W p l e rm_MD_suffix s m ([.ref h_t, .int a_p1] : List Value).toArray below meth c H [] 0 0 (MQ below (va_Qi (fun (r : Int32) (u : Int32) => post r u) (fun u t => cAft (dC, dI) classes (TYS cI cJ cB cZ) A [(h_t, .inr (8, [.int u, .ref h_tape, .ref h_row, .ref h_out, .ref h_sought, .int z_size, .int z_outSize, .int z_soughtSize, .int z_documents, .int z_indexed, .int z_suffixes, .int z_rows, .ref h_start, .ref h_documentOf, .ref h_order, .ref h_rankOf, .ref h_same, .ref h_work, .ref h_next, .ref h_often, .ref h_has, .int z_lesser])), (h_start, .inl (cI, 66, .inl z_start)), (h_documentOf, .inl (cI, 16384, .inl z_documentOf)), (h_order, .inl (cI, 16384, .inl z_order))] t) A) ([.ref h_t, .int a_p1] : List Value).toArray s 0 0 A) (F0 m 0 ls []) by rw [hHe] at hgoal; exact hgoal
  refine lv_aload_n hx hb d_MD_suffix_0 rfl (lv_at hl 0 rfl) ?_
  refine lv_iconst (v := 0) hx hb d_MD_suffix_1 (by decide) ?_
  refine va_put (D := (dC, dI)) (ci := 8) (v := .int 0) (ty := .int) (C := "SuffixIndexModel") (T := F_MD) (N := 22) hx hb hw i_MD t_MD t_MD_ok n_MD hown hK hP hD hS 0 rfl rfl 0 (by decide) (hw _ m_1101) (fun _ h9 => h9) rfl (by decide +kernel) rfl rfl (Nat.le_of_ble_eq_true rfl) d_MD_suffix_2 (fun H locs hP hD hS => ?_)
  have hP : va_P (dC, dI) classes [(h_t, .inr (8, [.int 0, .ref h_tape, .ref h_row, .ref h_out, .ref h_sought, .int z_size, .int z_outSize, .int z_soughtSize, .int z_documents, .int z_indexed, .int z_suffixes, .int z_rows, .ref h_start, .ref h_documentOf, .ref h_order, .ref h_rankOf, .ref h_same, .ref h_work, .ref h_next, .ref h_often, .ref h_has, .int z_lesser])), (h_start, .inl (cI, 66, .inl z_start)), (h_documentOf, .inl (cI, 16384, .inl z_documentOf)), (h_order, .inl (cI, 16384, .inl z_order))] H := hP
  have hD : va_D A [(h_t, .inr (8, [.int 0, .ref h_tape, .ref h_row, .ref h_out, .ref h_sought, .int z_size, .int z_outSize, .int z_soughtSize, .int z_documents, .int z_indexed, .int z_suffixes, .int z_rows, .ref h_start, .ref h_documentOf, .ref h_order, .ref h_rankOf, .ref h_same, .ref h_work, .ref h_next, .ref h_often, .ref h_has, .int z_lesser])), (h_start, .inl (cI, 66, .inl z_start)), (h_documentOf, .inl (cI, 16384, .inl z_documentOf)), (h_order, .inl (cI, 16384, .inl z_order))] := hD
  refine lv_aload_n hx hb d_MD_suffix_5 rfl (lv_at hl 0 rfl) ?_
  refine lv_iconst (v := 1) hx hb d_MD_suffix_6 (by decide) ?_
  refine lv_iload_n hx hb d_MD_suffix_7 rfl (lv_at hl 1 rfl) ?_
  obtain ⟨hvt, hvf⟩ := hv
  refine lv_if_lt (tgt := 19) hx hb d_MD_suffix_8 (by decide) (fun c4 => ?_) (fun c4 => ?_)
  · have hv := hvt c4
    exact wk_MD_suffix_19 F hr hlk hK hA 1 0 hv _ _ _ hP hD hS (lv_sub hl [0, 1] rfl)
  · have hv := hvf c4
    refine lv_iload_n hx hb d_MD_suffix_11 rfl (lv_at hl 1 rfl) ?_
    refine lv_aload_n hx hb d_MD_suffix_12 rfl (lv_at hl 0 rfl) ?_
    refine va_get (D := (dC, dI)) (ci := 8) (v := .int z_suffixes) (C := "SuffixIndexModel") (T := F_MD) (N := 22) hx hb hw i_MD hown hK hP 0 rfl rfl 10 (by decide) (hw _ m_1111) (fun _ h9 => h9) rfl d_MD_suffix_13 ?_
    obtain ⟨hvt, hvf⟩ := hv
    refine lv_icmp_lt (tgt := 23) hx hb d_MD_suffix_16 (by decide) (fun c5 => ?_) (fun c5 => ?_)
    · have hv := hvt c5
      refine lv_iconst (v := 0) hx hb d_MD_suffix_23 (by decide) ?_
      exact wk_MD_suffix_24 F hr hlk hK hA 1 0 0 hv _ _ _ hP hD hS (lv_sub hl [0, 1] rfl)
    · have hv := hvf c5
      exact wk_MD_suffix_19 F hr hlk hK hA 1 0 hv _ _ _ hP hD hS (lv_sub hl [0, 1] rfl)

set_option maxHeartbeats 4000000 in
set_option maxRecDepth 100000 in
theorem wk_MD_rank_22 {p : Program} {l : Launch} {e : Env} {s : State} {m : MethodId} {below : List Frame} {meth : Method} {c : Code} {A : Nat → Prop} {dC : Nat → ClassId} {dI : Nat → Nat → Nat} {cI cJ cB cZ : ClassId} {h_t : Nat} {h_tape : Nat} {h_row : Nat} {h_out : Nat} {h_sought : Nat} {h_start : Nat} {h_documentOf : Nat} {h_order : Nat} {h_rankOf : Nat} {h_same : Nat} {h_work : Nat} {h_next : Nat} {h_often : Nat} {h_has : Nat} {a_p1 : Int32} {z_indexed : Int32} {z_start : Nat → Int32} {z_rankOf : Nat → Int32} {z_size : Int32} {z_outSize : Int32} {z_soughtSize : Int32} {z_documents : Int32} {z_suffixes : Int32} {z_rows : Int32} {z_lesser : Int32} {post : Int32 → Int32 → Prop} (F : CallFix p m c b_MD_rank 3 s ([.ref h_t, .int a_p1] : List Value).toArray WT "SuffixIndexModel") (hr : meth.sig.returnType = (some .int)) (hlk : meth.locks = false) (hK : va_K (dC, dI) classes (TYS cI cJ cB cZ) s) (hA : ∀ q, s.heap.size ≤ q → A q) : ∀ (x2 : Int32) (k1 : Int32) (k2 : Int32) (z_thrown : Int32), vc_MD_rank_22 a_p1 z_indexed z_start z_rankOf post x2 k1 k2 z_thrown → ∀ (H : Heap) (locs : List Loc) (ls : Array Slot), va_P (dC, dI) classes [(h_t, .inr (8, [.int z_thrown, .ref h_tape, .ref h_row, .ref h_out, .ref h_sought, .int z_size, .int z_outSize, .int z_soughtSize, .int z_documents, .int z_indexed, .int z_suffixes, .int z_rows, .ref h_start, .ref h_documentOf, .ref h_order, .ref h_rankOf, .ref h_same, .ref h_work, .ref h_next, .ref h_often, .ref h_has, .int z_lesser])), (h_start, .inl (cI, 66, .inl z_start)), (h_rankOf, .inl (cI, 16384, .inl z_rankOf))] H → va_D A [(h_t, .inr (8, [.int z_thrown, .ref h_tape, .ref h_row, .ref h_out, .ref h_sought, .int z_size, .int z_outSize, .int z_soughtSize, .int z_documents, .int z_indexed, .int z_suffixes, .int z_rows, .ref h_start, .ref h_documentOf, .ref h_order, .ref h_rankOf, .ref h_same, .ref h_work, .ref h_next, .ref h_often, .ref h_has, .int z_lesser])), (h_start, .inl (cI, 66, .inl z_start)), (h_rankOf, .inl (cI, 16384, .inl z_rankOf))] → va_S A s.heap H locs → lv_has ls 3 [(0, .ref h_t), (2, .int x2)] → W p l e rm_MD_rank s m ([.ref h_t, .int a_p1] : List Value).toArray below meth c H locs 0 0 (MQ below (va_Qi (fun (r : Int32) (u : Int32) => post r u) (fun u t => cAft (dC, dI) classes (TYS cI cJ cB cZ) A [(h_t, .inr (8, [.int u, .ref h_tape, .ref h_row, .ref h_out, .ref h_sought, .int z_size, .int z_outSize, .int z_soughtSize, .int z_documents, .int z_indexed, .int z_suffixes, .int z_rows, .ref h_start, .ref h_documentOf, .ref h_order, .ref h_rankOf, .ref h_same, .ref h_work, .ref h_next, .ref h_often, .ref h_has, .int z_lesser])), (h_start, .inl (cI, 66, .inl z_start)), (h_rankOf, .inl (cI, 16384, .inl z_rankOf))] t) A) ([.ref h_t, .int a_p1] : List Value).toArray s 0 0 A) (F0 m 22 ls [.int k2, .int k1, .ref h_t]) := by
  obtain ⟨hx, hb, hml, hown, hw⟩ := id F
  intro x2 k1 k2 z_thrown hv H locs ls hP hD hS hl
  refine cV_i (wr := [(h_start, .inl (cI, 66, .inl z_start)), (h_rankOf, .inl (cI, 16384, .inl z_rankOf))]) (rest := []) (c_MD_refuse l dC dI cI cJ cB cZ h_t h_tape h_row h_out h_sought h_start h_documentOf h_order h_rankOf h_same h_work h_next h_often h_has H.size z_thrown z_size z_outSize z_soughtSize z_documents z_indexed z_suffixes z_rows z_lesser k1 k2 _ hv) F (cw_V (fun _ h => h) 2 hw m_1177 m_1179 ms_29 m_9 m_1180 rfl rfl (by decide +kernel) ⟨by decide, by decide⟩) hK hP hD hS hA [0] [1, 2] rfl rfl rfl rfl (by decide) 0 8 rfl rfl rfl hl.1 rfl (Nat.le_of_ble_eq_true rfl) d_MD_rank_22 ⟨Nat.le_of_ble_eq_true rfl, Nat.le_of_ble_eq_true rfl⟩ (fun r1 u H locs hv hP hD hS => ?_)
  obtain ⟨u1_0, rfl⟩ : ∃ z, z = u := ⟨_, rfl⟩
  have hP : va_P (dC, dI) classes [(h_t, .inr (8, [.int u1_0, .ref h_tape, .ref h_row, .ref h_out, .ref h_sought, .int z_size, .int z_outSize, .int z_soughtSize, .int z_documents, .int z_indexed, .int z_suffixes, .int z_rows, .ref h_start, .ref h_documentOf, .ref h_order, .ref h_rankOf, .ref h_same, .ref h_work, .ref h_next, .ref h_often, .ref h_has, .int z_lesser])), (h_start, .inl (cI, 66, .inl z_start)), (h_rankOf, .inl (cI, 16384, .inl z_rankOf))] H := P_sub hP [2, 0, 1] rfl
  have hD : va_D A [(h_t, .inr (8, [.int u1_0, .ref h_tape, .ref h_row, .ref h_out, .ref h_sought, .int z_size, .int z_outSize, .int z_soughtSize, .int z_documents, .int z_indexed, .int z_suffixes, .int z_rows, .ref h_start, .ref h_documentOf, .ref h_order, .ref h_rankOf, .ref h_same, .ref h_work, .ref h_next, .ref h_often, .ref h_has, .int z_lesser])), (h_start, .inl (cI, 66, .inl z_start)), (h_rankOf, .inl (cI, 16384, .inl z_rankOf))] := hD.sub [2, 0, 1] rfl rfl
  obtain ⟨hvt, hvf⟩ := hv
  refine lv_if_eq (tgt := 30) hx hb d_MD_rank_25 (by decide) (fun c2 => ?_) (fun c2 => ?_)
  · have hv := hvt c2
    refine lv_aload_n hx hb d_MD_rank_30 rfl (lv_at hl 0 rfl) ?_
    refine va_get (D := (dC, dI)) (ci := 8) (v := .ref h_rankOf) (C := "SuffixIndexModel") (T := F_MD) (N := 22) hx hb hw i_MD hown hK hP 0 rfl rfl 15 (by decide) (hw _ m_1116) (fun _ h9 => h9) rfl d_MD_rank_31 ?_
    refine lv_iload_n hx hb d_MD_rank_34 rfl (lv_at hl 1 rfl) ?_
    obtain ⟨hin, hv⟩ := hv
    refine va_iald hx hb hK hP 2 0 rfl rfl hin d_MD_rank_35 ?_
    exact W.iret (v := (z_rankOf x2.toNatClampNeg)) hx hb hr (fun t ht hW => ⟨⟨(z_rankOf x2.toNatClampNeg), u1_0, rfl, hv, by rw [ht]; exact hP, va_K.moved hW.alike hK, hD⟩, hS.F ht⟩) hS.2.2 d_MD_rank_36
  · have hv := hvf c2
    refine lv_iconst (v := 0) hx hb d_MD_rank_28 (by decide) ?_
    exact W.iret (v := 0) hx hb hr (fun t ht hW => ⟨⟨0, u1_0, rfl, hv, by rw [ht]; exact hP, va_K.moved hW.alike hK, hD⟩, hS.F ht⟩) hS.2.2 d_MD_rank_29

set_option maxHeartbeats 4000000 in
set_option maxRecDepth 100000 in
theorem c_MD_rank (l : Launch) (dC : Nat → ClassId) (dI : Nat → Nat → Nat) (cI cJ cB cZ : ClassId) (h_t : Nat) (h_tape : Nat) (h_row : Nat) (h_out : Nat) (h_sought : Nat) (h_start : Nat) (h_documentOf : Nat) (h_order : Nat) (h_rankOf : Nat) (h_same : Nat) (h_work : Nat) (h_next : Nat) (h_often : Nat) (h_has : Nat) (sz : Nat) (z_thrown : Int32) (z_size : Int32) (z_outSize : Int32) (z_soughtSize : Int32) (z_documents : Int32) (z_indexed : Int32) (z_suffixes : Int32) (z_rows : Int32) (z_lesser : Int32) (z_start : Nat → Int32) (z_rankOf : Nat → Int32) (a_p1 : Int32) (post : Int32 → Int32 → Prop) (hv : vc_MD_rank a_p1 z_indexed z_start z_rankOf post z_thrown) : Met l y_MD_rank (Cond.code y_MD_rank b_MD_rank 3 (some .int) :: WT) rm_MD_rank (cPre (dC, dI) classes (TYS cI cJ cB cZ) [(h_t, .inr (8, [.int z_thrown, .ref h_tape, .ref h_row, .ref h_out, .ref h_sought, .int z_size, .int z_outSize, .int z_soughtSize, .int z_documents, .int z_indexed, .int z_suffixes, .int z_rows, .ref h_start, .ref h_documentOf, .ref h_order, .ref h_rankOf, .ref h_same, .ref h_work, .ref h_next, .ref h_often, .ref h_has, .int z_lesser])), (h_start, .inl (cI, 66, .inl z_start)), (h_rankOf, .inl (cI, 16384, .inl z_rankOf))] sz [.ref h_t, .int a_p1]) (va_Qi (fun (r : Int32) (u : Int32) => post r u) (fun u t => cAft (dC, dI) classes (TYS cI cJ cB cZ) (va_A [(h_t, .inr (8, [.int z_thrown, .ref h_tape, .ref h_row, .ref h_out, .ref h_sought, .int z_size, .int z_outSize, .int z_soughtSize, .int z_documents, .int z_indexed, .int z_suffixes, .int z_rows, .ref h_start, .ref h_documentOf, .ref h_order, .ref h_rankOf, .ref h_same, .ref h_work, .ref h_next, .ref h_often, .ref h_has, .int z_lesser])), (h_start, .inl (cI, 66, .inl z_start)), (h_rankOf, .inl (cI, 16384, .inl z_rankOf))] sz) [(h_t, .inr (8, [.int u, .ref h_tape, .ref h_row, .ref h_out, .ref h_sought, .int z_size, .int z_outSize, .int z_soughtSize, .int z_documents, .int z_indexed, .int z_suffixes, .int z_rows, .ref h_start, .ref h_documentOf, .ref h_order, .ref h_rankOf, .ref h_same, .ref h_work, .ref h_next, .ref h_often, .ref h_has, .int z_lesser])), (h_start, .inl (cI, 66, .inl z_start)), (h_rankOf, .inl (cI, 16384, .inl z_rankOf))] t) (va_A [(h_t, .inr (8, [.int z_thrown, .ref h_tape, .ref h_row, .ref h_out, .ref h_sought, .int z_size, .int z_outSize, .int z_soughtSize, .int z_documents, .int z_indexed, .int z_suffixes, .int z_rows, .ref h_start, .ref h_documentOf, .ref h_order, .ref h_rankOf, .ref h_same, .ref h_work, .ref h_next, .ref h_often, .ref h_has, .int z_lesser])), (h_start, .inl (cI, 66, .inl z_start)), (h_rankOf, .inl (cI, 16384, .inl z_rankOf))] sz)) 0 0 (va_A [(h_t, .inr (8, [.int z_thrown, .ref h_tape, .ref h_row, .ref h_out, .ref h_sought, .int z_size, .int z_outSize, .int z_soughtSize, .int z_documents, .int z_indexed, .int z_suffixes, .int z_rows, .ref h_start, .ref h_documentOf, .ref h_order, .ref h_rankOf, .ref h_same, .ref h_work, .ref h_next, .ref h_often, .ref h_has, .int z_lesser])), (h_start, .inl (cI, 66, .inl z_start)), (h_rankOf, .inl (cI, 16384, .inl z_rankOf))] sz) := by
  refine Met.ofW (cc := b_MD_rank) (maxL := 3) (ret := (some .int)) (by decide) rfl ?_
  intro p e s m args below meth c s₁ B hml hq
  obtain ⟨rfl, hsz, hP, hK, hD0⟩ := hq
  have hts := atoms_spec (ws := Cond.code y_MD_rank b_MD_rank 3 (some .int) :: WT) B.pre
  have hw : ∀ w ∈ WT, w.before ([.ref h_t, .int a_p1] : List Value).toArray s = true := fun w h => hts w (List.mem_cons_of_mem _ h)
  have hx := B.exec
  have hb := B.bytes
  have hr := B.returns
  have hlk := B.notSynchronized
  have hown : s.vm.findClass "SuffixIndexModel" = some m.cls := findClass_of_methodNamed B.named
  have F : CallFix p m c b_MD_rank 3 s ([.ref h_t, .int a_p1] : List Value).toArray WT "SuffixIndexModel" := ⟨hx, hb, hml, hown, hw⟩
  subst hsz
  have hD := hD0.self (sz := s.heap.size)
  generalize hAe : va_A [(h_t, .inr (8, [.int z_thrown, .ref h_tape, .ref h_row, .ref h_out, .ref h_sought, .int z_size, .int z_outSize, .int z_soughtSize, .int z_documents, .int z_indexed, .int z_suffixes, .int z_rows, .ref h_start, .ref h_documentOf, .ref h_order, .ref h_rankOf, .ref h_same, .ref h_work, .ref h_next, .ref h_often, .ref h_has, .int z_lesser])), (h_start, .inl (cI, 66, .inl z_start)), (h_rankOf, .inl (cI, 16384, .inl z_rankOf))] s.heap.size = A at hD ⊢
  have hA : ∀ q : Nat, s.heap.size ≤ q → A q := fun q h => by rw [← hAe]; exact Or.inr h
  have hS : va_S A s.heap s.heap [] := va_S.rf
  have hl := lv_entry ([.ref h_t, .int a_p1]) (n := 3) (Nat.le_of_ble_eq_true rfl)
  rw [lg_entry_eq]
  generalize (lg_sl ([.ref h_t, .int a_p1]) ++ List.replicate (3 - (lg_sl ([.ref h_t, .int a_p1])).length) Slot.unset).toArray = ls at hl ⊢
  have hl : lv_has ls 3 [(0, .ref h_t), (1, .int a_p1)] := hl
  show W p l e rm_MD_rank s m _ below meth c s.heap [] 0 0 _ _
  have hP : va_P (dC, dI) classes [(h_t, .inr (8, [.int z_thrown, .ref h_tape, .ref h_row, .ref h_out, .ref h_sought, .int z_size, .int z_outSize, .int z_soughtSize, .int z_documents, .int z_indexed, .int z_suffixes, .int z_rows, .ref h_start, .ref h_documentOf, .ref h_order, .ref h_rankOf, .ref h_same, .ref h_work, .ref h_next, .ref h_often, .ref h_has, .int z_lesser])), (h_start, .inl (cI, 66, .inl z_start)), (h_rankOf, .inl (cI, 16384, .inl z_rankOf))] s.heap := hP
  obtain ⟨H, hHe⟩ : ∃ H, H = s.heap := ⟨_, rfl⟩
  have hS : va_S A s.heap H [] := by rw [hHe]; exact hS
  rw [← hHe] at hP
  suffices hgoal : W p l e rm_MD_rank s m ([.ref h_t, .int a_p1] : List Value).toArray below meth c H [] 0 0 (MQ below (va_Qi (fun (r : Int32) (u : Int32) => post r u) (fun u t => cAft (dC, dI) classes (TYS cI cJ cB cZ) A [(h_t, .inr (8, [.int u, .ref h_tape, .ref h_row, .ref h_out, .ref h_sought, .int z_size, .int z_outSize, .int z_soughtSize, .int z_documents, .int z_indexed, .int z_suffixes, .int z_rows, .ref h_start, .ref h_documentOf, .ref h_order, .ref h_rankOf, .ref h_same, .ref h_work, .ref h_next, .ref h_often, .ref h_has, .int z_lesser])), (h_start, .inl (cI, 66, .inl z_start)), (h_rankOf, .inl (cI, 16384, .inl z_rankOf))] t) A) ([.ref h_t, .int a_p1] : List Value).toArray s 0 0 A) (F0 m 0 ls []) by rw [hHe] at hgoal; exact hgoal
  refine lv_aload_n hx hb d_MD_rank_0 rfl (lv_at hl 0 rfl) ?_
  refine lv_iconst (v := 0) hx hb d_MD_rank_1 (by decide) ?_
  refine va_put (D := (dC, dI)) (ci := 8) (v := .int 0) (ty := .int) (C := "SuffixIndexModel") (T := F_MD) (N := 22) hx hb hw i_MD t_MD t_MD_ok n_MD hown hK hP hD hS 0 rfl rfl 0 (by decide) (hw _ m_1101) (fun _ h9 => h9) rfl (by decide +kernel) rfl rfl (Nat.le_of_ble_eq_true rfl) d_MD_rank_2 (fun H locs hP hD hS => ?_)
  have hP : va_P (dC, dI) classes [(h_t, .inr (8, [.int 0, .ref h_tape, .ref h_row, .ref h_out, .ref h_sought, .int z_size, .int z_outSize, .int z_soughtSize, .int z_documents, .int z_indexed, .int z_suffixes, .int z_rows, .ref h_start, .ref h_documentOf, .ref h_order, .ref h_rankOf, .ref h_same, .ref h_work, .ref h_next, .ref h_often, .ref h_has, .int z_lesser])), (h_start, .inl (cI, 66, .inl z_start)), (h_rankOf, .inl (cI, 16384, .inl z_rankOf))] H := hP
  have hD : va_D A [(h_t, .inr (8, [.int 0, .ref h_tape, .ref h_row, .ref h_out, .ref h_sought, .int z_size, .int z_outSize, .int z_soughtSize, .int z_documents, .int z_indexed, .int z_suffixes, .int z_rows, .ref h_start, .ref h_documentOf, .ref h_order, .ref h_rankOf, .ref h_same, .ref h_work, .ref h_next, .ref h_often, .ref h_has, .int z_lesser])), (h_start, .inl (cI, 66, .inl z_start)), (h_rankOf, .inl (cI, 16384, .inl z_rankOf))] := hD
  refine lv_aload_n hx hb d_MD_rank_5 rfl (lv_at hl 0 rfl) ?_
  refine lv_iload_n hx hb d_MD_rank_6 rfl (lv_at hl 1 rfl) ?_
  refine cV_i (wr := [(h_rankOf, .inl (cI, 16384, .inl z_rankOf))]) (rest := []) (c_MD_placeOf l dC dI cI cJ cB cZ h_t h_tape h_row h_out h_sought h_start h_documentOf h_order h_rankOf h_same h_work h_next h_often h_has H.size 0 z_size z_outSize z_soughtSize z_documents z_indexed z_suffixes z_rows z_lesser z_start a_p1 _ hv) F (cw_V (fun _ h => h) 1 hw m_1259 m_1261 ms_38 m_9 m_1262 rfl rfl (by decide +kernel) ⟨by decide, by decide⟩) hK hP hD hS hA [0, 1] [2] rfl rfl rfl rfl (by decide) 0 8 rfl rfl rfl hl.1 rfl (Nat.le_of_ble_eq_true rfl) d_MD_rank_7 ⟨Nat.le_of_ble_eq_true rfl, Nat.le_of_ble_eq_true rfl⟩ (fun r3 u H locs hv hP hD hS => ?_)
  have hP : va_P (dC, dI) classes [(h_t, .inr (8, [.int 0, .ref h_tape, .ref h_row, .ref h_out, .ref h_sought, .int z_size, .int z_outSize, .int z_soughtSize, .int z_documents, .int z_indexed, .int z_suffixes, .int z_rows, .ref h_start, .ref h_documentOf, .ref h_order, .ref h_rankOf, .ref h_same, .ref h_work, .ref h_next, .ref h_often, .ref h_has, .int z_lesser])), (h_start, .inl (cI, 66, .inl z_start)), (h_rankOf, .inl (cI, 16384, .inl z_rankOf))] H := P_sub hP [1, 2, 0] rfl
  have hD : va_D A [(h_t, .inr (8, [.int 0, .ref h_tape, .ref h_row, .ref h_out, .ref h_sought, .int z_size, .int z_outSize, .int z_soughtSize, .int z_documents, .int z_indexed, .int z_suffixes, .int z_rows, .ref h_start, .ref h_documentOf, .ref h_order, .ref h_rankOf, .ref h_same, .ref h_work, .ref h_next, .ref h_often, .ref h_has, .int z_lesser])), (h_start, .inl (cI, 66, .inl z_start)), (h_rankOf, .inl (cI, 16384, .inl z_rankOf))] := hD.sub [1, 2, 0] rfl rfl
  refine lv_istore_n (lv' := [(2, .int r3), (0, .ref h_t), (1, .int a_p1)]) hx hb d_MD_rank_10 rfl hl (by decide) rfl (fun ls hl => ?_)
  refine lv_aload_n hx hb d_MD_rank_11 rfl (lv_at hl 1 rfl) ?_
  refine lv_iconst (v := 1) hx hb d_MD_rank_12 (by decide) ?_
  refine lv_iload_n hx hb d_MD_rank_13 rfl (lv_at hl 0 rfl) ?_
  obtain ⟨hvt, hvf⟩ := hv
  refine lv_if_ge (tgt := 21) hx hb d_MD_rank_14 (by decide) (fun c4 => ?_) (fun c4 => ?_)
  · have hv := hvt c4
    refine lv_iconst (v := 0) hx hb d_MD_rank_21 (by decide) ?_
    exact wk_MD_rank_22 F hr hlk hK hA r3 1 0 0 hv _ _ _ hP hD hS (lv_sub hl [1, 0] rfl)
  · have hv := hvf c4
    refine lv_iconst (v := 1) hx hb d_MD_rank_17 (by decide) ?_
    refine lv_goto (tgt := 22) hx hb d_MD_rank_18 (by decide) ?_
    exact wk_MD_rank_22 F hr hlk hK hA r3 1 1 0 hv _ _ _ hP hD hS (lv_sub hl [1, 0] rfl)

set_option maxHeartbeats 4000000 in
set_option maxRecDepth 100000 in
theorem wk_MD_common_34 {p : Program} {l : Launch} {e : Env} {s : State} {m : MethodId} {below : List Frame} {meth : Method} {c : Code} {A : Nat → Prop} {dC : Nat → ClassId} {dI : Nat → Nat → Nat} {cI cJ cB cZ : ClassId} {h_t : Nat} {h_tape : Nat} {h_row : Nat} {h_out : Nat} {h_sought : Nat} {h_start : Nat} {h_documentOf : Nat} {h_order : Nat} {h_rankOf : Nat} {h_same : Nat} {h_work : Nat} {h_next : Nat} {h_often : Nat} {h_has : Nat} {a_p1 : Int32} {a_p2 : Int32} {z_indexed : Int32} {z_row : Nat → Int32} {z_start : Nat → Int32} {z_documentOf : Nat → Int32} {z_size : Int32} {z_outSize : Int32} {z_soughtSize : Int32} {z_documents : Int32} {z_suffixes : Int32} {z_rows : Int32} {z_lesser : Int32} {post : Int32 → Int32 → Prop} (F : CallFix p m c b_MD_common 5 s ([.ref h_t, .int a_p1, .int a_p2] : List Value).toArray WT "SuffixIndexModel") (hr : meth.sig.returnType = (some .int)) (hlk : meth.locks = false) (hK : va_K (dC, dI) classes (TYS cI cJ cB cZ) s) (hA : ∀ q, s.heap.size ≤ q → A q) : ∀ (x3 : Int32) (x4 : Int32) (k1 : Int32) (k2 : Int32) (z_thrown : Int32), vc_MD_common_34 a_p1 a_p2 z_indexed z_row z_start z_documentOf post x3 x4 k1 k2 z_thrown → ∀ (H : Heap) (locs : List Loc) (ls : Array Slot), va_P (dC, dI) classes [(h_t, .inr (8, [.int z_thrown, .ref h_tape, .ref h_row, .ref h_out, .ref h_sought, .int z_size, .int z_outSize, .int z_soughtSize, .int z_documents, .int z_indexed, .int z_suffixes, .int z_rows, .ref h_start, .ref h_documentOf, .ref h_order, .ref h_rankOf, .ref h_same, .ref h_work, .ref h_next, .ref h_often, .ref h_has, .int z_lesser])), (h_row, .inl (cB, 16384, .inl z_row)), (h_start, .inl (cI, 66, .inl z_start)), (h_documentOf, .inl (cI, 16384, .inl z_documentOf))] H → va_D A [(h_t, .inr (8, [.int z_thrown, .ref h_tape, .ref h_row, .ref h_out, .ref h_sought, .int z_size, .int z_outSize, .int z_soughtSize, .int z_documents, .int z_indexed, .int z_suffixes, .int z_rows, .ref h_start, .ref h_documentOf, .ref h_order, .ref h_rankOf, .ref h_same, .ref h_work, .ref h_next, .ref h_often, .ref h_has, .int z_lesser])), (h_row, .inl (cB, 16384, .inl z_row)), (h_start, .inl (cI, 66, .inl z_start)), (h_documentOf, .inl (cI, 16384, .inl z_documentOf))] → va_S A s.heap H locs → lv_has ls 5 [(0, .ref h_t), (3, .int x3), (4, .int x4)] → W p l e rm_MD_common s m ([.ref h_t, .int a_p1, .int a_p2] : List Value).toArray below meth c H locs 0 0 (MQ below (va_Qi (fun (r : Int32) (u : Int32) => post r u) (fun u t => cAft (dC, dI) classes (TYS cI cJ cB cZ) A [(h_t, .inr (8, [.int u, .ref h_tape, .ref h_row, .ref h_out, .ref h_sought, .int z_size, .int z_outSize, .int z_soughtSize, .int z_documents, .int z_indexed, .int z_suffixes, .int z_rows, .ref h_start, .ref h_documentOf, .ref h_order, .ref h_rankOf, .ref h_same, .ref h_work, .ref h_next, .ref h_often, .ref h_has, .int z_lesser])), (h_row, .inl (cB, 16384, .inl z_row)), (h_start, .inl (cI, 66, .inl z_start)), (h_documentOf, .inl (cI, 16384, .inl z_documentOf))] t) A) ([.ref h_t, .int a_p1, .int a_p2] : List Value).toArray s 0 0 A) (F0 m 34 ls [.int k2, .int k1, .ref h_t]) := by
  obtain ⟨hx, hb, hml, hown, hw⟩ := id F
  intro x3 x4 k1 k2 z_thrown hv H locs ls hP hD hS hl
  refine cV_i (wr := [(h_row, .inl (cB, 16384, .inl z_row)), (h_start, .inl (cI, 66, .inl z_start)), (h_documentOf, .inl (cI, 16384, .inl z_documentOf))]) (rest := []) (c_MD_refuse l dC dI cI cJ cB cZ h_t h_tape h_row h_out h_sought h_start h_documentOf h_order h_rankOf h_same h_work h_next h_often h_has H.size z_thrown z_size z_outSize z_soughtSize z_documents z_indexed z_suffixes z_rows z_lesser k1 k2 _ hv) F (cw_V (fun _ h => h) 2 hw m_1177 m_1179 ms_29 m_9 m_1180 rfl rfl (by decide +kernel) ⟨by decide, by decide⟩) hK hP hD hS hA [0] [1, 2, 3] rfl rfl rfl rfl (by decide) 0 8 rfl rfl rfl hl.1 rfl (Nat.le_of_ble_eq_true rfl) d_MD_common_34 ⟨Nat.le_of_ble_eq_true rfl, Nat.le_of_ble_eq_true rfl⟩ (fun r1 u H locs hv hP hD hS => ?_)
  obtain ⟨u1_0, rfl⟩ : ∃ z, z = u := ⟨_, rfl⟩
  have hP : va_P (dC, dI) classes [(h_t, .inr (8, [.int u1_0, .ref h_tape, .ref h_row, .ref h_out, .ref h_sought, .int z_size, .int z_outSize, .int z_soughtSize, .int z_documents, .int z_indexed, .int z_suffixes, .int z_rows, .ref h_start, .ref h_documentOf, .ref h_order, .ref h_rankOf, .ref h_same, .ref h_work, .ref h_next, .ref h_often, .ref h_has, .int z_lesser])), (h_row, .inl (cB, 16384, .inl z_row)), (h_start, .inl (cI, 66, .inl z_start)), (h_documentOf, .inl (cI, 16384, .inl z_documentOf))] H := P_sub hP [3, 0, 1, 2] rfl
  have hD : va_D A [(h_t, .inr (8, [.int u1_0, .ref h_tape, .ref h_row, .ref h_out, .ref h_sought, .int z_size, .int z_outSize, .int z_soughtSize, .int z_documents, .int z_indexed, .int z_suffixes, .int z_rows, .ref h_start, .ref h_documentOf, .ref h_order, .ref h_rankOf, .ref h_same, .ref h_work, .ref h_next, .ref h_often, .ref h_has, .int z_lesser])), (h_row, .inl (cB, 16384, .inl z_row)), (h_start, .inl (cI, 66, .inl z_start)), (h_documentOf, .inl (cI, 16384, .inl z_documentOf))] := hD.sub [3, 0, 1, 2] rfl rfl
  obtain ⟨hvt, hvf⟩ := hv
  refine lv_if_eq (tgt := 42) hx hb d_MD_common_37 (by decide) (fun c2 => ?_) (fun c2 => ?_)
  · have hv := hvt c2
    refine lv_aload_n hx hb d_MD_common_42 rfl (lv_at hl 0 rfl) ?_
    refine lv_iload_n hx hb d_MD_common_43 rfl (lv_at hl 1 rfl) ?_
    refine lv_iload hx hb d_MD_common_44 (lv_at hl 2 rfl) ?_
    refine cV_i (wr := []) (rest := []) (c_MD_alike l dC dI cI cJ cB cZ h_t h_tape h_row h_out h_sought h_start h_documentOf h_order h_rankOf h_same h_work h_next h_often h_has H.size u1_0 z_size z_outSize z_soughtSize z_documents z_indexed z_suffixes z_rows z_lesser z_row z_start z_documentOf x3 x4 _ hv) F (cw_V (fun _ h => h) 2 hw m_1213 m_1215 ms_34 m_9 m_1216 rfl rfl (by decide +kernel) ⟨by decide, by decide⟩) hK hP hD hS hA [0, 1, 2, 3] [] rfl rfl rfl rfl (by decide) 0 8 rfl rfl rfl hl.1 rfl (Nat.le_of_ble_eq_true rfl) d_MD_common_46 ⟨Nat.le_of_ble_eq_true rfl, Nat.le_of_ble_eq_true rfl⟩ (fun r3 u H locs hv hP hD hS => ?_)
    have hP : va_P (dC, dI) classes [(h_t, .inr (8, [.int u1_0, .ref h_tape, .ref h_row, .ref h_out, .ref h_sought, .int z_size, .int z_outSize, .int z_soughtSize, .int z_documents, .int z_indexed, .int z_suffixes, .int z_rows, .ref h_start, .ref h_documentOf, .ref h_order, .ref h_rankOf, .ref h_same, .ref h_work, .ref h_next, .ref h_often, .ref h_has, .int z_lesser])), (h_row, .inl (cB, 16384, .inl z_row)), (h_start, .inl (cI, 66, .inl z_start)), (h_documentOf, .inl (cI, 16384, .inl z_documentOf))] H := P_sub hP [0, 1, 2, 3] rfl
    have hD : va_D A [(h_t, .inr (8, [.int u1_0, .ref h_tape, .ref h_row, .ref h_out, .ref h_sought, .int z_size, .int z_outSize, .int z_soughtSize, .int z_documents, .int z_indexed, .int z_suffixes, .int z_rows, .ref h_start, .ref h_documentOf, .ref h_order, .ref h_rankOf, .ref h_same, .ref h_work, .ref h_next, .ref h_often, .ref h_has, .int z_lesser])), (h_row, .inl (cB, 16384, .inl z_row)), (h_start, .inl (cI, 66, .inl z_start)), (h_documentOf, .inl (cI, 16384, .inl z_documentOf))] := hD.sub [0, 1, 2, 3] rfl rfl
    exact W.iret (v := r3) hx hb hr (fun t ht hW => ⟨⟨r3, u1_0, rfl, hv, by rw [ht]; exact hP, va_K.moved hW.alike hK, hD⟩, hS.F ht⟩) hS.2.2 d_MD_common_49
  · have hv := hvf c2
    refine lv_iconst (v := 0) hx hb d_MD_common_40 (by decide) ?_
    exact W.iret (v := 0) hx hb hr (fun t ht hW => ⟨⟨0, u1_0, rfl, hv, by rw [ht]; exact hP, va_K.moved hW.alike hK, hD⟩, hS.F ht⟩) hS.2.2 d_MD_common_41

set_option maxHeartbeats 4000000 in
set_option maxRecDepth 100000 in
theorem wk_MD_common_29 {p : Program} {l : Launch} {e : Env} {s : State} {m : MethodId} {below : List Frame} {meth : Method} {c : Code} {A : Nat → Prop} {dC : Nat → ClassId} {dI : Nat → Nat → Nat} {cI cJ cB cZ : ClassId} {h_t : Nat} {h_tape : Nat} {h_row : Nat} {h_out : Nat} {h_sought : Nat} {h_start : Nat} {h_documentOf : Nat} {h_order : Nat} {h_rankOf : Nat} {h_same : Nat} {h_work : Nat} {h_next : Nat} {h_often : Nat} {h_has : Nat} {a_p1 : Int32} {a_p2 : Int32} {z_indexed : Int32} {z_row : Nat → Int32} {z_start : Nat → Int32} {z_documentOf : Nat → Int32} {z_size : Int32} {z_outSize : Int32} {z_soughtSize : Int32} {z_documents : Int32} {z_suffixes : Int32} {z_rows : Int32} {z_lesser : Int32} {post : Int32 → Int32 → Prop} (F : CallFix p m c b_MD_common 5 s ([.ref h_t, .int a_p1, .int a_p2] : List Value).toArray WT "SuffixIndexModel") (hr : meth.sig.returnType = (some .int)) (hlk : meth.locks = false) (hK : va_K (dC, dI) classes (TYS cI cJ cB cZ) s) (hA : ∀ q, s.heap.size ≤ q → A q) : ∀ (x3 : Int32) (x4 : Int32) (k1 : Int32) (z_thrown : Int32), vc_MD_common_29 a_p1 a_p2 z_indexed z_row z_start z_documentOf post x3 x4 k1 z_thrown → ∀ (H : Heap) (locs : List Loc) (ls : Array Slot), va_P (dC, dI) classes [(h_t, .inr (8, [.int z_thrown, .ref h_tape, .ref h_row, .ref h_out, .ref h_sought, .int z_size, .int z_outSize, .int z_soughtSize, .int z_documents, .int z_indexed, .int z_suffixes, .int z_rows, .ref h_start, .ref h_documentOf, .ref h_order, .ref h_rankOf, .ref h_same, .ref h_work, .ref h_next, .ref h_often, .ref h_has, .int z_lesser])), (h_row, .inl (cB, 16384, .inl z_row)), (h_start, .inl (cI, 66, .inl z_start)), (h_documentOf, .inl (cI, 16384, .inl z_documentOf))] H → va_D A [(h_t, .inr (8, [.int z_thrown, .ref h_tape, .ref h_row, .ref h_out, .ref h_sought, .int z_size, .int z_outSize, .int z_soughtSize, .int z_documents, .int z_indexed, .int z_suffixes, .int z_rows, .ref h_start, .ref h_documentOf, .ref h_order, .ref h_rankOf, .ref h_same, .ref h_work, .ref h_next, .ref h_often, .ref h_has, .int z_lesser])), (h_row, .inl (cB, 16384, .inl z_row)), (h_start, .inl (cI, 66, .inl z_start)), (h_documentOf, .inl (cI, 16384, .inl z_documentOf))] → va_S A s.heap H locs → lv_has ls 5 [(0, .ref h_t), (3, .int x3), (4, .int x4)] → W p l e rm_MD_common s m ([.ref h_t, .int a_p1, .int a_p2] : List Value).toArray below meth c H locs 0 0 (MQ below (va_Qi (fun (r : Int32) (u : Int32) => post r u) (fun u t => cAft (dC, dI) classes (TYS cI cJ cB cZ) A [(h_t, .inr (8, [.int u, .ref h_tape, .ref h_row, .ref h_out, .ref h_sought, .int z_size, .int z_outSize, .int z_soughtSize, .int z_documents, .int z_indexed, .int z_suffixes, .int z_rows, .ref h_start, .ref h_documentOf, .ref h_order, .ref h_rankOf, .ref h_same, .ref h_work, .ref h_next, .ref h_often, .ref h_has, .int z_lesser])), (h_row, .inl (cB, 16384, .inl z_row)), (h_start, .inl (cI, 66, .inl z_start)), (h_documentOf, .inl (cI, 16384, .inl z_documentOf))] t) A) ([.ref h_t, .int a_p1, .int a_p2] : List Value).toArray s 0 0 A) (F0 m 29 ls [.int k1, .ref h_t]) := by
  obtain ⟨hx, hb, hml, hown, hw⟩ := id F
  intro x3 x4 k1 z_thrown hv H locs ls hP hD hS hl
  refine lv_iconst (v := 1) hx hb d_MD_common_29 (by decide) ?_
  refine lv_goto (tgt := 34) hx hb d_MD_common_30 (by decide) ?_
  exact wk_MD_common_34 F hr hlk hK hA x3 x4 k1 1 z_thrown hv _ _ _ hP hD hS (lv_sub hl [0, 1, 2] rfl)

set_option maxHeartbeats 4000000 in
set_option maxRecDepth 100000 in
theorem c_MD_common (l : Launch) (dC : Nat → ClassId) (dI : Nat → Nat → Nat) (cI cJ cB cZ : ClassId) (h_t : Nat) (h_tape : Nat) (h_row : Nat) (h_out : Nat) (h_sought : Nat) (h_start : Nat) (h_documentOf : Nat) (h_order : Nat) (h_rankOf : Nat) (h_same : Nat) (h_work : Nat) (h_next : Nat) (h_often : Nat) (h_has : Nat) (sz : Nat) (z_thrown : Int32) (z_size : Int32) (z_outSize : Int32) (z_soughtSize : Int32) (z_documents : Int32) (z_indexed : Int32) (z_suffixes : Int32) (z_rows : Int32) (z_lesser : Int32) (z_row : Nat → Int32) (z_start : Nat → Int32) (z_documentOf : Nat → Int32) (a_p1 : Int32) (a_p2 : Int32) (post : Int32 → Int32 → Prop) (hv : vc_MD_common a_p1 a_p2 z_indexed z_row z_start z_documentOf post z_thrown) : Met l y_MD_common (Cond.code y_MD_common b_MD_common 5 (some .int) :: WT) rm_MD_common (cPre (dC, dI) classes (TYS cI cJ cB cZ) [(h_t, .inr (8, [.int z_thrown, .ref h_tape, .ref h_row, .ref h_out, .ref h_sought, .int z_size, .int z_outSize, .int z_soughtSize, .int z_documents, .int z_indexed, .int z_suffixes, .int z_rows, .ref h_start, .ref h_documentOf, .ref h_order, .ref h_rankOf, .ref h_same, .ref h_work, .ref h_next, .ref h_often, .ref h_has, .int z_lesser])), (h_row, .inl (cB, 16384, .inl z_row)), (h_start, .inl (cI, 66, .inl z_start)), (h_documentOf, .inl (cI, 16384, .inl z_documentOf))] sz [.ref h_t, .int a_p1, .int a_p2]) (va_Qi (fun (r : Int32) (u : Int32) => post r u) (fun u t => cAft (dC, dI) classes (TYS cI cJ cB cZ) (va_A [(h_t, .inr (8, [.int z_thrown, .ref h_tape, .ref h_row, .ref h_out, .ref h_sought, .int z_size, .int z_outSize, .int z_soughtSize, .int z_documents, .int z_indexed, .int z_suffixes, .int z_rows, .ref h_start, .ref h_documentOf, .ref h_order, .ref h_rankOf, .ref h_same, .ref h_work, .ref h_next, .ref h_often, .ref h_has, .int z_lesser])), (h_row, .inl (cB, 16384, .inl z_row)), (h_start, .inl (cI, 66, .inl z_start)), (h_documentOf, .inl (cI, 16384, .inl z_documentOf))] sz) [(h_t, .inr (8, [.int u, .ref h_tape, .ref h_row, .ref h_out, .ref h_sought, .int z_size, .int z_outSize, .int z_soughtSize, .int z_documents, .int z_indexed, .int z_suffixes, .int z_rows, .ref h_start, .ref h_documentOf, .ref h_order, .ref h_rankOf, .ref h_same, .ref h_work, .ref h_next, .ref h_often, .ref h_has, .int z_lesser])), (h_row, .inl (cB, 16384, .inl z_row)), (h_start, .inl (cI, 66, .inl z_start)), (h_documentOf, .inl (cI, 16384, .inl z_documentOf))] t) (va_A [(h_t, .inr (8, [.int z_thrown, .ref h_tape, .ref h_row, .ref h_out, .ref h_sought, .int z_size, .int z_outSize, .int z_soughtSize, .int z_documents, .int z_indexed, .int z_suffixes, .int z_rows, .ref h_start, .ref h_documentOf, .ref h_order, .ref h_rankOf, .ref h_same, .ref h_work, .ref h_next, .ref h_often, .ref h_has, .int z_lesser])), (h_row, .inl (cB, 16384, .inl z_row)), (h_start, .inl (cI, 66, .inl z_start)), (h_documentOf, .inl (cI, 16384, .inl z_documentOf))] sz)) 0 0 (va_A [(h_t, .inr (8, [.int z_thrown, .ref h_tape, .ref h_row, .ref h_out, .ref h_sought, .int z_size, .int z_outSize, .int z_soughtSize, .int z_documents, .int z_indexed, .int z_suffixes, .int z_rows, .ref h_start, .ref h_documentOf, .ref h_order, .ref h_rankOf, .ref h_same, .ref h_work, .ref h_next, .ref h_often, .ref h_has, .int z_lesser])), (h_row, .inl (cB, 16384, .inl z_row)), (h_start, .inl (cI, 66, .inl z_start)), (h_documentOf, .inl (cI, 16384, .inl z_documentOf))] sz) := by
  refine Met.ofW (cc := b_MD_common) (maxL := 5) (ret := (some .int)) (by decide) rfl ?_
  intro p e s m args below meth c s₁ B hml hq
  obtain ⟨rfl, hsz, hP, hK, hD0⟩ := hq
  have hts := atoms_spec (ws := Cond.code y_MD_common b_MD_common 5 (some .int) :: WT) B.pre
  have hw : ∀ w ∈ WT, w.before ([.ref h_t, .int a_p1, .int a_p2] : List Value).toArray s = true := fun w h => hts w (List.mem_cons_of_mem _ h)
  have hx := B.exec
  have hb := B.bytes
  have hr := B.returns
  have hlk := B.notSynchronized
  have hown : s.vm.findClass "SuffixIndexModel" = some m.cls := findClass_of_methodNamed B.named
  have F : CallFix p m c b_MD_common 5 s ([.ref h_t, .int a_p1, .int a_p2] : List Value).toArray WT "SuffixIndexModel" := ⟨hx, hb, hml, hown, hw⟩
  subst hsz
  have hD := hD0.self (sz := s.heap.size)
  generalize hAe : va_A [(h_t, .inr (8, [.int z_thrown, .ref h_tape, .ref h_row, .ref h_out, .ref h_sought, .int z_size, .int z_outSize, .int z_soughtSize, .int z_documents, .int z_indexed, .int z_suffixes, .int z_rows, .ref h_start, .ref h_documentOf, .ref h_order, .ref h_rankOf, .ref h_same, .ref h_work, .ref h_next, .ref h_often, .ref h_has, .int z_lesser])), (h_row, .inl (cB, 16384, .inl z_row)), (h_start, .inl (cI, 66, .inl z_start)), (h_documentOf, .inl (cI, 16384, .inl z_documentOf))] s.heap.size = A at hD ⊢
  have hA : ∀ q : Nat, s.heap.size ≤ q → A q := fun q h => by rw [← hAe]; exact Or.inr h
  have hS : va_S A s.heap s.heap [] := va_S.rf
  have hl := lv_entry ([.ref h_t, .int a_p1, .int a_p2]) (n := 5) (Nat.le_of_ble_eq_true rfl)
  rw [lg_entry_eq]
  generalize (lg_sl ([.ref h_t, .int a_p1, .int a_p2]) ++ List.replicate (5 - (lg_sl ([.ref h_t, .int a_p1, .int a_p2])).length) Slot.unset).toArray = ls at hl ⊢
  have hl : lv_has ls 5 [(0, .ref h_t), (1, .int a_p1), (2, .int a_p2)] := hl
  show W p l e rm_MD_common s m _ below meth c s.heap [] 0 0 _ _
  have hP : va_P (dC, dI) classes [(h_t, .inr (8, [.int z_thrown, .ref h_tape, .ref h_row, .ref h_out, .ref h_sought, .int z_size, .int z_outSize, .int z_soughtSize, .int z_documents, .int z_indexed, .int z_suffixes, .int z_rows, .ref h_start, .ref h_documentOf, .ref h_order, .ref h_rankOf, .ref h_same, .ref h_work, .ref h_next, .ref h_often, .ref h_has, .int z_lesser])), (h_row, .inl (cB, 16384, .inl z_row)), (h_start, .inl (cI, 66, .inl z_start)), (h_documentOf, .inl (cI, 16384, .inl z_documentOf))] s.heap := hP
  obtain ⟨H, hHe⟩ : ∃ H, H = s.heap := ⟨_, rfl⟩
  have hS : va_S A s.heap H [] := by rw [hHe]; exact hS
  rw [← hHe] at hP
  suffices hgoal : W p l e rm_MD_common s m ([.ref h_t, .int a_p1, .int a_p2] : List Value).toArray below meth c H [] 0 0 (MQ below (va_Qi (fun (r : Int32) (u : Int32) => post r u) (fun u t => cAft (dC, dI) classes (TYS cI cJ cB cZ) A [(h_t, .inr (8, [.int u, .ref h_tape, .ref h_row, .ref h_out, .ref h_sought, .int z_size, .int z_outSize, .int z_soughtSize, .int z_documents, .int z_indexed, .int z_suffixes, .int z_rows, .ref h_start, .ref h_documentOf, .ref h_order, .ref h_rankOf, .ref h_same, .ref h_work, .ref h_next, .ref h_often, .ref h_has, .int z_lesser])), (h_row, .inl (cB, 16384, .inl z_row)), (h_start, .inl (cI, 66, .inl z_start)), (h_documentOf, .inl (cI, 16384, .inl z_documentOf))] t) A) ([.ref h_t, .int a_p1, .int a_p2] : List Value).toArray s 0 0 A) (F0 m 0 ls []) by rw [hHe] at hgoal; exact hgoal
  refine lv_aload_n hx hb d_MD_common_0 rfl (lv_at hl 0 rfl) ?_
  refine lv_iconst (v := 0) hx hb d_MD_common_1 (by decide) ?_
  refine va_put (D := (dC, dI)) (ci := 8) (v := .int 0) (ty := .int) (C := "SuffixIndexModel") (T := F_MD) (N := 22) hx hb hw i_MD t_MD t_MD_ok n_MD hown hK hP hD hS 0 rfl rfl 0 (by decide) (hw _ m_1101) (fun _ h9 => h9) rfl (by decide +kernel) rfl rfl (Nat.le_of_ble_eq_true rfl) d_MD_common_2 (fun H locs hP hD hS => ?_)
  have hP : va_P (dC, dI) classes [(h_t, .inr (8, [.int 0, .ref h_tape, .ref h_row, .ref h_out, .ref h_sought, .int z_size, .int z_outSize, .int z_soughtSize, .int z_documents, .int z_indexed, .int z_suffixes, .int z_rows, .ref h_start, .ref h_documentOf, .ref h_order, .ref h_rankOf, .ref h_same, .ref h_work, .ref h_next, .ref h_often, .ref h_has, .int z_lesser])), (h_row, .inl (cB, 16384, .inl z_row)), (h_start, .inl (cI, 66, .inl z_start)), (h_documentOf, .inl (cI, 16384, .inl z_documentOf))] H := hP
  have hD : va_D A [(h_t, .inr (8, [.int 0, .ref h_tape, .ref h_row, .ref h_out, .ref h_sought, .int z_size, .int z_outSize, .int z_soughtSize, .int z_documents, .int z_indexed, .int z_suffixes, .int z_rows, .ref h_start, .ref h_documentOf, .ref h_order, .ref h_rankOf, .ref h_same, .ref h_work, .ref h_next, .ref h_often, .ref h_has, .int z_lesser])), (h_row, .inl (cB, 16384, .inl z_row)), (h_start, .inl (cI, 66, .inl z_start)), (h_documentOf, .inl (cI, 16384, .inl z_documentOf))] := hD
  refine lv_aload_n hx hb d_MD_common_5 rfl (lv_at hl 0 rfl) ?_
  refine lv_iload_n hx hb d_MD_common_6 rfl (lv_at hl 1 rfl) ?_
  refine cV_i (wr := [(h_row, .inl (cB, 16384, .inl z_row)), (h_documentOf, .inl (cI, 16384, .inl z_documentOf))]) (rest := []) (c_MD_placeOf l dC dI cI cJ cB cZ h_t h_tape h_row h_out h_sought h_start h_documentOf h_order h_rankOf h_same h_work h_next h_often h_has H.size 0 z_size z_outSize z_soughtSize z_documents z_indexed z_suffixes z_rows z_lesser z_start a_p1 _ hv) F (cw_V (fun _ h => h) 1 hw m_1259 m_1261 ms_38 m_9 m_1262 rfl rfl (by decide +kernel) ⟨by decide, by decide⟩) hK hP hD hS hA [0, 2] [1, 3] rfl rfl rfl rfl (by decide) 0 8 rfl rfl rfl hl.1 rfl (Nat.le_of_ble_eq_true rfl) d_MD_common_7 ⟨Nat.le_of_ble_eq_true rfl, Nat.le_of_ble_eq_true rfl⟩ (fun r4 u H locs hv hP hD hS => ?_)
  have hP : va_P (dC, dI) classes [(h_t, .inr (8, [.int 0, .ref h_tape, .ref h_row, .ref h_out, .ref h_sought, .int z_size, .int z_outSize, .int z_soughtSize, .int z_documents, .int z_indexed, .int z_suffixes, .int z_rows, .ref h_start, .ref h_documentOf, .ref h_order, .ref h_rankOf, .ref h_same, .ref h_work, .ref h_next, .ref h_often, .ref h_has, .int z_lesser])), (h_row, .inl (cB, 16384, .inl z_row)), (h_start, .inl (cI, 66, .inl z_start)), (h_documentOf, .inl (cI, 16384, .inl z_documentOf))] H := P_sub hP [2, 0, 3, 1] rfl
  have hD : va_D A [(h_t, .inr (8, [.int 0, .ref h_tape, .ref h_row, .ref h_out, .ref h_sought, .int z_size, .int z_outSize, .int z_soughtSize, .int z_documents, .int z_indexed, .int z_suffixes, .int z_rows, .ref h_start, .ref h_documentOf, .ref h_order, .ref h_rankOf, .ref h_same, .ref h_work, .ref h_next, .ref h_often, .ref h_has, .int z_lesser])), (h_row, .inl (cB, 16384, .inl z_row)), (h_start, .inl (cI, 66, .inl z_start)), (h_documentOf, .inl (cI, 16384, .inl z_documentOf))] := hD.sub [2, 0, 3, 1] rfl rfl
  refine lv_istore_n (lv' := [(3, .int r4), (0, .ref h_t), (1, .int a_p1), (2, .int a_p2)]) hx hb d_MD_common_10 rfl hl (by decide) rfl (fun ls hl => ?_)
  refine lv_aload_n hx hb d_MD_common_11 rfl (lv_at hl 1 rfl) ?_
  refine lv_iload_n hx hb d_MD_common_12 rfl (lv_at hl 3 rfl) ?_
  refine cV_i (wr := [(h_row, .inl (cB, 16384, .inl z_row)), (h_documentOf, .inl (cI, 16384, .inl z_documentOf))]) (rest := []) (c_MD_placeOf l dC dI cI cJ cB cZ h_t h_tape h_row h_out h_sought h_start h_documentOf h_order h_rankOf h_same h_work h_next h_often h_has H.size 0 z_size z_outSize z_soughtSize z_documents z_indexed z_suffixes z_rows z_lesser z_start a_p2 _ hv) F (cw_V (fun _ h => h) 1 hw m_1259 m_1261 ms_38 m_9 m_1262 rfl rfl (by decide +kernel) ⟨by decide, by decide⟩) hK hP hD hS hA [0, 2] [1, 3] rfl rfl rfl rfl (by decide) 0 8 rfl rfl rfl hl.1 rfl (Nat.le_of_ble_eq_true rfl) d_MD_common_13 ⟨Nat.le_of_ble_eq_true rfl, Nat.le_of_ble_eq_true rfl⟩ (fun r5 u H locs hv hP hD hS => ?_)
  have hP : va_P (dC, dI) classes [(h_t, .inr (8, [.int 0, .ref h_tape, .ref h_row, .ref h_out, .ref h_sought, .int z_size, .int z_outSize, .int z_soughtSize, .int z_documents, .int z_indexed, .int z_suffixes, .int z_rows, .ref h_start, .ref h_documentOf, .ref h_order, .ref h_rankOf, .ref h_same, .ref h_work, .ref h_next, .ref h_often, .ref h_has, .int z_lesser])), (h_row, .inl (cB, 16384, .inl z_row)), (h_start, .inl (cI, 66, .inl z_start)), (h_documentOf, .inl (cI, 16384, .inl z_documentOf))] H := P_sub hP [2, 0, 3, 1] rfl
  have hD : va_D A [(h_t, .inr (8, [.int 0, .ref h_tape, .ref h_row, .ref h_out, .ref h_sought, .int z_size, .int z_outSize, .int z_soughtSize, .int z_documents, .int z_indexed, .int z_suffixes, .int z_rows, .ref h_start, .ref h_documentOf, .ref h_order, .ref h_rankOf, .ref h_same, .ref h_work, .ref h_next, .ref h_often, .ref h_has, .int z_lesser])), (h_row, .inl (cB, 16384, .inl z_row)), (h_start, .inl (cI, 66, .inl z_start)), (h_documentOf, .inl (cI, 16384, .inl z_documentOf))] := hD.sub [2, 0, 3, 1] rfl rfl
  refine lv_istore (lv' := [(4, .int r5), (3, .int r4), (0, .ref h_t), (1, .int a_p1), (2, .int a_p2)]) hx hb d_MD_common_16 hl (by decide) rfl (fun ls hl => ?_)
  refine lv_aload_n hx hb d_MD_common_18 rfl (lv_at hl 2 rfl) ?_
  refine lv_iconst (v := 1) hx hb d_MD_common_19 (by decide) ?_
  refine lv_iload_n hx hb d_MD_common_20 rfl (lv_at hl 1 rfl) ?_
  obtain ⟨hvt, hvf⟩ := hv
  refine lv_if_lt (tgt := 29) hx hb d_MD_common_21 (by decide) (fun c6 => ?_) (fun c6 => ?_)
  · have hv := hvt c6
    exact wk_MD_common_29 F hr hlk hK hA r4 r5 1 0 hv _ _ _ hP hD hS (lv_sub hl [2, 1, 0] rfl)
  · have hv := hvf c6
    refine lv_iload hx hb d_MD_common_24 (lv_at hl 0 rfl) ?_
    obtain ⟨hvt, hvf⟩ := hv
    refine lv_if_ge (tgt := 33) hx hb d_MD_common_26 (by decide) (fun c7 => ?_) (fun c7 => ?_)
    · have hv := hvt c7
      refine lv_iconst (v := 0) hx hb d_MD_common_33 (by decide) ?_
      exact wk_MD_common_34 F hr hlk hK hA r4 r5 1 0 0 hv _ _ _ hP hD hS (lv_sub hl [2, 1, 0] rfl)
    · have hv := hvf c7
      exact wk_MD_common_29 F hr hlk hK hA r4 r5 1 0 hv _ _ _ hP hD hS (lv_sub hl [2, 1, 0] rfl)

set_option maxHeartbeats 4000000 in
set_option maxRecDepth 100000 in
theorem wk_MD_repeat_112 {p : Program} {l : Launch} {e : Env} {s : State} {m : MethodId} {below : List Frame} {meth : Method} {c : Code} {A : Nat → Prop} {dC : Nat → ClassId} {dI : Nat → Nat → Nat} {cI cJ cB cZ : ClassId} {h_t : Nat} {h_tape : Nat} {h_row : Nat} {h_out : Nat} {h_sought : Nat} {h_start : Nat} {h_documentOf : Nat} {h_order : Nat} {h_rankOf : Nat} {h_same : Nat} {h_work : Nat} {h_next : Nat} {h_often : Nat} {h_has : Nat} {a_p1 : Int32} {z_suffixes : Int32} {z_row : Nat → Int32} {z_order : Nat → Int32} {z_same : Nat → Int32} {z_size : Int32} {z_soughtSize : Int32} {z_documents : Int32} {z_indexed : Int32} {z_rows : Int32} {z_lesser : Int32} {post : Int32 → Int32 → Int32 → (Nat → Int32) → Prop} {K38 : Int32 → Int32 → Int32 → Int32 → Int32 → (Nat → Int32) → Prop} (F : CallFix p m c b_MD_repeat 7 s ([.ref h_t, .int a_p1] : List Value).toArray WT "SuffixIndexModel") (hr : meth.sig.returnType = (some .int)) (hlk : meth.locks = false) (hK : va_K (dC, dI) classes (TYS cI cJ cB cZ) s) (hA : ∀ q, s.heap.size ≤ q → A q) (hK38 : ∀ (x2 : Int32) (x3 : Int32) (x4 : Int32) (z_thrown : Int32) (z_outSize : Int32) (z_out : Nat → Int32), K38 x2 x3 x4 z_thrown z_outSize z_out → ∀ (H : Heap) (locs : List Loc) (ls : Array Slot), va_P (dC, dI) classes [(h_t, .inr (8, [.int z_thrown, .ref h_tape, .ref h_row, .ref h_out, .ref h_sought, .int z_size, .int z_outSize, .int z_soughtSize, .int z_documents, .int z_indexed, .int z_suffixes, .int z_rows, .ref h_start, .ref h_documentOf, .ref h_order, .ref h_rankOf, .ref h_same, .ref h_work, .ref h_next, .ref h_often, .ref h_has, .int z_lesser])), (h_row, .inl (cB, 16384, .inl z_row)), (h_out, .inl (cB, 16384, .inl z_out)), (h_order, .inl (cI, 16384, .inl z_order)), (h_same, .inl (cI, 16385, .inl z_same))] H → va_D A [(h_t, .inr (8, [.int z_thrown, .ref h_tape, .ref h_row, .ref h_out, .ref h_sought, .int z_size, .int z_outSize, .int z_soughtSize, .int z_documents, .int z_indexed, .int z_suffixes, .int z_rows, .ref h_start, .ref h_documentOf, .ref h_order, .ref h_rankOf, .ref h_same, .ref h_work, .ref h_next, .ref h_often, .ref h_has, .int z_lesser])), (h_row, .inl (cB, 16384, .inl z_row)), (h_out, .inl (cB, 16384, .inl z_out)), (h_order, .inl (cI, 16384, .inl z_order)), (h_same, .inl (cI, 16385, .inl z_same))] → va_S A s.heap H locs → lv_has ls 7 [(0, .ref h_t), (1, .int a_p1), (2, .int x2), (3, .int x3), (4, .int x4)] → W p l e rm_MD_repeat s m ([.ref h_t, .int a_p1] : List Value).toArray below meth c H locs 0 0 (MQ below (va_Qi (fun (r : Int32) (u : Int32 × Int32 × (Nat → Int32)) => post r u.1 u.2.1 u.2.2) (fun u t => cAft (dC, dI) classes (TYS cI cJ cB cZ) A [(h_t, .inr (8, [.int u.1, .ref h_tape, .ref h_row, .ref h_out, .ref h_sought, .int z_size, .int u.2.1, .int z_soughtSize, .int z_documents, .int z_indexed, .int z_suffixes, .int z_rows, .ref h_start, .ref h_documentOf, .ref h_order, .ref h_rankOf, .ref h_same, .ref h_work, .ref h_next, .ref h_often, .ref h_has, .int z_lesser])), (h_row, .inl (cB, 16384, .inl z_row)), (h_out, .inl (cB, 16384, .inl u.2.2)), (h_order, .inl (cI, 16384, .inl z_order)), (h_same, .inl (cI, 16385, .inl z_same))] t) A) ([.ref h_t, .int a_p1] : List Value).toArray s 0 0 A) (F0 m 38 ls [])) : ∀ (x2 : Int32) (x3 : Int32) (x4 : Int32) (z_thrown : Int32) (z_outSize : Int32) (z_out : Nat → Int32), vc_MD_repeat_112 a_p1 z_suffixes z_row z_order z_same post K38 x2 x3 x4 z_thrown z_outSize z_out → ∀ (H : Heap) (locs : List Loc) (ls : Array Slot), va_P (dC, dI) classes [(h_t, .inr (8, [.int z_thrown, .ref h_tape, .ref h_row, .ref h_out, .ref h_sought, .int z_size, .int z_outSize, .int z_soughtSize, .int z_documents, .int z_indexed, .int z_suffixes, .int z_rows, .ref h_start, .ref h_documentOf, .ref h_order, .ref h_rankOf, .ref h_same, .ref h_work, .ref h_next, .ref h_often, .ref h_has, .int z_lesser])), (h_row, .inl (cB, 16384, .inl z_row)), (h_out, .inl (cB, 16384, .inl z_out)), (h_order, .inl (cI, 16384, .inl z_order)), (h_same, .inl (cI, 16385, .inl z_same))] H → va_D A [(h_t, .inr (8, [.int z_thrown, .ref h_tape, .ref h_row, .ref h_out, .ref h_sought, .int z_size, .int z_outSize, .int z_soughtSize, .int z_documents, .int z_indexed, .int z_suffixes, .int z_rows, .ref h_start, .ref h_documentOf, .ref h_order, .ref h_rankOf, .ref h_same, .ref h_work, .ref h_next, .ref h_often, .ref h_has, .int z_lesser])), (h_row, .inl (cB, 16384, .inl z_row)), (h_out, .inl (cB, 16384, .inl z_out)), (h_order, .inl (cI, 16384, .inl z_order)), (h_same, .inl (cI, 16385, .inl z_same))] → va_S A s.heap H locs → lv_has ls 7 [(0, .ref h_t), (1, .int a_p1), (2, .int x2), (3, .int x3), (4, .int x4)] → W p l e rm_MD_repeat s m ([.ref h_t, .int a_p1] : List Value).toArray below meth c H locs 0 0 (MQ below (va_Qi (fun (r : Int32) (u : Int32 × Int32 × (Nat → Int32)) => post r u.1 u.2.1 u.2.2) (fun u t => cAft (dC, dI) classes (TYS cI cJ cB cZ) A [(h_t, .inr (8, [.int u.1, .ref h_tape, .ref h_row, .ref h_out, .ref h_sought, .int z_size, .int u.2.1, .int z_soughtSize, .int z_documents, .int z_indexed, .int z_suffixes, .int z_rows, .ref h_start, .ref h_documentOf, .ref h_order, .ref h_rankOf, .ref h_same, .ref h_work, .ref h_next, .ref h_often, .ref h_has, .int z_lesser])), (h_row, .inl (cB, 16384, .inl z_row)), (h_out, .inl (cB, 16384, .inl u.2.2)), (h_order, .inl (cI, 16384, .inl z_order)), (h_same, .inl (cI, 16385, .inl z_same))] t) A) ([.ref h_t, .int a_p1] : List Value).toArray s 0 0 A) (F0 m 112 ls []) := by
  obtain ⟨hx, hb, hml, hown, hw⟩ := id F
  intro x2 x3 x4 z_thrown z_outSize z_out hv H locs ls hP hD hS hl
  refine lv_iinc (v := x4 + 1) (lv' := [(4, .int (x4 + 1)), (0, .ref h_t), (1, .int a_p1), (2, .int x2), (3, .int x3)]) hx hb d_MD_repeat_112 hl (k := 4) rfl (iinc_v (by decide)) (by decide) rfl (fun ls hl => ?_)
  refine lv_goto (tgt := 38) hx hb d_MD_repeat_115 (by decide) ?_
  exact hK38 x2 x3 (x4 + 1) z_thrown z_outSize z_out hv _ _ _ hP hD hS (lv_sub hl [1, 2, 3, 4, 0] rfl)

set_option maxHeartbeats 4000000 in
set_option maxRecDepth 100000 in
theorem wk_MD_repeat_66 {p : Program} {l : Launch} {e : Env} {s : State} {m : MethodId} {below : List Frame} {meth : Method} {c : Code} {A : Nat → Prop} {dC : Nat → ClassId} {dI : Nat → Nat → Nat} {cI cJ cB cZ : ClassId} {h_t : Nat} {h_tape : Nat} {h_row : Nat} {h_out : Nat} {h_sought : Nat} {h_start : Nat} {h_documentOf : Nat} {h_order : Nat} {h_rankOf : Nat} {h_same : Nat} {h_work : Nat} {h_next : Nat} {h_often : Nat} {h_has : Nat} {a_p1 : Int32} {z_suffixes : Int32} {z_row : Nat → Int32} {z_order : Nat → Int32} {z_same : Nat → Int32} {z_size : Int32} {z_soughtSize : Int32} {z_documents : Int32} {z_indexed : Int32} {z_rows : Int32} {z_lesser : Int32} {post : Int32 → Int32 → Int32 → (Nat → Int32) → Prop} {K38 : Int32 → Int32 → Int32 → Int32 → Int32 → (Nat → Int32) → Prop} (F : CallFix p m c b_MD_repeat 7 s ([.ref h_t, .int a_p1] : List Value).toArray WT "SuffixIndexModel") (hr : meth.sig.returnType = (some .int)) (hlk : meth.locks = false) (hK : va_K (dC, dI) classes (TYS cI cJ cB cZ) s) (hA : ∀ q, s.heap.size ≤ q → A q) (hK38 : ∀ (x2 : Int32) (x3 : Int32) (x4 : Int32) (z_thrown : Int32) (z_outSize : Int32) (z_out : Nat → Int32), K38 x2 x3 x4 z_thrown z_outSize z_out → ∀ (H : Heap) (locs : List Loc) (ls : Array Slot), va_P (dC, dI) classes [(h_t, .inr (8, [.int z_thrown, .ref h_tape, .ref h_row, .ref h_out, .ref h_sought, .int z_size, .int z_outSize, .int z_soughtSize, .int z_documents, .int z_indexed, .int z_suffixes, .int z_rows, .ref h_start, .ref h_documentOf, .ref h_order, .ref h_rankOf, .ref h_same, .ref h_work, .ref h_next, .ref h_often, .ref h_has, .int z_lesser])), (h_row, .inl (cB, 16384, .inl z_row)), (h_out, .inl (cB, 16384, .inl z_out)), (h_order, .inl (cI, 16384, .inl z_order)), (h_same, .inl (cI, 16385, .inl z_same))] H → va_D A [(h_t, .inr (8, [.int z_thrown, .ref h_tape, .ref h_row, .ref h_out, .ref h_sought, .int z_size, .int z_outSize, .int z_soughtSize, .int z_documents, .int z_indexed, .int z_suffixes, .int z_rows, .ref h_start, .ref h_documentOf, .ref h_order, .ref h_rankOf, .ref h_same, .ref h_work, .ref h_next, .ref h_often, .ref h_has, .int z_lesser])), (h_row, .inl (cB, 16384, .inl z_row)), (h_out, .inl (cB, 16384, .inl z_out)), (h_order, .inl (cI, 16384, .inl z_order)), (h_same, .inl (cI, 16385, .inl z_same))] → va_S A s.heap H locs → lv_has ls 7 [(0, .ref h_t), (1, .int a_p1), (2, .int x2), (3, .int x3), (4, .int x4)] → W p l e rm_MD_repeat s m ([.ref h_t, .int a_p1] : List Value).toArray below meth c H locs 0 0 (MQ below (va_Qi (fun (r : Int32) (u : Int32 × Int32 × (Nat → Int32)) => post r u.1 u.2.1 u.2.2) (fun u t => cAft (dC, dI) classes (TYS cI cJ cB cZ) A [(h_t, .inr (8, [.int u.1, .ref h_tape, .ref h_row, .ref h_out, .ref h_sought, .int z_size, .int u.2.1, .int z_soughtSize, .int z_documents, .int z_indexed, .int z_suffixes, .int z_rows, .ref h_start, .ref h_documentOf, .ref h_order, .ref h_rankOf, .ref h_same, .ref h_work, .ref h_next, .ref h_often, .ref h_has, .int z_lesser])), (h_row, .inl (cB, 16384, .inl z_row)), (h_out, .inl (cB, 16384, .inl u.2.2)), (h_order, .inl (cI, 16384, .inl z_order)), (h_same, .inl (cI, 16385, .inl z_same))] t) A) ([.ref h_t, .int a_p1] : List Value).toArray s 0 0 A) (F0 m 38 ls [])) : ∀ (k : Nat) (x2 : Int32) (x3 : Int32) (x4 : Int32) (x5 : Int32) (x6 : Int32) (z_thrown : Int32) (z_outSize : Int32) (z_out : Nat → Int32), vc_MD_repeat_66 a_p1 z_suffixes z_row z_order z_same post K38 k x2 x3 x4 x5 x6 z_thrown z_outSize z_out → ∀ (H : Heap) (locs : List Loc) (ls : Array Slot), va_P (dC, dI) classes [(h_t, .inr (8, [.int z_thrown, .ref h_tape, .ref h_row, .ref h_out, .ref h_sought, .int z_size, .int z_outSize, .int z_soughtSize, .int z_documents, .int z_indexed, .int z_suffixes, .int z_rows, .ref h_start, .ref h_documentOf, .ref h_order, .ref h_rankOf, .ref h_same, .ref h_work, .ref h_next, .ref h_often, .ref h_has, .int z_lesser])), (h_row, .inl (cB, 16384, .inl z_row)), (h_out, .inl (cB, 16384, .inl z_out)), (h_order, .inl (cI, 16384, .inl z_order)), (h_same, .inl (cI, 16385, .inl z_same))] H → va_D A [(h_t, .inr (8, [.int z_thrown, .ref h_tape, .ref h_row, .ref h_out, .ref h_sought, .int z_size, .int z_outSize, .int z_soughtSize, .int z_documents, .int z_indexed, .int z_suffixes, .int z_rows, .ref h_start, .ref h_documentOf, .ref h_order, .ref h_rankOf, .ref h_same, .ref h_work, .ref h_next, .ref h_often, .ref h_has, .int z_lesser])), (h_row, .inl (cB, 16384, .inl z_row)), (h_out, .inl (cB, 16384, .inl z_out)), (h_order, .inl (cI, 16384, .inl z_order)), (h_same, .inl (cI, 16385, .inl z_same))] → va_S A s.heap H locs → lv_has ls 7 [(0, .ref h_t), (1, .int a_p1), (2, .int x2), (3, .int x3), (4, .int x4), (5, .int x5), (6, .int x6)] → W p l e rm_MD_repeat s m ([.ref h_t, .int a_p1] : List Value).toArray below meth c H locs 0 0 (MQ below (va_Qi (fun (r : Int32) (u : Int32 × Int32 × (Nat → Int32)) => post r u.1 u.2.1 u.2.2) (fun u t => cAft (dC, dI) classes (TYS cI cJ cB cZ) A [(h_t, .inr (8, [.int u.1, .ref h_tape, .ref h_row, .ref h_out, .ref h_sought, .int z_size, .int u.2.1, .int z_soughtSize, .int z_documents, .int z_indexed, .int z_suffixes, .int z_rows, .ref h_start, .ref h_documentOf, .ref h_order, .ref h_rankOf, .ref h_same, .ref h_work, .ref h_next, .ref h_often, .ref h_has, .int z_lesser])), (h_row, .inl (cB, 16384, .inl z_row)), (h_out, .inl (cB, 16384, .inl u.2.2)), (h_order, .inl (cI, 16384, .inl z_order)), (h_same, .inl (cI, 16385, .inl z_same))] t) A) ([.ref h_t, .int a_p1] : List Value).toArray s 0 0 A) (F0 m 66 ls []) := by
  obtain ⟨hx, hb, hml, hown, hw⟩ := id F
  intro k
  induction k with
  | zero =>
    intro x2 x3 x4 x5 x6 z_thrown z_outSize z_out hv
    exact False.elim hv
  | succ k ih =>
    intro x2 x3 x4 x5 x6 z_thrown z_outSize z_out hv H locs ls hP hD hS hl
    refine lv_iload hx hb d_MD_repeat_66 (lv_at hl 6 rfl) ?_
    refine lv_iload hx hb d_MD_repeat_68 (lv_at hl 4 rfl) ?_
    refine lv_iload_n hx hb d_MD_repeat_70 rfl (lv_at hl 1 rfl) ?_
    refine lv_iadd hx hb d_MD_repeat_71 ?_
    obtain ⟨hvt, hvf⟩ := hv
    refine lv_icmp_ge (tgt := 95) hx hb d_MD_repeat_72 (by decide) (fun c1 => ?_) (fun c1 => ?_)
    · have hv := hvt c1
      refine lv_iload hx hb d_MD_repeat_95 (lv_at hl 5 rfl) ?_
      refine lv_iload_n hx hb d_MD_repeat_97 rfl (lv_at hl 2 rfl) ?_
      obtain ⟨hvt, hvf⟩ := hv
      refine lv_icmp_le (tgt := 112) hx hb d_MD_repeat_98 (by decide) (fun c2 => ?_) (fun c2 => ?_)
      · have hv := hvt c2
        exact wk_MD_repeat_112 F hr hlk hK hA hK38 x2 x3 x4 z_thrown z_outSize z_out hv _ _ _ hP hD hS (lv_sub hl [0, 1, 2, 3, 4] rfl)
      · have hv := hvf c2
        refine lv_iload hx hb d_MD_repeat_101 (lv_at hl 5 rfl) ?_
        refine lv_istore_n (lv' := [(2, .int x5), (0, .ref h_t), (1, .int a_p1), (3, .int x3), (4, .int x4), (5, .int x5), (6, .int x6)]) hx hb d_MD_repeat_103 rfl hl (by decide) rfl (fun ls hl => ?_)
        refine lv_aload_n hx hb d_MD_repeat_104 rfl (lv_at hl 1 rfl) ?_
        refine va_get (D := (dC, dI)) (ci := 8) (v := .ref h_order) (C := "SuffixIndexModel") (T := F_MD) (N := 22) hx hb hw i_MD hown hK hP 0 rfl rfl 14 (by decide) (hw _ m_1115) (fun _ h9 => h9) rfl d_MD_repeat_105 ?_
        refine lv_iload hx hb d_MD_repeat_108 (lv_at hl 4 rfl) ?_
        obtain ⟨hin, hv⟩ := hv
        refine va_iald hx hb hK hP 3 0 rfl rfl hin d_MD_repeat_110 ?_
        refine lv_istore_n (lv' := [(3, .int (z_order x4.toNatClampNeg)), (2, .int x5), (0, .ref h_t), (1, .int a_p1), (4, .int x4), (5, .int x5), (6, .int x6)]) hx hb d_MD_repeat_111 rfl hl (by decide) rfl (fun ls hl => ?_)
        exact wk_MD_repeat_112 F hr hlk hK hA hK38 x5 (z_order x4.toNatClampNeg) x4 z_thrown z_outSize z_out hv _ _ _ hP hD hS (lv_sub hl [2, 3, 1, 0, 4] rfl)
    · have hv := hvf c1
      refine lv_iload hx hb d_MD_repeat_75 (lv_at hl 5 rfl) ?_
      refine lv_aload_n hx hb d_MD_repeat_77 rfl (lv_at hl 0 rfl) ?_
      refine va_get (D := (dC, dI)) (ci := 8) (v := .ref h_same) (C := "SuffixIndexModel") (T := F_MD) (N := 22) hx hb hw i_MD hown hK hP 0 rfl rfl 16 (by decide) (hw _ m_1117) (fun _ h9 => h9) rfl d_MD_repeat_78 ?_
      refine lv_iload hx hb d_MD_repeat_81 (lv_at hl 6 rfl) ?_
      obtain ⟨hin, hv⟩ := hv
      refine va_iald hx hb hK hP 4 0 rfl rfl hin d_MD_repeat_83 ?_
      refine va_mmin hx hb (hml.trans hl.1.symm) hown (hw _ m_1272) (hw _ m_442) (hw _ m_22) (hw _ m_443) (by decide) (Nat.le_of_ble_eq_true rfl) (Nat.zero_le _) (Nat.zero_le _) d_MD_repeat_84 ?_
      refine lv_istore (lv' := [(5, .int (if (z_same x6.toNatClampNeg) < x5 then (z_same x6.toNatClampNeg) else x5)), (0, .ref h_t), (1, .int a_p1), (2, .int x2), (3, .int x3), (4, .int x4), (6, .int x6)]) hx hb d_MD_repeat_87 hl (by decide) rfl (fun ls hl => ?_)
      refine lv_iinc (v := x6 + 1) (lv' := [(6, .int (x6 + 1)), (5, .int (if (z_same x6.toNatClampNeg) < x5 then (z_same x6.toNatClampNeg) else x5)), (0, .ref h_t), (1, .int a_p1), (2, .int x2), (3, .int x3), (4, .int x4)]) hx hb d_MD_repeat_89 hl (k := 6) rfl (iinc_v (by decide)) (by decide) rfl (fun ls hl => ?_)
      refine lv_goto (tgt := 66) hx hb d_MD_repeat_92 (by decide) ?_
      exact ih x2 x3 x4 (if (z_same x6.toNatClampNeg) < x5 then (z_same x6.toNatClampNeg) else x5) (x6 + 1) z_thrown z_outSize z_out hv _ _ _ hP hD hS (lv_sub hl [2, 3, 4, 5, 6, 1, 0] rfl)

set_option maxHeartbeats 4000000 in
set_option maxRecDepth 100000 in
theorem wk_MD_repeat_38 {p : Program} {l : Launch} {e : Env} {s : State} {m : MethodId} {below : List Frame} {meth : Method} {c : Code} {A : Nat → Prop} {dC : Nat → ClassId} {dI : Nat → Nat → Nat} {cI cJ cB cZ : ClassId} {h_t : Nat} {h_tape : Nat} {h_row : Nat} {h_out : Nat} {h_sought : Nat} {h_start : Nat} {h_documentOf : Nat} {h_order : Nat} {h_rankOf : Nat} {h_same : Nat} {h_work : Nat} {h_next : Nat} {h_often : Nat} {h_has : Nat} {a_p1 : Int32} {z_suffixes : Int32} {z_row : Nat → Int32} {z_order : Nat → Int32} {z_same : Nat → Int32} {z_size : Int32} {z_soughtSize : Int32} {z_documents : Int32} {z_indexed : Int32} {z_rows : Int32} {z_lesser : Int32} {post : Int32 → Int32 → Int32 → (Nat → Int32) → Prop} (F : CallFix p m c b_MD_repeat 7 s ([.ref h_t, .int a_p1] : List Value).toArray WT "SuffixIndexModel") (hr : meth.sig.returnType = (some .int)) (hlk : meth.locks = false) (hK : va_K (dC, dI) classes (TYS cI cJ cB cZ) s) (hA : ∀ q, s.heap.size ≤ q → A q) : ∀ (k : Nat) (x2 : Int32) (x3 : Int32) (x4 : Int32) (z_thrown : Int32) (z_outSize : Int32) (z_out : Nat → Int32), vc_MD_repeat_38 a_p1 z_suffixes z_row z_order z_same post k x2 x3 x4 z_thrown z_outSize z_out → ∀ (H : Heap) (locs : List Loc) (ls : Array Slot), va_P (dC, dI) classes [(h_t, .inr (8, [.int z_thrown, .ref h_tape, .ref h_row, .ref h_out, .ref h_sought, .int z_size, .int z_outSize, .int z_soughtSize, .int z_documents, .int z_indexed, .int z_suffixes, .int z_rows, .ref h_start, .ref h_documentOf, .ref h_order, .ref h_rankOf, .ref h_same, .ref h_work, .ref h_next, .ref h_often, .ref h_has, .int z_lesser])), (h_row, .inl (cB, 16384, .inl z_row)), (h_out, .inl (cB, 16384, .inl z_out)), (h_order, .inl (cI, 16384, .inl z_order)), (h_same, .inl (cI, 16385, .inl z_same))] H → va_D A [(h_t, .inr (8, [.int z_thrown, .ref h_tape, .ref h_row, .ref h_out, .ref h_sought, .int z_size, .int z_outSize, .int z_soughtSize, .int z_documents, .int z_indexed, .int z_suffixes, .int z_rows, .ref h_start, .ref h_documentOf, .ref h_order, .ref h_rankOf, .ref h_same, .ref h_work, .ref h_next, .ref h_often, .ref h_has, .int z_lesser])), (h_row, .inl (cB, 16384, .inl z_row)), (h_out, .inl (cB, 16384, .inl z_out)), (h_order, .inl (cI, 16384, .inl z_order)), (h_same, .inl (cI, 16385, .inl z_same))] → va_S A s.heap H locs → lv_has ls 7 [(0, .ref h_t), (1, .int a_p1), (2, .int x2), (3, .int x3), (4, .int x4)] → W p l e rm_MD_repeat s m ([.ref h_t, .int a_p1] : List Value).toArray below meth c H locs 0 0 (MQ below (va_Qi (fun (r : Int32) (u : Int32 × Int32 × (Nat → Int32)) => post r u.1 u.2.1 u.2.2) (fun u t => cAft (dC, dI) classes (TYS cI cJ cB cZ) A [(h_t, .inr (8, [.int u.1, .ref h_tape, .ref h_row, .ref h_out, .ref h_sought, .int z_size, .int u.2.1, .int z_soughtSize, .int z_documents, .int z_indexed, .int z_suffixes, .int z_rows, .ref h_start, .ref h_documentOf, .ref h_order, .ref h_rankOf, .ref h_same, .ref h_work, .ref h_next, .ref h_often, .ref h_has, .int z_lesser])), (h_row, .inl (cB, 16384, .inl z_row)), (h_out, .inl (cB, 16384, .inl u.2.2)), (h_order, .inl (cI, 16384, .inl z_order)), (h_same, .inl (cI, 16385, .inl z_same))] t) A) ([.ref h_t, .int a_p1] : List Value).toArray s 0 0 A) (F0 m 38 ls []) := by
  obtain ⟨hx, hb, hml, hown, hw⟩ := id F
  intro k
  induction k with
  | zero =>
    intro x2 x3 x4 z_thrown z_outSize z_out hv
    exact False.elim hv
  | succ k ih =>
    intro x2 x3 x4 z_thrown z_outSize z_out hv H locs ls hP hD hS hl
    refine lv_iload hx hb d_MD_repeat_38 (lv_at hl 4 rfl) ?_
    refine lv_iload_n hx hb d_MD_repeat_40 rfl (lv_at hl 1 rfl) ?_
    refine lv_iadd hx hb d_MD_repeat_41 ?_
    refine lv_aload_n hx hb d_MD_repeat_42 rfl (lv_at hl 0 rfl) ?_
    refine va_get (D := (dC, dI)) (ci := 8) (v := .int z_suffixes) (C := "SuffixIndexModel") (T := F_MD) (N := 22) hx hb hw i_MD hown hK hP 0 rfl rfl 10 (by decide) (hw _ m_1111) (fun _ h9 => h9) rfl d_MD_repeat_43 ?_
    obtain ⟨hvt, hvf⟩ := hv
    refine lv_icmp_gt (tgt := 118) hx hb d_MD_repeat_46 (by decide) (fun c3 => ?_) (fun c3 => ?_)
    · have hv := hvt c3
      refine lv_aload_n hx hb d_MD_repeat_118 rfl (lv_at hl 0 rfl) ?_
      refine lv_iload_n hx hb d_MD_repeat_119 rfl (lv_at hl 3 rfl) ?_
      refine lv_iload_n hx hb d_MD_repeat_120 rfl (lv_at hl 2 rfl) ?_
      refine cV_v (wr := [(h_order, .inl (cI, 16384, .inl z_order)), (h_same, .inl (cI, 16385, .inl z_same))]) (rest := []) (c_MD_tell l dC dI cI cJ cB cZ h_t h_tape h_row h_out h_sought h_start h_documentOf h_order h_rankOf h_same h_work h_next h_often h_has H.size z_thrown z_size z_outSize z_soughtSize z_documents z_indexed z_suffixes z_rows z_lesser z_row z_out x3 x2 _ hv) F (cw_V (fun _ h => h) 2 hw m_1242 m_1244 ms_37 m_9 m_1245 rfl rfl (by decide +kernel) ⟨by decide, by decide⟩) hK hP hD hS hA [0, 1, 2] [3, 4] rfl rfl rfl rfl (by decide) 0 8 rfl rfl rfl hl.1 rfl (Nat.le_of_ble_eq_true rfl) d_MD_repeat_121 ⟨Nat.le_of_ble_eq_true rfl, Nat.le_of_ble_eq_true rfl⟩ (fun u H locs hv hP hD hS => ?_)
      obtain ⟨u4_0, u4_1⟩ := u
      have hP : va_P (dC, dI) classes [(h_t, .inr (8, [.int z_thrown, .ref h_tape, .ref h_row, .ref h_out, .ref h_sought, .int z_size, .int u4_0, .int z_soughtSize, .int z_documents, .int z_indexed, .int z_suffixes, .int z_rows, .ref h_start, .ref h_documentOf, .ref h_order, .ref h_rankOf, .ref h_same, .ref h_work, .ref h_next, .ref h_often, .ref h_has, .int z_lesser])), (h_row, .inl (cB, 16384, .inl z_row)), (h_out, .inl (cB, 16384, .inl u4_1)), (h_order, .inl (cI, 16384, .inl z_order)), (h_same, .inl (cI, 16385, .inl z_same))] H := P_sub hP [2, 3, 4, 0, 1] rfl
      have hD : va_D A [(h_t, .inr (8, [.int z_thrown, .ref h_tape, .ref h_row, .ref h_out, .ref h_sought, .int z_size, .int u4_0, .int z_soughtSize, .int z_documents, .int z_indexed, .int z_suffixes, .int z_rows, .ref h_start, .ref h_documentOf, .ref h_order, .ref h_rankOf, .ref h_same, .ref h_work, .ref h_next, .ref h_often, .ref h_has, .int z_lesser])), (h_row, .inl (cB, 16384, .inl z_row)), (h_out, .inl (cB, 16384, .inl u4_1)), (h_order, .inl (cI, 16384, .inl z_order)), (h_same, .inl (cI, 16385, .inl z_same))] := hD.sub [2, 3, 4, 0, 1] rfl rfl
      refine lv_iload_n hx hb d_MD_repeat_124 rfl (lv_at hl 2 rfl) ?_
      exact W.iret (v := x2) hx hb hr (fun t ht hW => ⟨⟨x2, (z_thrown, u4_0, u4_1), rfl, hv, by rw [ht]; exact hP, va_K.moved hW.alike hK, hD⟩, hS.F ht⟩) hS.2.2 d_MD_repeat_125
    · have hv := hvf c3
      refine lv_aload_n hx hb d_MD_repeat_49 rfl (lv_at hl 0 rfl) ?_
      refine va_get (D := (dC, dI)) (ci := 8) (v := .ref h_same) (C := "SuffixIndexModel") (T := F_MD) (N := 22) hx hb hw i_MD hown hK hP 0 rfl rfl 16 (by decide) (hw _ m_1117) (fun _ h9 => h9) rfl d_MD_repeat_50 ?_
      refine lv_iload hx hb d_MD_repeat_53 (lv_at hl 4 rfl) ?_
      refine lv_iconst (v := 1) hx hb d_MD_repeat_55 (by decide) ?_
      refine lv_iadd hx hb d_MD_repeat_56 ?_
      obtain ⟨hin, hv⟩ := hv
      refine va_iald hx hb hK hP 4 0 rfl rfl hin d_MD_repeat_57 ?_
      refine lv_istore (lv' := [(5, .int (z_same (x4 + 1).toNatClampNeg)), (0, .ref h_t), (1, .int a_p1), (2, .int x2), (3, .int x3), (4, .int x4)]) hx hb d_MD_repeat_58 hl (by decide) rfl (fun ls hl => ?_)
      refine lv_iload hx hb d_MD_repeat_60 (lv_at hl 5 rfl) ?_
      refine lv_iconst (v := 2) hx hb d_MD_repeat_62 (by decide) ?_
      refine lv_iadd hx hb d_MD_repeat_63 ?_
      refine lv_istore (lv' := [(6, .int (x4 + 2)), (5, .int (z_same (x4 + 1).toNatClampNeg)), (0, .ref h_t), (1, .int a_p1), (2, .int x2), (3, .int x3), (4, .int x4)]) hx hb d_MD_repeat_64 hl (by decide) rfl (fun ls hl => ?_)
      obtain ⟨j, hv⟩ := hv
      exact wk_MD_repeat_66 F hr hlk hK hA ih j x2 x3 x4 (z_same (x4 + 1).toNatClampNeg) (x4 + 2) z_thrown z_outSize z_out hv _ _ _ hP hD hS (lv_sub hl [2, 3, 4, 5, 6, 1, 0] rfl)

set_option maxHeartbeats 4000000 in
set_option maxRecDepth 100000 in
theorem wk_MD_repeat_23 {p : Program} {l : Launch} {e : Env} {s : State} {m : MethodId} {below : List Frame} {meth : Method} {c : Code} {A : Nat → Prop} {dC : Nat → ClassId} {dI : Nat → Nat → Nat} {cI cJ cB cZ : ClassId} {h_t : Nat} {h_tape : Nat} {h_row : Nat} {h_out : Nat} {h_sought : Nat} {h_start : Nat} {h_documentOf : Nat} {h_order : Nat} {h_rankOf : Nat} {h_same : Nat} {h_work : Nat} {h_next : Nat} {h_often : Nat} {h_has : Nat} {a_p1 : Int32} {z_suffixes : Int32} {z_row : Nat → Int32} {z_order : Nat → Int32} {z_same : Nat → Int32} {z_size : Int32} {z_soughtSize : Int32} {z_documents : Int32} {z_indexed : Int32} {z_rows : Int32} {z_lesser : Int32} {post : Int32 → Int32 → Int32 → (Nat → Int32) → Prop} (F : CallFix p m c b_MD_repeat 7 s ([.ref h_t, .int a_p1] : List Value).toArray WT "SuffixIndexModel") (hr : meth.sig.returnType = (some .int)) (hlk : meth.locks = false) (hK : va_K (dC, dI) classes (TYS cI cJ cB cZ) s) (hA : ∀ q, s.heap.size ≤ q → A q) : ∀ (k1 : Int32) (k2 : Int32) (z_thrown : Int32) (z_outSize : Int32) (z_out : Nat → Int32), vc_MD_repeat_23 a_p1 z_suffixes z_row z_order z_same post k1 k2 z_thrown z_outSize z_out → ∀ (H : Heap) (locs : List Loc) (ls : Array Slot), va_P (dC, dI) classes [(h_t, .inr (8, [.int z_thrown, .ref h_tape, .ref h_row, .ref h_out, .ref h_sought, .int z_size, .int z_outSize, .int z_soughtSize, .int z_documents, .int z_indexed, .int z_suffixes, .int z_rows, .ref h_start, .ref h_documentOf, .ref h_order, .ref h_rankOf, .ref h_same, .ref h_work, .ref h_next, .ref h_often, .ref h_has, .int z_lesser])), (h_row, .inl (cB, 16384, .inl z_row)), (h_out, .inl (cB, 16384, .inl z_out)), (h_order, .inl (cI, 16384, .inl z_order)), (h_same, .inl (cI, 16385, .inl z_same))] H → va_D A [(h_t, .inr (8, [.int z_thrown, .ref h_tape, .ref h_row, .ref h_out, .ref h_sought, .int z_size, .int z_outSize, .int z_soughtSize, .int z_documents, .int z_indexed, .int z_suffixes, .int z_rows, .ref h_start, .ref h_documentOf, .ref h_order, .ref h_rankOf, .ref h_same, .ref h_work, .ref h_next, .ref h_often, .ref h_has, .int z_lesser])), (h_row, .inl (cB, 16384, .inl z_row)), (h_out, .inl (cB, 16384, .inl z_out)), (h_order, .inl (cI, 16384, .inl z_order)), (h_same, .inl (cI, 16385, .inl z_same))] → va_S A s.heap H locs → lv_has ls 7 [(0, .ref h_t), (1, .int a_p1)] → W p l e rm_MD_repeat s m ([.ref h_t, .int a_p1] : List Value).toArray below meth c H locs 0 0 (MQ below (va_Qi (fun (r : Int32) (u : Int32 × Int32 × (Nat → Int32)) => post r u.1 u.2.1 u.2.2) (fun u t => cAft (dC, dI) classes (TYS cI cJ cB cZ) A [(h_t, .inr (8, [.int u.1, .ref h_tape, .ref h_row, .ref h_out, .ref h_sought, .int z_size, .int u.2.1, .int z_soughtSize, .int z_documents, .int z_indexed, .int z_suffixes, .int z_rows, .ref h_start, .ref h_documentOf, .ref h_order, .ref h_rankOf, .ref h_same, .ref h_work, .ref h_next, .ref h_often, .ref h_has, .int z_lesser])), (h_row, .inl (cB, 16384, .inl z_row)), (h_out, .inl (cB, 16384, .inl u.2.2)), (h_order, .inl (cI, 16384, .inl z_order)), (h_same, .inl (cI, 16385, .inl z_same))] t) A) ([.ref h_t, .int a_p1] : List Value).toArray s 0 0 A) (F0 m 23 ls [.int k2, .int k1, .ref h_t]) := by
  obtain ⟨hx, hb, hml, hown, hw⟩ := id F
  intro k1 k2 z_thrown z_outSize z_out hv H locs ls hP hD hS hl
  refine cV_i (wr := [(h_row, .inl (cB, 16384, .inl z_row)), (h_out, .inl (cB, 16384, .inl z_out)), (h_order, .inl (cI, 16384, .inl z_order)), (h_same, .inl (cI, 16385, .inl z_same))]) (rest := []) (c_MD_refuse l dC dI cI cJ cB cZ h_t h_tape h_row h_out h_sought h_start h_documentOf h_order h_rankOf h_same h_work h_next h_often h_has H.size z_thrown z_size z_outSize z_soughtSize z_documents z_indexed z_suffixes z_rows z_lesser k1 k2 _ hv) F (cw_V (fun _ h => h) 2 hw m_1177 m_1179 ms_29 m_9 m_1180 rfl rfl (by decide +kernel) ⟨by decide, by decide⟩) hK hP hD hS hA [0] [1, 2, 3, 4] rfl rfl rfl rfl (by decide) 0 8 rfl rfl rfl hl.1 rfl (Nat.le_of_ble_eq_true rfl) d_MD_repeat_23 ⟨Nat.le_of_ble_eq_true rfl, Nat.le_of_ble_eq_true rfl⟩ (fun r5 u H locs hv hP hD hS => ?_)
  obtain ⟨u5_0, rfl⟩ : ∃ z, z = u := ⟨_, rfl⟩
  have hP : va_P (dC, dI) classes [(h_t, .inr (8, [.int u5_0, .ref h_tape, .ref h_row, .ref h_out, .ref h_sought, .int z_size, .int z_outSize, .int z_soughtSize, .int z_documents, .int z_indexed, .int z_suffixes, .int z_rows, .ref h_start, .ref h_documentOf, .ref h_order, .ref h_rankOf, .ref h_same, .ref h_work, .ref h_next, .ref h_often, .ref h_has, .int z_lesser])), (h_row, .inl (cB, 16384, .inl z_row)), (h_out, .inl (cB, 16384, .inl z_out)), (h_order, .inl (cI, 16384, .inl z_order)), (h_same, .inl (cI, 16385, .inl z_same))] H := P_sub hP [4, 0, 1, 2, 3] rfl
  have hD : va_D A [(h_t, .inr (8, [.int u5_0, .ref h_tape, .ref h_row, .ref h_out, .ref h_sought, .int z_size, .int z_outSize, .int z_soughtSize, .int z_documents, .int z_indexed, .int z_suffixes, .int z_rows, .ref h_start, .ref h_documentOf, .ref h_order, .ref h_rankOf, .ref h_same, .ref h_work, .ref h_next, .ref h_often, .ref h_has, .int z_lesser])), (h_row, .inl (cB, 16384, .inl z_row)), (h_out, .inl (cB, 16384, .inl z_out)), (h_order, .inl (cI, 16384, .inl z_order)), (h_same, .inl (cI, 16385, .inl z_same))] := hD.sub [4, 0, 1, 2, 3] rfl rfl
  obtain ⟨hvt, hvf⟩ := hv
  refine lv_if_eq (tgt := 31) hx hb d_MD_repeat_26 (by decide) (fun c6 => ?_) (fun c6 => ?_)
  · have hv := hvt c6
    refine lv_iconst (v := 0) hx hb d_MD_repeat_31 (by decide) ?_
    refine lv_istore_n (lv' := [(2, .int 0), (0, .ref h_t), (1, .int a_p1)]) hx hb d_MD_repeat_32 rfl hl (by decide) rfl (fun ls hl => ?_)
    refine lv_iconst (v := 0) hx hb d_MD_repeat_33 (by decide) ?_
    refine lv_istore_n (lv' := [(3, .int 0), (2, .int 0), (0, .ref h_t), (1, .int a_p1)]) hx hb d_MD_repeat_34 rfl hl (by decide) rfl (fun ls hl => ?_)
    refine lv_iconst (v := 0) hx hb d_MD_repeat_35 (by decide) ?_
    refine lv_istore (lv' := [(4, .int 0), (3, .int 0), (2, .int 0), (0, .ref h_t), (1, .int a_p1)]) hx hb d_MD_repeat_36 hl (by decide) rfl (fun ls hl => ?_)
    obtain ⟨j, hv⟩ := hv
    exact wk_MD_repeat_38 F hr hlk hK hA j 0 0 0 u5_0 z_outSize z_out hv _ _ _ hP hD hS (lv_sub hl [3, 4, 2, 1, 0] rfl)
  · have hv := hvf c6
    refine lv_iconst (v := 0) hx hb d_MD_repeat_29 (by decide) ?_
    exact W.iret (v := 0) hx hb hr (fun t ht hW => ⟨⟨0, (u5_0, z_outSize, z_out), rfl, hv, by rw [ht]; exact hP, va_K.moved hW.alike hK, hD⟩, hS.F ht⟩) hS.2.2 d_MD_repeat_30

set_option maxHeartbeats 4000000 in
set_option maxRecDepth 100000 in
theorem wk_MD_repeat_18 {p : Program} {l : Launch} {e : Env} {s : State} {m : MethodId} {below : List Frame} {meth : Method} {c : Code} {A : Nat → Prop} {dC : Nat → ClassId} {dI : Nat → Nat → Nat} {cI cJ cB cZ : ClassId} {h_t : Nat} {h_tape : Nat} {h_row : Nat} {h_out : Nat} {h_sought : Nat} {h_start : Nat} {h_documentOf : Nat} {h_order : Nat} {h_rankOf : Nat} {h_same : Nat} {h_work : Nat} {h_next : Nat} {h_often : Nat} {h_has : Nat} {a_p1 : Int32} {z_suffixes : Int32} {z_row : Nat → Int32} {z_order : Nat → Int32} {z_same : Nat → Int32} {z_size : Int32} {z_soughtSize : Int32} {z_documents : Int32} {z_indexed : Int32} {z_rows : Int32} {z_lesser : Int32} {post : Int32 → Int32 → Int32 → (Nat → Int32) → Prop} (F : CallFix p m c b_MD_repeat 7 s ([.ref h_t, .int a_p1] : List Value).toArray WT "SuffixIndexModel") (hr : meth.sig.returnType = (some .int)) (hlk : meth.locks = false) (hK : va_K (dC, dI) classes (TYS cI cJ cB cZ) s) (hA : ∀ q, s.heap.size ≤ q → A q) : ∀ (k1 : Int32) (z_thrown : Int32) (z_outSize : Int32) (z_out : Nat → Int32), vc_MD_repeat_18 a_p1 z_suffixes z_row z_order z_same post k1 z_thrown z_outSize z_out → ∀ (H : Heap) (locs : List Loc) (ls : Array Slot), va_P (dC, dI) classes [(h_t, .inr (8, [.int z_thrown, .ref h_tape, .ref h_row, .ref h_out, .ref h_sought, .int z_size, .int z_outSize, .int z_soughtSize, .int z_documents, .int z_indexed, .int z_suffixes, .int z_rows, .ref h_start, .ref h_documentOf, .ref h_order, .ref h_rankOf, .ref h_same, .ref h_work, .ref h_next, .ref h_often, .ref h_has, .int z_lesser])), (h_row, .inl (cB, 16384, .inl z_row)), (h_out, .inl (cB, 16384, .inl z_out)), (h_order, .inl (cI, 16384, .inl z_order)), (h_same, .inl (cI, 16385, .inl z_same))] H → va_D A [(h_t, .inr (8, [.int z_thrown, .ref h_tape, .ref h_row, .ref h_out, .ref h_sought, .int z_size, .int z_outSize, .int z_soughtSize, .int z_documents, .int z_indexed, .int z_suffixes, .int z_rows, .ref h_start, .ref h_documentOf, .ref h_order, .ref h_rankOf, .ref h_same, .ref h_work, .ref h_next, .ref h_often, .ref h_has, .int z_lesser])), (h_row, .inl (cB, 16384, .inl z_row)), (h_out, .inl (cB, 16384, .inl z_out)), (h_order, .inl (cI, 16384, .inl z_order)), (h_same, .inl (cI, 16385, .inl z_same))] → va_S A s.heap H locs → lv_has ls 7 [(0, .ref h_t), (1, .int a_p1)] → W p l e rm_MD_repeat s m ([.ref h_t, .int a_p1] : List Value).toArray below meth c H locs 0 0 (MQ below (va_Qi (fun (r : Int32) (u : Int32 × Int32 × (Nat → Int32)) => post r u.1 u.2.1 u.2.2) (fun u t => cAft (dC, dI) classes (TYS cI cJ cB cZ) A [(h_t, .inr (8, [.int u.1, .ref h_tape, .ref h_row, .ref h_out, .ref h_sought, .int z_size, .int u.2.1, .int z_soughtSize, .int z_documents, .int z_indexed, .int z_suffixes, .int z_rows, .ref h_start, .ref h_documentOf, .ref h_order, .ref h_rankOf, .ref h_same, .ref h_work, .ref h_next, .ref h_often, .ref h_has, .int z_lesser])), (h_row, .inl (cB, 16384, .inl z_row)), (h_out, .inl (cB, 16384, .inl u.2.2)), (h_order, .inl (cI, 16384, .inl z_order)), (h_same, .inl (cI, 16385, .inl z_same))] t) A) ([.ref h_t, .int a_p1] : List Value).toArray s 0 0 A) (F0 m 18 ls [.int k1, .ref h_t]) := by
  obtain ⟨hx, hb, hml, hown, hw⟩ := id F
  intro k1 z_thrown z_outSize z_out hv H locs ls hP hD hS hl
  refine lv_iconst (v := 1) hx hb d_MD_repeat_18 (by decide) ?_
  refine lv_goto (tgt := 23) hx hb d_MD_repeat_19 (by decide) ?_
  exact wk_MD_repeat_23 F hr hlk hK hA k1 1 z_thrown z_outSize z_out hv _ _ _ hP hD hS (lv_sub hl [0, 1] rfl)

set_option maxHeartbeats 4000000 in
set_option maxRecDepth 100000 in
theorem c_MD_repeat (l : Launch) (dC : Nat → ClassId) (dI : Nat → Nat → Nat) (cI cJ cB cZ : ClassId) (h_t : Nat) (h_tape : Nat) (h_row : Nat) (h_out : Nat) (h_sought : Nat) (h_start : Nat) (h_documentOf : Nat) (h_order : Nat) (h_rankOf : Nat) (h_same : Nat) (h_work : Nat) (h_next : Nat) (h_often : Nat) (h_has : Nat) (sz : Nat) (z_thrown : Int32) (z_size : Int32) (z_outSize : Int32) (z_soughtSize : Int32) (z_documents : Int32) (z_indexed : Int32) (z_suffixes : Int32) (z_rows : Int32) (z_lesser : Int32) (z_row : Nat → Int32) (z_out : Nat → Int32) (z_order : Nat → Int32) (z_same : Nat → Int32) (a_p1 : Int32) (post : Int32 → Int32 → Int32 → (Nat → Int32) → Prop) (hv : vc_MD_repeat a_p1 z_suffixes z_row z_order z_same post z_thrown z_outSize z_out) : Met l y_MD_repeat (Cond.code y_MD_repeat b_MD_repeat 7 (some .int) :: WT) rm_MD_repeat (cPre (dC, dI) classes (TYS cI cJ cB cZ) [(h_t, .inr (8, [.int z_thrown, .ref h_tape, .ref h_row, .ref h_out, .ref h_sought, .int z_size, .int z_outSize, .int z_soughtSize, .int z_documents, .int z_indexed, .int z_suffixes, .int z_rows, .ref h_start, .ref h_documentOf, .ref h_order, .ref h_rankOf, .ref h_same, .ref h_work, .ref h_next, .ref h_often, .ref h_has, .int z_lesser])), (h_row, .inl (cB, 16384, .inl z_row)), (h_out, .inl (cB, 16384, .inl z_out)), (h_order, .inl (cI, 16384, .inl z_order)), (h_same, .inl (cI, 16385, .inl z_same))] sz [.ref h_t, .int a_p1]) (va_Qi (fun (r : Int32) (u : Int32 × Int32 × (Nat → Int32)) => post r u.1 u.2.1 u.2.2) (fun u t => cAft (dC, dI) classes (TYS cI cJ cB cZ) (va_A [(h_t, .inr (8, [.int z_thrown, .ref h_tape, .ref h_row, .ref h_out, .ref h_sought, .int z_size, .int z_outSize, .int z_soughtSize, .int z_documents, .int z_indexed, .int z_suffixes, .int z_rows, .ref h_start, .ref h_documentOf, .ref h_order, .ref h_rankOf, .ref h_same, .ref h_work, .ref h_next, .ref h_often, .ref h_has, .int z_lesser])), (h_row, .inl (cB, 16384, .inl z_row)), (h_out, .inl (cB, 16384, .inl z_out)), (h_order, .inl (cI, 16384, .inl z_order)), (h_same, .inl (cI, 16385, .inl z_same))] sz) [(h_t, .inr (8, [.int u.1, .ref h_tape, .ref h_row, .ref h_out, .ref h_sought, .int z_size, .int u.2.1, .int z_soughtSize, .int z_documents, .int z_indexed, .int z_suffixes, .int z_rows, .ref h_start, .ref h_documentOf, .ref h_order, .ref h_rankOf, .ref h_same, .ref h_work, .ref h_next, .ref h_often, .ref h_has, .int z_lesser])), (h_row, .inl (cB, 16384, .inl z_row)), (h_out, .inl (cB, 16384, .inl u.2.2)), (h_order, .inl (cI, 16384, .inl z_order)), (h_same, .inl (cI, 16385, .inl z_same))] t) (va_A [(h_t, .inr (8, [.int z_thrown, .ref h_tape, .ref h_row, .ref h_out, .ref h_sought, .int z_size, .int z_outSize, .int z_soughtSize, .int z_documents, .int z_indexed, .int z_suffixes, .int z_rows, .ref h_start, .ref h_documentOf, .ref h_order, .ref h_rankOf, .ref h_same, .ref h_work, .ref h_next, .ref h_often, .ref h_has, .int z_lesser])), (h_row, .inl (cB, 16384, .inl z_row)), (h_out, .inl (cB, 16384, .inl z_out)), (h_order, .inl (cI, 16384, .inl z_order)), (h_same, .inl (cI, 16385, .inl z_same))] sz)) 0 0 (va_A [(h_t, .inr (8, [.int z_thrown, .ref h_tape, .ref h_row, .ref h_out, .ref h_sought, .int z_size, .int z_outSize, .int z_soughtSize, .int z_documents, .int z_indexed, .int z_suffixes, .int z_rows, .ref h_start, .ref h_documentOf, .ref h_order, .ref h_rankOf, .ref h_same, .ref h_work, .ref h_next, .ref h_often, .ref h_has, .int z_lesser])), (h_row, .inl (cB, 16384, .inl z_row)), (h_out, .inl (cB, 16384, .inl z_out)), (h_order, .inl (cI, 16384, .inl z_order)), (h_same, .inl (cI, 16385, .inl z_same))] sz) := by
  refine Met.ofW (cc := b_MD_repeat) (maxL := 7) (ret := (some .int)) (by decide) rfl ?_
  intro p e s m args below meth c s₁ B hml hq
  obtain ⟨rfl, hsz, hP, hK, hD0⟩ := hq
  have hts := atoms_spec (ws := Cond.code y_MD_repeat b_MD_repeat 7 (some .int) :: WT) B.pre
  have hw : ∀ w ∈ WT, w.before ([.ref h_t, .int a_p1] : List Value).toArray s = true := fun w h => hts w (List.mem_cons_of_mem _ h)
  have hx := B.exec
  have hb := B.bytes
  have hr := B.returns
  have hlk := B.notSynchronized
  have hown : s.vm.findClass "SuffixIndexModel" = some m.cls := findClass_of_methodNamed B.named
  have F : CallFix p m c b_MD_repeat 7 s ([.ref h_t, .int a_p1] : List Value).toArray WT "SuffixIndexModel" := ⟨hx, hb, hml, hown, hw⟩
  subst hsz
  have hD := hD0.self (sz := s.heap.size)
  generalize hAe : va_A [(h_t, .inr (8, [.int z_thrown, .ref h_tape, .ref h_row, .ref h_out, .ref h_sought, .int z_size, .int z_outSize, .int z_soughtSize, .int z_documents, .int z_indexed, .int z_suffixes, .int z_rows, .ref h_start, .ref h_documentOf, .ref h_order, .ref h_rankOf, .ref h_same, .ref h_work, .ref h_next, .ref h_often, .ref h_has, .int z_lesser])), (h_row, .inl (cB, 16384, .inl z_row)), (h_out, .inl (cB, 16384, .inl z_out)), (h_order, .inl (cI, 16384, .inl z_order)), (h_same, .inl (cI, 16385, .inl z_same))] s.heap.size = A at hD ⊢
  have hA : ∀ q : Nat, s.heap.size ≤ q → A q := fun q h => by rw [← hAe]; exact Or.inr h
  have hS : va_S A s.heap s.heap [] := va_S.rf
  have hl := lv_entry ([.ref h_t, .int a_p1]) (n := 7) (Nat.le_of_ble_eq_true rfl)
  rw [lg_entry_eq]
  generalize (lg_sl ([.ref h_t, .int a_p1]) ++ List.replicate (7 - (lg_sl ([.ref h_t, .int a_p1])).length) Slot.unset).toArray = ls at hl ⊢
  have hl : lv_has ls 7 [(0, .ref h_t), (1, .int a_p1)] := hl
  show W p l e rm_MD_repeat s m _ below meth c s.heap [] 0 0 _ _
  have hP : va_P (dC, dI) classes [(h_t, .inr (8, [.int z_thrown, .ref h_tape, .ref h_row, .ref h_out, .ref h_sought, .int z_size, .int z_outSize, .int z_soughtSize, .int z_documents, .int z_indexed, .int z_suffixes, .int z_rows, .ref h_start, .ref h_documentOf, .ref h_order, .ref h_rankOf, .ref h_same, .ref h_work, .ref h_next, .ref h_often, .ref h_has, .int z_lesser])), (h_row, .inl (cB, 16384, .inl z_row)), (h_out, .inl (cB, 16384, .inl z_out)), (h_order, .inl (cI, 16384, .inl z_order)), (h_same, .inl (cI, 16385, .inl z_same))] s.heap := hP
  obtain ⟨H, hHe⟩ : ∃ H, H = s.heap := ⟨_, rfl⟩
  have hS : va_S A s.heap H [] := by rw [hHe]; exact hS
  rw [← hHe] at hP
  suffices hgoal : W p l e rm_MD_repeat s m ([.ref h_t, .int a_p1] : List Value).toArray below meth c H [] 0 0 (MQ below (va_Qi (fun (r : Int32) (u : Int32 × Int32 × (Nat → Int32)) => post r u.1 u.2.1 u.2.2) (fun u t => cAft (dC, dI) classes (TYS cI cJ cB cZ) A [(h_t, .inr (8, [.int u.1, .ref h_tape, .ref h_row, .ref h_out, .ref h_sought, .int z_size, .int u.2.1, .int z_soughtSize, .int z_documents, .int z_indexed, .int z_suffixes, .int z_rows, .ref h_start, .ref h_documentOf, .ref h_order, .ref h_rankOf, .ref h_same, .ref h_work, .ref h_next, .ref h_often, .ref h_has, .int z_lesser])), (h_row, .inl (cB, 16384, .inl z_row)), (h_out, .inl (cB, 16384, .inl u.2.2)), (h_order, .inl (cI, 16384, .inl z_order)), (h_same, .inl (cI, 16385, .inl z_same))] t) A) ([.ref h_t, .int a_p1] : List Value).toArray s 0 0 A) (F0 m 0 ls []) by rw [hHe] at hgoal; exact hgoal
  refine lv_aload_n hx hb d_MD_repeat_0 rfl (lv_at hl 0 rfl) ?_
  refine lv_iconst (v := 0) hx hb d_MD_repeat_1 (by decide) ?_
  refine va_put (D := (dC, dI)) (ci := 8) (v := .int 0) (ty := .int) (C := "SuffixIndexModel") (T := F_MD) (N := 22) hx hb hw i_MD t_MD t_MD_ok n_MD hown hK hP hD hS 0 rfl rfl 0 (by decide) (hw _ m_1101) (fun _ h9 => h9) rfl (by decide +kernel) rfl rfl (Nat.le_of_ble_eq_true rfl) d_MD_repeat_2 (fun H locs hP hD hS => ?_)
  have hP : va_P (dC, dI) classes [(h_t, .inr (8, [.int 0, .ref h_tape, .ref h_row, .ref h_out, .ref h_sought, .int z_size, .int z_outSize, .int z_soughtSize, .int z_documents, .int z_indexed, .int z_suffixes, .int z_rows, .ref h_start, .ref h_documentOf, .ref h_order, .ref h_rankOf, .ref h_same, .ref h_work, .ref h_next, .ref h_often, .ref h_has, .int z_lesser])), (h_row, .inl (cB, 16384, .inl z_row)), (h_out, .inl (cB, 16384, .inl z_out)), (h_order, .inl (cI, 16384, .inl z_order)), (h_same, .inl (cI, 16385, .inl z_same))] H := hP
  have hD : va_D A [(h_t, .inr (8, [.int 0, .ref h_tape, .ref h_row, .ref h_out, .ref h_sought, .int z_size, .int z_outSize, .int z_soughtSize, .int z_documents, .int z_indexed, .int z_suffixes, .int z_rows, .ref h_start, .ref h_documentOf, .ref h_order, .ref h_rankOf, .ref h_same, .ref h_work, .ref h_next, .ref h_often, .ref h_has, .int z_lesser])), (h_row, .inl (cB, 16384, .inl z_row)), (h_out, .inl (cB, 16384, .inl z_out)), (h_order, .inl (cI, 16384, .inl z_order)), (h_same, .inl (cI, 16385, .inl z_same))] := hD
  refine lv_aload_n hx hb d_MD_repeat_5 rfl (lv_at hl 0 rfl) ?_
  refine lv_iconst (v := 1) hx hb d_MD_repeat_6 (by decide) ?_
  refine lv_iload_n hx hb d_MD_repeat_7 rfl (lv_at hl 1 rfl) ?_
  refine lv_iconst (v := 2) hx hb d_MD_repeat_8 (by decide) ?_
  obtain ⟨hvt, hvf⟩ := hv
  refine lv_icmp_lt (tgt := 18) hx hb d_MD_repeat_9 (by decide) (fun c7 => ?_) (fun c7 => ?_)
  · have hv := hvt c7
    exact wk_MD_repeat_18 F hr hlk hK hA 1 0 z_outSize z_out hv _ _ _ hP hD hS (lv_sub hl [0, 1] rfl)
  · have hv := hvf c7
    refine lv_iload_n hx hb d_MD_repeat_12 rfl (lv_at hl 1 rfl) ?_
    refine lv_bipush (v := 20) hx hb d_MD_repeat_13 (by decide) ?_
    obtain ⟨hvt, hvf⟩ := hv
    refine lv_icmp_le (tgt := 22) hx hb d_MD_repeat_15 (by decide) (fun c8 => ?_) (fun c8 => ?_)
    · have hv := hvt c8
      refine lv_iconst (v := 0) hx hb d_MD_repeat_22 (by decide) ?_
      exact wk_MD_repeat_23 F hr hlk hK hA 1 0 0 z_outSize z_out hv _ _ _ hP hD hS (lv_sub hl [0, 1] rfl)
    · have hv := hvf c8
      exact wk_MD_repeat_18 F hr hlk hK hA 1 0 z_outSize z_out hv _ _ _ hP hD hS (lv_sub hl [0, 1] rfl)

set_option maxHeartbeats 4000000 in
set_option maxRecDepth 100000 in
theorem wk_MD_shared_227 {p : Program} {l : Launch} {e : Env} {s : State} {m : MethodId} {below : List Frame} {meth : Method} {c : Code} {A : Nat → Prop} {dC : Nat → ClassId} {dI : Nat → Nat → Nat} {cI cJ cB cZ : ClassId} {h_t : Nat} {h_tape : Nat} {h_row : Nat} {h_out : Nat} {h_sought : Nat} {h_start : Nat} {h_documentOf : Nat} {h_order : Nat} {h_rankOf : Nat} {h_same : Nat} {h_work : Nat} {h_next : Nat} {h_often : Nat} {h_has : Nat} {a_p1 : Int32} {z_suffixes : Int32} {z_row : Nat → Int32} {z_start : Nat → Int32} {z_documentOf : Nat → Int32} {z_order : Nat → Int32} {z_same : Nat → Int32} {z_size : Int32} {z_soughtSize : Int32} {z_documents : Int32} {z_indexed : Int32} {z_rows : Int32} {z_lesser : Int32} {post : Int32 → Int32 → Int32 → (Nat → Int32) → (Nat → Int32) → Prop} {K38 : Int32 → Int32 → Int32 → Int32 → Int32 → (Nat → Int32) → (Nat → Int32) → Prop} (F : CallFix p m c b_MD_shared 8 s ([.ref h_t, .int a_p1] : List Value).toArray WT "SuffixIndexModel") (hr : meth.sig.returnType = (some .int)) (hlk : meth.locks = false) (hK : va_K (dC, dI) classes (TYS cI cJ cB cZ) s) (hA : ∀ q, s.heap.size ≤ q → A q) (hK38 : ∀ (x2 : Int32) (x3 : Int32) (x4 : Int32) (z_thrown : Int32) (z_outSize : Int32) (z_out : Nat → Int32) (z_has : Nat → Int32), K38 x2 x3 x4 z_thrown z_outSize z_out z_has → ∀ (H : Heap) (locs : List Loc) (ls : Array Slot), va_P (dC, dI) classes [(h_t, .inr (8, [.int z_thrown, .ref h_tape, .ref h_row, .ref h_out, .ref h_sought, .int z_size, .int z_outSize, .int z_soughtSize, .int z_documents, .int z_indexed, .int z_suffixes, .int z_rows, .ref h_start, .ref h_documentOf, .ref h_order, .ref h_rankOf, .ref h_same, .ref h_work, .ref h_next, .ref h_often, .ref h_has, .int z_lesser])), (h_row, .inl (cB, 16384, .inl z_row)), (h_out, .inl (cB, 16384, .inl z_out)), (h_start, .inl (cI, 66, .inl z_start)), (h_documentOf, .inl (cI, 16384, .inl z_documentOf)), (h_order, .inl (cI, 16384, .inl z_order)), (h_same, .inl (cI, 16385, .inl z_same)), (h_has, .inl (cZ, 64, .inl z_has))] H → va_D A [(h_t, .inr (8, [.int z_thrown, .ref h_tape, .ref h_row, .ref h_out, .ref h_sought, .int z_size, .int z_outSize, .int z_soughtSize, .int z_documents, .int z_indexed, .int z_suffixes, .int z_rows, .ref h_start, .ref h_documentOf, .ref h_order, .ref h_rankOf, .ref h_same, .ref h_work, .ref h_next, .ref h_often, .ref h_has, .int z_lesser])), (h_row, .inl (cB, 16384, .inl z_row)), (h_out, .inl (cB, 16384, .inl z_out)), (h_start, .inl (cI, 66, .inl z_start)), (h_documentOf, .inl (cI, 16384, .inl z_documentOf)), (h_order, .inl (cI, 16384, .inl z_order)), (h_same, .inl (cI, 16385, .inl z_same)), (h_has, .inl (cZ, 64, .inl z_has))] → va_S A s.heap H locs → lv_has ls 8 [(0, .ref h_t), (1, .int a_p1), (2, .int x2), (3, .int x3), (4, .int x4)] → W p l e rm_MD_shared s m ([.ref h_t, .int a_p1] : List Value).toArray below meth c H locs 0 0 (MQ below (va_Qi (fun (r : Int32) (u : Int32 × Int32 × (Nat → Int32) × (Nat → Int32)) => post r u.1 u.2.1 u.2.2.1 u.2.2.2) (fun u t => cAft (dC, dI) classes (TYS cI cJ cB cZ) A [(h_t, .inr (8, [.int u.1, .ref h_tape, .ref h_row, .ref h_out, .ref h_sought, .int z_size, .int u.2.1, .int z_soughtSize, .int z_documents, .int z_indexed, .int z_suffixes, .int z_rows, .ref h_start, .ref h_documentOf, .ref h_order, .ref h_rankOf, .ref h_same, .ref h_work, .ref h_next, .ref h_often, .ref h_has, .int z_lesser])), (h_row, .inl (cB, 16384, .inl z_row)), (h_out, .inl (cB, 16384, .inl u.2.2.1)), (h_start, .inl (cI, 66, .inl z_start)), (h_documentOf, .inl (cI, 16384, .inl z_documentOf)), (h_order, .inl (cI, 16384, .inl z_order)), (h_same, .inl (cI, 16385, .inl z_same)), (h_has, .inl (cZ, 64, .inl u.2.2.2))] t) A) ([.ref h_t, .int a_p1] : List Value).toArray s 0 0 A) (F0 m 38 ls [])) : ∀ (x2 : Int32) (x3 : Int32) (x4 : Int32) (z_thrown : Int32) (z_outSize : Int32) (z_out : Nat → Int32) (z_has : Nat → Int32), vc_MD_shared_227 a_p1 z_suffixes z_row z_start z_documentOf z_order z_same post K38 x2 x3 x4 z_thrown z_outSize z_out z_has → ∀ (H : Heap) (locs : List Loc) (ls : Array Slot), va_P (dC, dI) classes [(h_t, .inr (8, [.int z_thrown, .ref h_tape, .ref h_row, .ref h_out, .ref h_sought, .int z_size, .int z_outSize, .int z_soughtSize, .int z_documents, .int z_indexed, .int z_suffixes, .int z_rows, .ref h_start, .ref h_documentOf, .ref h_order, .ref h_rankOf, .ref h_same, .ref h_work, .ref h_next, .ref h_often, .ref h_has, .int z_lesser])), (h_row, .inl (cB, 16384, .inl z_row)), (h_out, .inl (cB, 16384, .inl z_out)), (h_start, .inl (cI, 66, .inl z_start)), (h_documentOf, .inl (cI, 16384, .inl z_documentOf)), (h_order, .inl (cI, 16384, .inl z_order)), (h_same, .inl (cI, 16385, .inl z_same)), (h_has, .inl (cZ, 64, .inl z_has))] H → va_D A [(h_t, .inr (8, [.int z_thrown, .ref h_tape, .ref h_row, .ref h_out, .ref h_sought, .int z_size, .int z_outSize, .int z_soughtSize, .int z_documents, .int z_indexed, .int z_suffixes, .int z_rows, .ref h_start, .ref h_documentOf, .ref h_order, .ref h_rankOf, .ref h_same, .ref h_work, .ref h_next, .ref h_often, .ref h_has, .int z_lesser])), (h_row, .inl (cB, 16384, .inl z_row)), (h_out, .inl (cB, 16384, .inl z_out)), (h_start, .inl (cI, 66, .inl z_start)), (h_documentOf, .inl (cI, 16384, .inl z_documentOf)), (h_order, .inl (cI, 16384, .inl z_order)), (h_same, .inl (cI, 16385, .inl z_same)), (h_has, .inl (cZ, 64, .inl z_has))] → va_S A s.heap H locs → lv_has ls 8 [(0, .ref h_t), (1, .int a_p1), (2, .int x2), (3, .int x3), (4, .int x4)] → W p l e rm_MD_shared s m ([.ref h_t, .int a_p1] : List Value).toArray below meth c H locs 0 0 (MQ below (va_Qi (fun (r : Int32) (u : Int32 × Int32 × (Nat → Int32) × (Nat → Int32)) => post r u.1 u.2.1 u.2.2.1 u.2.2.2) (fun u t => cAft (dC, dI) classes (TYS cI cJ cB cZ) A [(h_t, .inr (8, [.int u.1, .ref h_tape, .ref h_row, .ref h_out, .ref h_sought, .int z_size, .int u.2.1, .int z_soughtSize, .int z_documents, .int z_indexed, .int z_suffixes, .int z_rows, .ref h_start, .ref h_documentOf, .ref h_order, .ref h_rankOf, .ref h_same, .ref h_work, .ref h_next, .ref h_often, .ref h_has, .int z_lesser])), (h_row, .inl (cB, 16384, .inl z_row)), (h_out, .inl (cB, 16384, .inl u.2.2.1)), (h_start, .inl (cI, 66, .inl z_start)), (h_documentOf, .inl (cI, 16384, .inl z_documentOf)), (h_order, .inl (cI, 16384, .inl z_order)), (h_same, .inl (cI, 16385, .inl z_same)), (h_has, .inl (cZ, 64, .inl u.2.2.2))] t) A) ([.ref h_t, .int a_p1] : List Value).toArray s 0 0 A) (F0 m 227 ls []) := by
  obtain ⟨hx, hb, hml, hown, hw⟩ := id F
  intro x2 x3 x4 z_thrown z_outSize z_out z_has hv H locs ls hP hD hS hl
  refine lv_iinc (v := x4 + 1) (lv' := [(4, .int (x4 + 1)), (0, .ref h_t), (1, .int a_p1), (2, .int x2), (3, .int x3)]) hx hb d_MD_shared_227 hl (k := 4) rfl (iinc_v (by decide)) (by decide) rfl (fun ls hl => ?_)
  refine lv_goto (tgt := 38) hx hb d_MD_shared_230 (by decide) ?_
  exact hK38 x2 x3 (x4 + 1) z_thrown z_outSize z_out z_has hv _ _ _ hP hD hS (lv_sub hl [1, 2, 3, 4, 0] rfl)

set_option maxHeartbeats 4000000 in
set_option maxRecDepth 100000 in
theorem wk_MD_shared_221 {p : Program} {l : Launch} {e : Env} {s : State} {m : MethodId} {below : List Frame} {meth : Method} {c : Code} {A : Nat → Prop} {dC : Nat → ClassId} {dI : Nat → Nat → Nat} {cI cJ cB cZ : ClassId} {h_t : Nat} {h_tape : Nat} {h_row : Nat} {h_out : Nat} {h_sought : Nat} {h_start : Nat} {h_documentOf : Nat} {h_order : Nat} {h_rankOf : Nat} {h_same : Nat} {h_work : Nat} {h_next : Nat} {h_often : Nat} {h_has : Nat} {a_p1 : Int32} {z_suffixes : Int32} {z_row : Nat → Int32} {z_start : Nat → Int32} {z_documentOf : Nat → Int32} {z_order : Nat → Int32} {z_same : Nat → Int32} {z_size : Int32} {z_soughtSize : Int32} {z_documents : Int32} {z_indexed : Int32} {z_rows : Int32} {z_lesser : Int32} {post : Int32 → Int32 → Int32 → (Nat → Int32) → (Nat → Int32) → Prop} {K119 : Int32 → Int32 → Int32 → Int32 → Int32 → Int32 → Int32 → Int32 → (Nat → Int32) → (Nat → Int32) → Prop} (F : CallFix p m c b_MD_shared 8 s ([.ref h_t, .int a_p1] : List Value).toArray WT "SuffixIndexModel") (hr : meth.sig.returnType = (some .int)) (hlk : meth.locks = false) (hK : va_K (dC, dI) classes (TYS cI cJ cB cZ) s) (hA : ∀ q, s.heap.size ≤ q → A q) (hK119 : ∀ (x2 : Int32) (x3 : Int32) (x4 : Int32) (x5 : Int32) (x6 : Int32) (x7 : Int32) (z_thrown : Int32) (z_outSize : Int32) (z_out : Nat → Int32) (z_has : Nat → Int32), K119 x2 x3 x4 x5 x6 x7 z_thrown z_outSize z_out z_has → ∀ (H : Heap) (locs : List Loc) (ls : Array Slot), va_P (dC, dI) classes [(h_t, .inr (8, [.int z_thrown, .ref h_tape, .ref h_row, .ref h_out, .ref h_sought, .int z_size, .int z_outSize, .int z_soughtSize, .int z_documents, .int z_indexed, .int z_suffixes, .int z_rows, .ref h_start, .ref h_documentOf, .ref h_order, .ref h_rankOf, .ref h_same, .ref h_work, .ref h_next, .ref h_often, .ref h_has, .int z_lesser])), (h_row, .inl (cB, 16384, .inl z_row)), (h_out, .inl (cB, 16384, .inl z_out)), (h_start, .inl (cI, 66, .inl z_start)), (h_documentOf, .inl (cI, 16384, .inl z_documentOf)), (h_order, .inl (cI, 16384, .inl z_order)), (h_same, .inl (cI, 16385, .inl z_same)), (h_has, .inl (cZ, 64, .inl z_has))] H → va_D A [(h_t, .inr (8, [.int z_thrown, .ref h_tape, .ref h_row, .ref h_out, .ref h_sought, .int z_size, .int z_outSize, .int z_soughtSize, .int z_documents, .int z_indexed, .int z_suffixes, .int z_rows, .ref h_start, .ref h_documentOf, .ref h_order, .ref h_rankOf, .ref h_same, .ref h_work, .ref h_next, .ref h_often, .ref h_has, .int z_lesser])), (h_row, .inl (cB, 16384, .inl z_row)), (h_out, .inl (cB, 16384, .inl z_out)), (h_start, .inl (cI, 66, .inl z_start)), (h_documentOf, .inl (cI, 16384, .inl z_documentOf)), (h_order, .inl (cI, 16384, .inl z_order)), (h_same, .inl (cI, 16385, .inl z_same)), (h_has, .inl (cZ, 64, .inl z_has))] → va_S A s.heap H locs → lv_has ls 8 [(0, .ref h_t), (1, .int a_p1), (2, .int x2), (3, .int x3), (4, .int x4), (5, .int x5), (6, .int x6), (7, .int x7)] → W p l e rm_MD_shared s m ([.ref h_t, .int a_p1] : List Value).toArray below meth c H locs 0 0 (MQ below (va_Qi (fun (r : Int32) (u : Int32 × Int32 × (Nat → Int32) × (Nat → Int32)) => post r u.1 u.2.1 u.2.2.1 u.2.2.2) (fun u t => cAft (dC, dI) classes (TYS cI cJ cB cZ) A [(h_t, .inr (8, [.int u.1, .ref h_tape, .ref h_row, .ref h_out, .ref h_sought, .int z_size, .int u.2.1, .int z_soughtSize, .int z_documents, .int z_indexed, .int z_suffixes, .int z_rows, .ref h_start, .ref h_documentOf, .ref h_order, .ref h_rankOf, .ref h_same, .ref h_work, .ref h_next, .ref h_often, .ref h_has, .int z_lesser])), (h_row, .inl (cB, 16384, .inl z_row)), (h_out, .inl (cB, 16384, .inl u.2.2.1)), (h_start, .inl (cI, 66, .inl z_start)), (h_documentOf, .inl (cI, 16384, .inl z_documentOf)), (h_order, .inl (cI, 16384, .inl z_order)), (h_same, .inl (cI, 16385, .inl z_same)), (h_has, .inl (cZ, 64, .inl u.2.2.2))] t) A) ([.ref h_t, .int a_p1] : List Value).toArray s 0 0 A) (F0 m 119 ls [])) : ∀ (x2 : Int32) (x3 : Int32) (x4 : Int32) (x5 : Int32) (x6 : Int32) (x7 : Int32) (z_thrown : Int32) (z_outSize : Int32) (z_out : Nat → Int32) (z_has : Nat → Int32), vc_MD_shared_221 a_p1 z_suffixes z_row z_start z_documentOf z_order z_same post K119 x2 x3 x4 x5 x6 x7 z_thrown z_outSize z_out z_has → ∀ (H : Heap) (locs : List Loc) (ls : Array Slot), va_P (dC, dI) classes [(h_t, .inr (8, [.int z_thrown, .ref h_tape, .ref h_row, .ref h_out, .ref h_sought, .int z_size, .int z_outSize, .int z_soughtSize, .int z_documents, .int z_indexed, .int z_suffixes, .int z_rows, .ref h_start, .ref h_documentOf, .ref h_order, .ref h_rankOf, .ref h_same, .ref h_work, .ref h_next, .ref h_often, .ref h_has, .int z_lesser])), (h_row, .inl (cB, 16384, .inl z_row)), (h_out, .inl (cB, 16384, .inl z_out)), (h_start, .inl (cI, 66, .inl z_start)), (h_documentOf, .inl (cI, 16384, .inl z_documentOf)), (h_order, .inl (cI, 16384, .inl z_order)), (h_same, .inl (cI, 16385, .inl z_same)), (h_has, .inl (cZ, 64, .inl z_has))] H → va_D A [(h_t, .inr (8, [.int z_thrown, .ref h_tape, .ref h_row, .ref h_out, .ref h_sought, .int z_size, .int z_outSize, .int z_soughtSize, .int z_documents, .int z_indexed, .int z_suffixes, .int z_rows, .ref h_start, .ref h_documentOf, .ref h_order, .ref h_rankOf, .ref h_same, .ref h_work, .ref h_next, .ref h_often, .ref h_has, .int z_lesser])), (h_row, .inl (cB, 16384, .inl z_row)), (h_out, .inl (cB, 16384, .inl z_out)), (h_start, .inl (cI, 66, .inl z_start)), (h_documentOf, .inl (cI, 16384, .inl z_documentOf)), (h_order, .inl (cI, 16384, .inl z_order)), (h_same, .inl (cI, 16385, .inl z_same)), (h_has, .inl (cZ, 64, .inl z_has))] → va_S A s.heap H locs → lv_has ls 8 [(0, .ref h_t), (1, .int a_p1), (2, .int x2), (3, .int x3), (4, .int x4), (5, .int x5), (6, .int x6), (7, .int x7)] → W p l e rm_MD_shared s m ([.ref h_t, .int a_p1] : List Value).toArray below meth c H locs 0 0 (MQ below (va_Qi (fun (r : Int32) (u : Int32 × Int32 × (Nat → Int32) × (Nat → Int32)) => post r u.1 u.2.1 u.2.2.1 u.2.2.2) (fun u t => cAft (dC, dI) classes (TYS cI cJ cB cZ) A [(h_t, .inr (8, [.int u.1, .ref h_tape, .ref h_row, .ref h_out, .ref h_sought, .int z_size, .int u.2.1, .int z_soughtSize, .int z_documents, .int z_indexed, .int z_suffixes, .int z_rows, .ref h_start, .ref h_documentOf, .ref h_order, .ref h_rankOf, .ref h_same, .ref h_work, .ref h_next, .ref h_often, .ref h_has, .int z_lesser])), (h_row, .inl (cB, 16384, .inl z_row)), (h_out, .inl (cB, 16384, .inl u.2.2.1)), (h_start, .inl (cI, 66, .inl z_start)), (h_documentOf, .inl (cI, 16384, .inl z_documentOf)), (h_order, .inl (cI, 16384, .inl z_order)), (h_same, .inl (cI, 16385, .inl z_same)), (h_has, .inl (cZ, 64, .inl u.2.2.2))] t) A) ([.ref h_t, .int a_p1] : List Value).toArray s 0 0 A) (F0 m 221 ls []) := by
  obtain ⟨hx, hb, hml, hown, hw⟩ := id F
  intro x2 x3 x4 x5 x6 x7 z_thrown z_outSize z_out z_has hv H locs ls hP hD hS hl
  refine lv_iinc (v := x7 + 1) (lv' := [(7, .int (x7 + 1)), (0, .ref h_t), (1, .int a_p1), (2, .int x2), (3, .int x3), (4, .int x4), (5, .int x5), (6, .int x6)]) hx hb d_MD_shared_221 hl (k := 7) rfl (iinc_v (by decide)) (by decide) rfl (fun ls hl => ?_)
  refine lv_goto (tgt := 119) hx hb d_MD_shared_224 (by decide) ?_
  exact hK119 x2 x3 x4 x5 x6 (x7 + 1) z_thrown z_outSize z_out z_has hv _ _ _ hP hD hS (lv_sub hl [1, 2, 3, 4, 5, 6, 7, 0] rfl)

set_option maxHeartbeats 4000000 in
set_option maxRecDepth 100000 in
theorem wk_MD_shared_119 {p : Program} {l : Launch} {e : Env} {s : State} {m : MethodId} {below : List Frame} {meth : Method} {c : Code} {A : Nat → Prop} {dC : Nat → ClassId} {dI : Nat → Nat → Nat} {cI cJ cB cZ : ClassId} {h_t : Nat} {h_tape : Nat} {h_row : Nat} {h_out : Nat} {h_sought : Nat} {h_start : Nat} {h_documentOf : Nat} {h_order : Nat} {h_rankOf : Nat} {h_same : Nat} {h_work : Nat} {h_next : Nat} {h_often : Nat} {h_has : Nat} {a_p1 : Int32} {z_suffixes : Int32} {z_row : Nat → Int32} {z_start : Nat → Int32} {z_documentOf : Nat → Int32} {z_order : Nat → Int32} {z_same : Nat → Int32} {z_size : Int32} {z_soughtSize : Int32} {z_documents : Int32} {z_indexed : Int32} {z_rows : Int32} {z_lesser : Int32} {post : Int32 → Int32 → Int32 → (Nat → Int32) → (Nat → Int32) → Prop} {K38 : Int32 → Int32 → Int32 → Int32 → Int32 → (Nat → Int32) → (Nat → Int32) → Prop} (F : CallFix p m c b_MD_shared 8 s ([.ref h_t, .int a_p1] : List Value).toArray WT "SuffixIndexModel") (hr : meth.sig.returnType = (some .int)) (hlk : meth.locks = false) (hK : va_K (dC, dI) classes (TYS cI cJ cB cZ) s) (hA : ∀ q, s.heap.size ≤ q → A q) (hK38 : ∀ (x2 : Int32) (x3 : Int32) (x4 : Int32) (z_thrown : Int32) (z_outSize : Int32) (z_out : Nat → Int32) (z_has : Nat → Int32), K38 x2 x3 x4 z_thrown z_outSize z_out z_has → ∀ (H : Heap) (locs : List Loc) (ls : Array Slot), va_P (dC, dI) classes [(h_t, .inr (8, [.int z_thrown, .ref h_tape, .ref h_row, .ref h_out, .ref h_sought, .int z_size, .int z_outSize, .int z_soughtSize, .int z_documents, .int z_indexed, .int z_suffixes, .int z_rows, .ref h_start, .ref h_documentOf, .ref h_order, .ref h_rankOf, .ref h_same, .ref h_work, .ref h_next, .ref h_often, .ref h_has, .int z_lesser])), (h_row, .inl (cB, 16384, .inl z_row)), (h_out, .inl (cB, 16384, .inl z_out)), (h_start, .inl (cI, 66, .inl z_start)), (h_documentOf, .inl (cI, 16384, .inl z_documentOf)), (h_order, .inl (cI, 16384, .inl z_order)), (h_same, .inl (cI, 16385, .inl z_same)), (h_has, .inl (cZ, 64, .inl z_has))] H → va_D A [(h_t, .inr (8, [.int z_thrown, .ref h_tape, .ref h_row, .ref h_out, .ref h_sought, .int z_size, .int z_outSize, .int z_soughtSize, .int z_documents, .int z_indexed, .int z_suffixes, .int z_rows, .ref h_start, .ref h_documentOf, .ref h_order, .ref h_rankOf, .ref h_same, .ref h_work, .ref h_next, .ref h_often, .ref h_has, .int z_lesser])), (h_row, .inl (cB, 16384, .inl z_row)), (h_out, .inl (cB, 16384, .inl z_out)), (h_start, .inl (cI, 66, .inl z_start)), (h_documentOf, .inl (cI, 16384, .inl z_documentOf)), (h_order, .inl (cI, 16384, .inl z_order)), (h_same, .inl (cI, 16385, .inl z_same)), (h_has, .inl (cZ, 64, .inl z_has))] → va_S A s.heap H locs → lv_has ls 8 [(0, .ref h_t), (1, .int a_p1), (2, .int x2), (3, .int x3), (4, .int x4)] → W p l e rm_MD_shared s m ([.ref h_t, .int a_p1] : List Value).toArray below meth c H locs 0 0 (MQ below (va_Qi (fun (r : Int32) (u : Int32 × Int32 × (Nat → Int32) × (Nat → Int32)) => post r u.1 u.2.1 u.2.2.1 u.2.2.2) (fun u t => cAft (dC, dI) classes (TYS cI cJ cB cZ) A [(h_t, .inr (8, [.int u.1, .ref h_tape, .ref h_row, .ref h_out, .ref h_sought, .int z_size, .int u.2.1, .int z_soughtSize, .int z_documents, .int z_indexed, .int z_suffixes, .int z_rows, .ref h_start, .ref h_documentOf, .ref h_order, .ref h_rankOf, .ref h_same, .ref h_work, .ref h_next, .ref h_often, .ref h_has, .int z_lesser])), (h_row, .inl (cB, 16384, .inl z_row)), (h_out, .inl (cB, 16384, .inl u.2.2.1)), (h_start, .inl (cI, 66, .inl z_start)), (h_documentOf, .inl (cI, 16384, .inl z_documentOf)), (h_order, .inl (cI, 16384, .inl z_order)), (h_same, .inl (cI, 16385, .inl z_same)), (h_has, .inl (cZ, 64, .inl u.2.2.2))] t) A) ([.ref h_t, .int a_p1] : List Value).toArray s 0 0 A) (F0 m 38 ls [])) : ∀ (k : Nat) (x2 : Int32) (x3 : Int32) (x4 : Int32) (x5 : Int32) (x6 : Int32) (x7 : Int32) (z_thrown : Int32) (z_outSize : Int32) (z_out : Nat → Int32) (z_has : Nat → Int32), vc_MD_shared_119 a_p1 z_suffixes z_row z_start z_documentOf z_order z_same post K38 k x2 x3 x4 x5 x6 x7 z_thrown z_outSize z_out z_has → ∀ (H : Heap) (locs : List Loc) (ls : Array Slot), va_P (dC, dI) classes [(h_t, .inr (8, [.int z_thrown, .ref h_tape, .ref h_row, .ref h_out, .ref h_sought, .int z_size, .int z_outSize, .int z_soughtSize, .int z_documents, .int z_indexed, .int z_suffixes, .int z_rows, .ref h_start, .ref h_documentOf, .ref h_order, .ref h_rankOf, .ref h_same, .ref h_work, .ref h_next, .ref h_often, .ref h_has, .int z_lesser])), (h_row, .inl (cB, 16384, .inl z_row)), (h_out, .inl (cB, 16384, .inl z_out)), (h_start, .inl (cI, 66, .inl z_start)), (h_documentOf, .inl (cI, 16384, .inl z_documentOf)), (h_order, .inl (cI, 16384, .inl z_order)), (h_same, .inl (cI, 16385, .inl z_same)), (h_has, .inl (cZ, 64, .inl z_has))] H → va_D A [(h_t, .inr (8, [.int z_thrown, .ref h_tape, .ref h_row, .ref h_out, .ref h_sought, .int z_size, .int z_outSize, .int z_soughtSize, .int z_documents, .int z_indexed, .int z_suffixes, .int z_rows, .ref h_start, .ref h_documentOf, .ref h_order, .ref h_rankOf, .ref h_same, .ref h_work, .ref h_next, .ref h_often, .ref h_has, .int z_lesser])), (h_row, .inl (cB, 16384, .inl z_row)), (h_out, .inl (cB, 16384, .inl z_out)), (h_start, .inl (cI, 66, .inl z_start)), (h_documentOf, .inl (cI, 16384, .inl z_documentOf)), (h_order, .inl (cI, 16384, .inl z_order)), (h_same, .inl (cI, 16385, .inl z_same)), (h_has, .inl (cZ, 64, .inl z_has))] → va_S A s.heap H locs → lv_has ls 8 [(0, .ref h_t), (1, .int a_p1), (2, .int x2), (3, .int x3), (4, .int x4), (5, .int x5), (6, .int x6), (7, .int x7)] → W p l e rm_MD_shared s m ([.ref h_t, .int a_p1] : List Value).toArray below meth c H locs 0 0 (MQ below (va_Qi (fun (r : Int32) (u : Int32 × Int32 × (Nat → Int32) × (Nat → Int32)) => post r u.1 u.2.1 u.2.2.1 u.2.2.2) (fun u t => cAft (dC, dI) classes (TYS cI cJ cB cZ) A [(h_t, .inr (8, [.int u.1, .ref h_tape, .ref h_row, .ref h_out, .ref h_sought, .int z_size, .int u.2.1, .int z_soughtSize, .int z_documents, .int z_indexed, .int z_suffixes, .int z_rows, .ref h_start, .ref h_documentOf, .ref h_order, .ref h_rankOf, .ref h_same, .ref h_work, .ref h_next, .ref h_often, .ref h_has, .int z_lesser])), (h_row, .inl (cB, 16384, .inl z_row)), (h_out, .inl (cB, 16384, .inl u.2.2.1)), (h_start, .inl (cI, 66, .inl z_start)), (h_documentOf, .inl (cI, 16384, .inl z_documentOf)), (h_order, .inl (cI, 16384, .inl z_order)), (h_same, .inl (cI, 16385, .inl z_same)), (h_has, .inl (cZ, 64, .inl u.2.2.2))] t) A) ([.ref h_t, .int a_p1] : List Value).toArray s 0 0 A) (F0 m 119 ls []) := by
  obtain ⟨hx, hb, hml, hown, hw⟩ := id F
  intro k
  induction k with
  | zero =>
    intro x2 x3 x4 x5 x6 x7 z_thrown z_outSize z_out z_has hv
    exact False.elim hv
  | succ k ih =>
    intro x2 x3 x4 x5 x6 x7 z_thrown z_outSize z_out z_has hv H locs ls hP hD hS hl
    refine lv_iload hx hb d_MD_shared_119 (lv_at hl 7 rfl) ?_
    refine lv_aload_n hx hb d_MD_shared_121 rfl (lv_at hl 0 rfl) ?_
    refine va_get (D := (dC, dI)) (ci := 8) (v := .int z_suffixes) (C := "SuffixIndexModel") (T := F_MD) (N := 22) hx hb hw i_MD hown hK hP 0 rfl rfl 10 (by decide) (hw _ m_1111) (fun _ h9 => h9) rfl d_MD_shared_122 ?_
    obtain ⟨hvt, hvf⟩ := hv
    refine lv_icmp_ge (tgt := 227) hx hb d_MD_shared_125 (by decide) (fun c1 => ?_) (fun c1 => ?_)
    · have hv := hvt c1
      exact wk_MD_shared_227 F hr hlk hK hA hK38 x2 x3 x4 z_thrown z_outSize z_out z_has hv _ _ _ hP hD hS (lv_sub hl [0, 1, 2, 3, 4] rfl)
    · have hv := hvf c1
      refine lv_iload hx hb d_MD_shared_128 (lv_at hl 6 rfl) ?_
      refine lv_iload_n hx hb d_MD_shared_130 rfl (lv_at hl 2 rfl) ?_
      obtain ⟨hvt, hvf⟩ := hv
      refine lv_icmp_le (tgt := 227) hx hb d_MD_shared_131 (by decide) (fun c2 => ?_) (fun c2 => ?_)
      · have hv := hvt c2
        exact wk_MD_shared_227 F hr hlk hK hA hK38 x2 x3 x4 z_thrown z_outSize z_out z_has hv _ _ _ hP hD hS (lv_sub hl [0, 1, 2, 3, 4] rfl)
      · have hv := hvf c2
        refine lv_iload hx hb d_MD_shared_134 (lv_at hl 6 rfl) ?_
        refine lv_aload_n hx hb d_MD_shared_136 rfl (lv_at hl 0 rfl) ?_
        refine va_get (D := (dC, dI)) (ci := 8) (v := .ref h_same) (C := "SuffixIndexModel") (T := F_MD) (N := 22) hx hb hw i_MD hown hK hP 0 rfl rfl 16 (by decide) (hw _ m_1117) (fun _ h9 => h9) rfl d_MD_shared_137 ?_
        refine lv_iload hx hb d_MD_shared_140 (lv_at hl 7 rfl) ?_
        obtain ⟨hin, hv⟩ := hv
        refine va_iald hx hb hK hP 6 0 rfl rfl hin d_MD_shared_142 ?_
        refine va_mmin hx hb (hml.trans hl.1.symm) hown (hw _ m_1272) (hw _ m_442) (hw _ m_22) (hw _ m_443) (by decide) (Nat.le_of_ble_eq_true rfl) (Nat.zero_le _) (Nat.zero_le _) d_MD_shared_143 ?_
        refine lv_istore (lv' := [(6, .int (if (z_same x7.toNatClampNeg) < x6 then (z_same x7.toNatClampNeg) else x6)), (0, .ref h_t), (1, .int a_p1), (2, .int x2), (3, .int x3), (4, .int x4), (5, .int x5), (7, .int x7)]) hx hb d_MD_shared_146 hl (by decide) rfl (fun ls hl => ?_)
        refine lv_iload hx hb d_MD_shared_148 (lv_at hl 0 rfl) ?_
        refine lv_iload_n hx hb d_MD_shared_150 rfl (lv_at hl 3 rfl) ?_
        obtain ⟨hvt, hvf⟩ := hv
        refine lv_icmp_gt (tgt := 157) hx hb d_MD_shared_151 (by decide) (fun c3 => ?_) (fun c3 => ?_)
        · have hv := hvt c3
          refine lv_aload_n hx hb d_MD_shared_157 rfl (lv_at hl 1 rfl) ?_
          refine va_get (D := (dC, dI)) (ci := 8) (v := .ref h_has) (C := "SuffixIndexModel") (T := F_MD) (N := 22) hx hb hw i_MD hown hK hP 0 rfl rfl 20 (by decide) (hw _ m_1121) (fun _ h9 => h9) rfl d_MD_shared_158 ?_
          refine lv_aload_n hx hb d_MD_shared_161 rfl (lv_at hl 1 rfl) ?_
          refine va_get (D := (dC, dI)) (ci := 8) (v := .ref h_documentOf) (C := "SuffixIndexModel") (T := F_MD) (N := 22) hx hb hw i_MD hown hK hP 0 rfl rfl 13 (by decide) (hw _ m_1114) (fun _ h9 => h9) rfl d_MD_shared_162 ?_
          refine lv_aload_n hx hb d_MD_shared_165 rfl (lv_at hl 1 rfl) ?_
          refine va_get (D := (dC, dI)) (ci := 8) (v := .ref h_order) (C := "SuffixIndexModel") (T := F_MD) (N := 22) hx hb hw i_MD hown hK hP 0 rfl rfl 14 (by decide) (hw _ m_1115) (fun _ h9 => h9) rfl d_MD_shared_166 ?_
          refine lv_iload hx hb d_MD_shared_169 (lv_at hl 7 rfl) ?_
          obtain ⟨hin, hv⟩ := hv
          refine va_iald hx hb hK hP 5 0 rfl rfl hin d_MD_shared_171 ?_
          obtain ⟨hin, hv⟩ := hv
          refine va_iald hx hb hK hP 4 0 rfl rfl hin d_MD_shared_172 ?_
          obtain ⟨hin, hv⟩ := hv
          refine va_zald hx hb hK hP 7 3 rfl rfl hin d_MD_shared_173 ?_
          obtain ⟨hvt, hvf⟩ := hv
          refine lv_if_eq (tgt := 180) hx hb d_MD_shared_174 (by decide) (fun c4 => ?_) (fun c4 => ?_)
          · have hv := hvt c4
            refine lv_aload_n hx hb d_MD_shared_180 rfl (lv_at hl 1 rfl) ?_
            refine va_get (D := (dC, dI)) (ci := 8) (v := .ref h_has) (C := "SuffixIndexModel") (T := F_MD) (N := 22) hx hb hw i_MD hown hK hP 0 rfl rfl 20 (by decide) (hw _ m_1121) (fun _ h9 => h9) rfl d_MD_shared_181 ?_
            refine lv_aload_n hx hb d_MD_shared_184 rfl (lv_at hl 1 rfl) ?_
            refine va_get (D := (dC, dI)) (ci := 8) (v := .ref h_documentOf) (C := "SuffixIndexModel") (T := F_MD) (N := 22) hx hb hw i_MD hown hK hP 0 rfl rfl 13 (by decide) (hw _ m_1114) (fun _ h9 => h9) rfl d_MD_shared_185 ?_
            refine lv_aload_n hx hb d_MD_shared_188 rfl (lv_at hl 1 rfl) ?_
            refine va_get (D := (dC, dI)) (ci := 8) (v := .ref h_order) (C := "SuffixIndexModel") (T := F_MD) (N := 22) hx hb hw i_MD hown hK hP 0 rfl rfl 14 (by decide) (hw _ m_1115) (fun _ h9 => h9) rfl d_MD_shared_189 ?_
            refine lv_iload hx hb d_MD_shared_192 (lv_at hl 7 rfl) ?_
            obtain ⟨hin, hv⟩ := hv
            refine va_iald hx hb hK hP 5 0 rfl rfl hin d_MD_shared_194 ?_
            obtain ⟨hin, hv⟩ := hv
            refine va_iald hx hb hK hP 4 0 rfl rfl hin d_MD_shared_195 ?_
            refine lv_iconst (v := 1) hx hb d_MD_shared_196 (by decide) ?_
            obtain ⟨hin, hv⟩ := hv
            refine va_zast hx hb hK hP hD hS 7 3 rfl rfl hin d_MD_shared_197 (fun H locs hP hD hS => ?_)
            have hP : va_P (dC, dI) classes [(h_t, .inr (8, [.int z_thrown, .ref h_tape, .ref h_row, .ref h_out, .ref h_sought, .int z_size, .int z_outSize, .int z_soughtSize, .int z_documents, .int z_indexed, .int z_suffixes, .int z_rows, .ref h_start, .ref h_documentOf, .ref h_order, .ref h_rankOf, .ref h_same, .ref h_work, .ref h_next, .ref h_often, .ref h_has, .int z_lesser])), (h_row, .inl (cB, 16384, .inl z_row)), (h_out, .inl (cB, 16384, .inl z_out)), (h_start, .inl (cI, 66, .inl z_start)), (h_documentOf, .inl (cI, 16384, .inl z_documentOf)), (h_order, .inl (cI, 16384, .inl z_order)), (h_same, .inl (cI, 16385, .inl z_same)), (h_has, .inl (cZ, 64, .inl (upd z_has (z_documentOf (z_order x7.toNatClampNeg).toNatClampNeg).toNatClampNeg (vp_nar .boolean 1))))] H := hP
            have hD : va_D A [(h_t, .inr (8, [.int z_thrown, .ref h_tape, .ref h_row, .ref h_out, .ref h_sought, .int z_size, .int z_outSize, .int z_soughtSize, .int z_documents, .int z_indexed, .int z_suffixes, .int z_rows, .ref h_start, .ref h_documentOf, .ref h_order, .ref h_rankOf, .ref h_same, .ref h_work, .ref h_next, .ref h_often, .ref h_has, .int z_lesser])), (h_row, .inl (cB, 16384, .inl z_row)), (h_out, .inl (cB, 16384, .inl z_out)), (h_start, .inl (cI, 66, .inl z_start)), (h_documentOf, .inl (cI, 16384, .inl z_documentOf)), (h_order, .inl (cI, 16384, .inl z_order)), (h_same, .inl (cI, 16385, .inl z_same)), (h_has, .inl (cZ, 64, .inl (upd z_has (z_documentOf (z_order x7.toNatClampNeg).toNatClampNeg).toNatClampNeg (vp_nar .boolean 1))))] := hD
            refine lv_iinc (v := x5 + 1) (lv' := [(5, .int (x5 + 1)), (6, .int (if (z_same x7.toNatClampNeg) < x6 then (z_same x7.toNatClampNeg) else x6)), (0, .ref h_t), (1, .int a_p1), (2, .int x2), (3, .int x3), (4, .int x4), (7, .int x7)]) hx hb d_MD_shared_198 hl (k := 6) rfl (iinc_v (by decide)) (by decide) rfl (fun ls hl => ?_)
            refine lv_iload hx hb d_MD_shared_201 (lv_at hl 0 rfl) ?_
            refine lv_iload_n hx hb d_MD_shared_203 rfl (lv_at hl 3 rfl) ?_
            obtain ⟨hvt, hvf⟩ := hv
            refine lv_icmp_ge (tgt := 210) hx hb d_MD_shared_204 (by decide) (fun c5 => ?_) (fun c5 => ?_)
            · have hv := hvt c5
              refine lv_iload hx hb d_MD_shared_210 (lv_at hl 1 rfl) ?_
              refine lv_istore_n (lv' := [(2, .int (if (z_same x7.toNatClampNeg) < x6 then (z_same x7.toNatClampNeg) else x6)), (5, .int (x5 + 1)), (6, .int (if (z_same x7.toNatClampNeg) < x6 then (z_same x7.toNatClampNeg) else x6)), (0, .ref h_t), (1, .int a_p1), (3, .int x3), (4, .int x4), (7, .int x7)]) hx hb d_MD_shared_212 rfl hl (by decide) rfl (fun ls hl => ?_)
              refine lv_aload_n hx hb d_MD_shared_213 rfl (lv_at hl 3 rfl) ?_
              refine va_get (D := (dC, dI)) (ci := 8) (v := .ref h_order) (C := "SuffixIndexModel") (T := F_MD) (N := 22) hx hb hw i_MD hown hK hP 0 rfl rfl 14 (by decide) (hw _ m_1115) (fun _ h9 => h9) rfl d_MD_shared_214 ?_
              refine lv_iload hx hb d_MD_shared_217 (lv_at hl 6 rfl) ?_
              obtain ⟨hin, hv⟩ := hv
              refine va_iald hx hb hK hP 5 0 rfl rfl hin d_MD_shared_219 ?_
              refine lv_istore_n (lv' := [(3, .int (z_order x4.toNatClampNeg)), (2, .int (if (z_same x7.toNatClampNeg) < x6 then (z_same x7.toNatClampNeg) else x6)), (5, .int (x5 + 1)), (6, .int (if (z_same x7.toNatClampNeg) < x6 then (z_same x7.toNatClampNeg) else x6)), (0, .ref h_t), (1, .int a_p1), (4, .int x4), (7, .int x7)]) hx hb d_MD_shared_220 rfl hl (by decide) rfl (fun ls hl => ?_)
              exact wk_MD_shared_221 F hr hlk hK hA ih (if (z_same x7.toNatClampNeg) < x6 then (z_same x7.toNatClampNeg) else x6) (z_order x4.toNatClampNeg) x4 (x5 + 1) (if (z_same x7.toNatClampNeg) < x6 then (z_same x7.toNatClampNeg) else x6) x7 z_thrown z_outSize z_out (upd z_has (z_documentOf (z_order x7.toNatClampNeg).toNatClampNeg).toNatClampNeg (vp_nar .boolean 1)) hv _ _ _ hP hD hS (lv_sub hl [4, 5, 1, 0, 6, 2, 3, 7] rfl)
            · have hv := hvf c5
              refine lv_goto (tgt := 221) hx hb d_MD_shared_207 (by decide) ?_
              exact wk_MD_shared_221 F hr hlk hK hA ih x2 x3 x4 (x5 + 1) (if (z_same x7.toNatClampNeg) < x6 then (z_same x7.toNatClampNeg) else x6) x7 z_thrown z_outSize z_out (upd z_has (z_documentOf (z_order x7.toNatClampNeg).toNatClampNeg).toNatClampNeg (vp_nar .boolean 1)) hv _ _ _ hP hD hS (lv_sub hl [2, 3, 4, 5, 6, 0, 1, 7] rfl)
          · have hv := hvf c4
            refine lv_goto (tgt := 221) hx hb d_MD_shared_177 (by decide) ?_
            exact wk_MD_shared_221 F hr hlk hK hA ih x2 x3 x4 x5 (if (z_same x7.toNatClampNeg) < x6 then (z_same x7.toNatClampNeg) else x6) x7 z_thrown z_outSize z_out z_has hv _ _ _ hP hD hS (lv_sub hl [1, 2, 3, 4, 5, 6, 0, 7] rfl)
        · have hv := hvf c3
          refine lv_goto (tgt := 227) hx hb d_MD_shared_154 (by decide) ?_
          exact wk_MD_shared_227 F hr hlk hK hA hK38 x2 x3 x4 z_thrown z_outSize z_out z_has hv _ _ _ hP hD hS (lv_sub hl [1, 2, 3, 4, 5] rfl)

set_option maxHeartbeats 4000000 in
set_option maxRecDepth 100000 in
theorem wk_MD_shared_50 {p : Program} {l : Launch} {e : Env} {s : State} {m : MethodId} {below : List Frame} {meth : Method} {c : Code} {A : Nat → Prop} {dC : Nat → ClassId} {dI : Nat → Nat → Nat} {cI cJ cB cZ : ClassId} {h_t : Nat} {h_tape : Nat} {h_row : Nat} {h_out : Nat} {h_sought : Nat} {h_start : Nat} {h_documentOf : Nat} {h_order : Nat} {h_rankOf : Nat} {h_same : Nat} {h_work : Nat} {h_next : Nat} {h_often : Nat} {h_has : Nat} {a_p1 : Int32} {z_suffixes : Int32} {z_row : Nat → Int32} {z_start : Nat → Int32} {z_documentOf : Nat → Int32} {z_order : Nat → Int32} {z_same : Nat → Int32} {z_size : Int32} {z_soughtSize : Int32} {z_documents : Int32} {z_indexed : Int32} {z_rows : Int32} {z_lesser : Int32} {post : Int32 → Int32 → Int32 → (Nat → Int32) → (Nat → Int32) → Prop} {K38 : Int32 → Int32 → Int32 → Int32 → Int32 → (Nat → Int32) → (Nat → Int32) → Prop} (F : CallFix p m c b_MD_shared 8 s ([.ref h_t, .int a_p1] : List Value).toArray WT "SuffixIndexModel") (hr : meth.sig.returnType = (some .int)) (hlk : meth.locks = false) (hK : va_K (dC, dI) classes (TYS cI cJ cB cZ) s) (hA : ∀ q, s.heap.size ≤ q → A q) (hK38 : ∀ (x2 : Int32) (x3 : Int32) (x4 : Int32) (z_thrown : Int32) (z_outSize : Int32) (z_out : Nat → Int32) (z_has : Nat → Int32), K38 x2 x3 x4 z_thrown z_outSize z_out z_has → ∀ (H : Heap) (locs : List Loc) (ls : Array Slot), va_P (dC, dI) classes [(h_t, .inr (8, [.int z_thrown, .ref h_tape, .ref h_row, .ref h_out, .ref h_sought, .int z_size, .int z_outSize, .int z_soughtSize, .int z_documents, .int z_indexed, .int z_suffixes, .int z_rows, .ref h_start, .ref h_documentOf, .ref h_order, .ref h_rankOf, .ref h_same, .ref h_work, .ref h_next, .ref h_often, .ref h_has, .int z_lesser])), (h_row, .inl (cB, 16384, .inl z_row)), (h_out, .inl (cB, 16384, .inl z_out)), (h_start, .inl (cI, 66, .inl z_start)), (h_documentOf, .inl (cI, 16384, .inl z_documentOf)), (h_order, .inl (cI, 16384, .inl z_order)), (h_same, .inl (cI, 16385, .inl z_same)), (h_has, .inl (cZ, 64, .inl z_has))] H → va_D A [(h_t, .inr (8, [.int z_thrown, .ref h_tape, .ref h_row, .ref h_out, .ref h_sought, .int z_size, .int z_outSize, .int z_soughtSize, .int z_documents, .int z_indexed, .int z_suffixes, .int z_rows, .ref h_start, .ref h_documentOf, .ref h_order, .ref h_rankOf, .ref h_same, .ref h_work, .ref h_next, .ref h_often, .ref h_has, .int z_lesser])), (h_row, .inl (cB, 16384, .inl z_row)), (h_out, .inl (cB, 16384, .inl z_out)), (h_start, .inl (cI, 66, .inl z_start)), (h_documentOf, .inl (cI, 16384, .inl z_documentOf)), (h_order, .inl (cI, 16384, .inl z_order)), (h_same, .inl (cI, 16385, .inl z_same)), (h_has, .inl (cZ, 64, .inl z_has))] → va_S A s.heap H locs → lv_has ls 8 [(0, .ref h_t), (1, .int a_p1), (2, .int x2), (3, .int x3), (4, .int x4)] → W p l e rm_MD_shared s m ([.ref h_t, .int a_p1] : List Value).toArray below meth c H locs 0 0 (MQ below (va_Qi (fun (r : Int32) (u : Int32 × Int32 × (Nat → Int32) × (Nat → Int32)) => post r u.1 u.2.1 u.2.2.1 u.2.2.2) (fun u t => cAft (dC, dI) classes (TYS cI cJ cB cZ) A [(h_t, .inr (8, [.int u.1, .ref h_tape, .ref h_row, .ref h_out, .ref h_sought, .int z_size, .int u.2.1, .int z_soughtSize, .int z_documents, .int z_indexed, .int z_suffixes, .int z_rows, .ref h_start, .ref h_documentOf, .ref h_order, .ref h_rankOf, .ref h_same, .ref h_work, .ref h_next, .ref h_often, .ref h_has, .int z_lesser])), (h_row, .inl (cB, 16384, .inl z_row)), (h_out, .inl (cB, 16384, .inl u.2.2.1)), (h_start, .inl (cI, 66, .inl z_start)), (h_documentOf, .inl (cI, 16384, .inl z_documentOf)), (h_order, .inl (cI, 16384, .inl z_order)), (h_same, .inl (cI, 16385, .inl z_same)), (h_has, .inl (cZ, 64, .inl u.2.2.2))] t) A) ([.ref h_t, .int a_p1] : List Value).toArray s 0 0 A) (F0 m 38 ls [])) : ∀ (k : Nat) (x2 : Int32) (x3 : Int32) (x4 : Int32) (x5 : Int32) (z_thrown : Int32) (z_outSize : Int32) (z_out : Nat → Int32) (z_has : Nat → Int32), vc_MD_shared_50 a_p1 z_suffixes z_row z_start z_documentOf z_order z_same post K38 k x2 x3 x4 x5 z_thrown z_outSize z_out z_has → ∀ (H : Heap) (locs : List Loc) (ls : Array Slot), va_P (dC, dI) classes [(h_t, .inr (8, [.int z_thrown, .ref h_tape, .ref h_row, .ref h_out, .ref h_sought, .int z_size, .int z_outSize, .int z_soughtSize, .int z_documents, .int z_indexed, .int z_suffixes, .int z_rows, .ref h_start, .ref h_documentOf, .ref h_order, .ref h_rankOf, .ref h_same, .ref h_work, .ref h_next, .ref h_often, .ref h_has, .int z_lesser])), (h_row, .inl (cB, 16384, .inl z_row)), (h_out, .inl (cB, 16384, .inl z_out)), (h_start, .inl (cI, 66, .inl z_start)), (h_documentOf, .inl (cI, 16384, .inl z_documentOf)), (h_order, .inl (cI, 16384, .inl z_order)), (h_same, .inl (cI, 16385, .inl z_same)), (h_has, .inl (cZ, 64, .inl z_has))] H → va_D A [(h_t, .inr (8, [.int z_thrown, .ref h_tape, .ref h_row, .ref h_out, .ref h_sought, .int z_size, .int z_outSize, .int z_soughtSize, .int z_documents, .int z_indexed, .int z_suffixes, .int z_rows, .ref h_start, .ref h_documentOf, .ref h_order, .ref h_rankOf, .ref h_same, .ref h_work, .ref h_next, .ref h_often, .ref h_has, .int z_lesser])), (h_row, .inl (cB, 16384, .inl z_row)), (h_out, .inl (cB, 16384, .inl z_out)), (h_start, .inl (cI, 66, .inl z_start)), (h_documentOf, .inl (cI, 16384, .inl z_documentOf)), (h_order, .inl (cI, 16384, .inl z_order)), (h_same, .inl (cI, 16385, .inl z_same)), (h_has, .inl (cZ, 64, .inl z_has))] → va_S A s.heap H locs → lv_has ls 8 [(0, .ref h_t), (1, .int a_p1), (2, .int x2), (3, .int x3), (4, .int x4), (5, .int x5)] → W p l e rm_MD_shared s m ([.ref h_t, .int a_p1] : List Value).toArray below meth c H locs 0 0 (MQ below (va_Qi (fun (r : Int32) (u : Int32 × Int32 × (Nat → Int32) × (Nat → Int32)) => post r u.1 u.2.1 u.2.2.1 u.2.2.2) (fun u t => cAft (dC, dI) classes (TYS cI cJ cB cZ) A [(h_t, .inr (8, [.int u.1, .ref h_tape, .ref h_row, .ref h_out, .ref h_sought, .int z_size, .int u.2.1, .int z_soughtSize, .int z_documents, .int z_indexed, .int z_suffixes, .int z_rows, .ref h_start, .ref h_documentOf, .ref h_order, .ref h_rankOf, .ref h_same, .ref h_work, .ref h_next, .ref h_often, .ref h_has, .int z_lesser])), (h_row, .inl (cB, 16384, .inl z_row)), (h_out, .inl (cB, 16384, .inl u.2.2.1)), (h_start, .inl (cI, 66, .inl z_start)), (h_documentOf, .inl (cI, 16384, .inl z_documentOf)), (h_order, .inl (cI, 16384, .inl z_order)), (h_same, .inl (cI, 16385, .inl z_same)), (h_has, .inl (cZ, 64, .inl u.2.2.2))] t) A) ([.ref h_t, .int a_p1] : List Value).toArray s 0 0 A) (F0 m 50 ls []) := by
  obtain ⟨hx, hb, hml, hown, hw⟩ := id F
  intro k
  induction k with
  | zero =>
    intro x2 x3 x4 x5 z_thrown z_outSize z_out z_has hv
    exact False.elim hv
  | succ k ih =>
    intro x2 x3 x4 x5 z_thrown z_outSize z_out z_has hv H locs ls hP hD hS hl
    refine lv_iload hx hb d_MD_shared_50 (lv_at hl 5 rfl) ?_
    refine lv_bipush (v := 64) hx hb d_MD_shared_52 (by decide) ?_
    obtain ⟨hvt, hvf⟩ := hv
    refine lv_icmp_ge (tgt := 71) hx hb d_MD_shared_54 (by decide) (fun c6 => ?_) (fun c6 => ?_)
    · have hv := hvt c6
      refine lv_aload_n hx hb d_MD_shared_71 rfl (lv_at hl 0 rfl) ?_
      refine va_get (D := (dC, dI)) (ci := 8) (v := .ref h_has) (C := "SuffixIndexModel") (T := F_MD) (N := 22) hx hb hw i_MD hown hK hP 0 rfl rfl 20 (by decide) (hw _ m_1121) (fun _ h9 => h9) rfl d_MD_shared_72 ?_
      refine lv_aload_n hx hb d_MD_shared_75 rfl (lv_at hl 0 rfl) ?_
      refine va_get (D := (dC, dI)) (ci := 8) (v := .ref h_documentOf) (C := "SuffixIndexModel") (T := F_MD) (N := 22) hx hb hw i_MD hown hK hP 0 rfl rfl 13 (by decide) (hw _ m_1114) (fun _ h9 => h9) rfl d_MD_shared_76 ?_
      refine lv_aload_n hx hb d_MD_shared_79 rfl (lv_at hl 0 rfl) ?_
      refine va_get (D := (dC, dI)) (ci := 8) (v := .ref h_order) (C := "SuffixIndexModel") (T := F_MD) (N := 22) hx hb hw i_MD hown hK hP 0 rfl rfl 14 (by decide) (hw _ m_1115) (fun _ h9 => h9) rfl d_MD_shared_80 ?_
      refine lv_iload hx hb d_MD_shared_83 (lv_at hl 4 rfl) ?_
      obtain ⟨hin, hv⟩ := hv
      refine va_iald hx hb hK hP 5 0 rfl rfl hin d_MD_shared_85 ?_
      obtain ⟨hin, hv⟩ := hv
      refine va_iald hx hb hK hP 4 0 rfl rfl hin d_MD_shared_86 ?_
      refine lv_iconst (v := 1) hx hb d_MD_shared_87 (by decide) ?_
      obtain ⟨hin, hv⟩ := hv
      refine va_zast hx hb hK hP hD hS 7 3 rfl rfl hin d_MD_shared_88 (fun H locs hP hD hS => ?_)
      have hP : va_P (dC, dI) classes [(h_t, .inr (8, [.int z_thrown, .ref h_tape, .ref h_row, .ref h_out, .ref h_sought, .int z_size, .int z_outSize, .int z_soughtSize, .int z_documents, .int z_indexed, .int z_suffixes, .int z_rows, .ref h_start, .ref h_documentOf, .ref h_order, .ref h_rankOf, .ref h_same, .ref h_work, .ref h_next, .ref h_often, .ref h_has, .int z_lesser])), (h_row, .inl (cB, 16384, .inl z_row)), (h_out, .inl (cB, 16384, .inl z_out)), (h_start, .inl (cI, 66, .inl z_start)), (h_documentOf, .inl (cI, 16384, .inl z_documentOf)), (h_order, .inl (cI, 16384, .inl z_order)), (h_same, .inl (cI, 16385, .inl z_same)), (h_has, .inl (cZ, 64, .inl (upd z_has (z_documentOf (z_order x4.toNatClampNeg).toNatClampNeg).toNatClampNeg (vp_nar .boolean 1))))] H := hP
      have hD : va_D A [(h_t, .inr (8, [.int z_thrown, .ref h_tape, .ref h_row, .ref h_out, .ref h_sought, .int z_size, .int z_outSize, .int z_soughtSize, .int z_documents, .int z_indexed, .int z_suffixes, .int z_rows, .ref h_start, .ref h_documentOf, .ref h_order, .ref h_rankOf, .ref h_same, .ref h_work, .ref h_next, .ref h_often, .ref h_has, .int z_lesser])), (h_row, .inl (cB, 16384, .inl z_row)), (h_out, .inl (cB, 16384, .inl z_out)), (h_start, .inl (cI, 66, .inl z_start)), (h_documentOf, .inl (cI, 16384, .inl z_documentOf)), (h_order, .inl (cI, 16384, .inl z_order)), (h_same, .inl (cI, 16385, .inl z_same)), (h_has, .inl (cZ, 64, .inl (upd z_has (z_documentOf (z_order x4.toNatClampNeg).toNatClampNeg).toNatClampNeg (vp_nar .boolean 1))))] := hD
      refine lv_iconst (v := 1) hx hb d_MD_shared_89 (by decide) ?_
      refine lv_istore (lv' := [(5, .int 1), (0, .ref h_t), (1, .int a_p1), (2, .int x2), (3, .int x3), (4, .int x4)]) hx hb d_MD_shared_90 hl (by decide) rfl (fun ls hl => ?_)
      refine lv_aload_n hx hb d_MD_shared_92 rfl (lv_at hl 1 rfl) ?_
      refine lv_aload_n hx hb d_MD_shared_93 rfl (lv_at hl 1 rfl) ?_
      refine va_get (D := (dC, dI)) (ci := 8) (v := .ref h_order) (C := "SuffixIndexModel") (T := F_MD) (N := 22) hx hb hw i_MD hown hK hP 0 rfl rfl 14 (by decide) (hw _ m_1115) (fun _ h9 => h9) rfl d_MD_shared_94 ?_
      refine lv_iload hx hb d_MD_shared_97 (lv_at hl 5 rfl) ?_
      obtain ⟨hin, hv⟩ := hv
      refine va_iald hx hb hK hP 5 0 rfl rfl hin d_MD_shared_99 ?_
      refine cV_i (wr := [(h_row, .inl (cB, 16384, .inl z_row)), (h_out, .inl (cB, 16384, .inl z_out)), (h_order, .inl (cI, 16384, .inl z_order)), (h_same, .inl (cI, 16385, .inl z_same)), (h_has, .inl (cZ, 64, .inl (upd z_has (z_documentOf (z_order x4.toNatClampNeg).toNatClampNeg).toNatClampNeg (vp_nar .boolean 1))))]) (rest := []) (c_MD_endOf l dC dI cI cJ cB cZ h_t h_tape h_row h_out h_sought h_start h_documentOf h_order h_rankOf h_same h_work h_next h_often h_has H.size z_thrown z_size z_outSize z_soughtSize z_documents z_indexed z_suffixes z_rows z_lesser z_start z_documentOf (z_order x4.toNatClampNeg) _ hv) F (cw_V (fun _ h => h) 1 hw m_1209 m_1211 ms_33 m_9 m_1212 rfl rfl (by decide +kernel) ⟨by decide, by decide⟩) hK hP hD hS hA [0, 3, 4] [1, 2, 5, 6, 7] rfl rfl rfl rfl (by decide) 0 8 rfl rfl rfl hl.1 rfl (Nat.le_of_ble_eq_true rfl) d_MD_shared_100 ⟨Nat.le_of_ble_eq_true rfl, Nat.le_of_ble_eq_true rfl⟩ (fun r7 u H locs hv hP hD hS => ?_)
      have hP : va_P (dC, dI) classes [(h_t, .inr (8, [.int z_thrown, .ref h_tape, .ref h_row, .ref h_out, .ref h_sought, .int z_size, .int z_outSize, .int z_soughtSize, .int z_documents, .int z_indexed, .int z_suffixes, .int z_rows, .ref h_start, .ref h_documentOf, .ref h_order, .ref h_rankOf, .ref h_same, .ref h_work, .ref h_next, .ref h_often, .ref h_has, .int z_lesser])), (h_row, .inl (cB, 16384, .inl z_row)), (h_out, .inl (cB, 16384, .inl z_out)), (h_start, .inl (cI, 66, .inl z_start)), (h_documentOf, .inl (cI, 16384, .inl z_documentOf)), (h_order, .inl (cI, 16384, .inl z_order)), (h_same, .inl (cI, 16385, .inl z_same)), (h_has, .inl (cZ, 64, .inl (upd z_has (z_documentOf (z_order x4.toNatClampNeg).toNatClampNeg).toNatClampNeg (vp_nar .boolean 1))))] H := P_sub hP [5, 0, 1, 6, 7, 2, 3, 4] rfl
      have hD : va_D A [(h_t, .inr (8, [.int z_thrown, .ref h_tape, .ref h_row, .ref h_out, .ref h_sought, .int z_size, .int z_outSize, .int z_soughtSize, .int z_documents, .int z_indexed, .int z_suffixes, .int z_rows, .ref h_start, .ref h_documentOf, .ref h_order, .ref h_rankOf, .ref h_same, .ref h_work, .ref h_next, .ref h_often, .ref h_has, .int z_lesser])), (h_row, .inl (cB, 16384, .inl z_row)), (h_out, .inl (cB, 16384, .inl z_out)), (h_start, .inl (cI, 66, .inl z_start)), (h_documentOf, .inl (cI, 16384, .inl z_documentOf)), (h_order, .inl (cI, 16384, .inl z_order)), (h_same, .inl (cI, 16385, .inl z_same)), (h_has, .inl (cZ, 64, .inl (upd z_has (z_documentOf (z_order x4.toNatClampNeg).toNatClampNeg).toNatClampNeg (vp_nar .boolean 1))))] := hD.sub [5, 0, 1, 6, 7, 2, 3, 4] rfl rfl
      refine lv_aload_n hx hb d_MD_shared_103 rfl (lv_at hl 1 rfl) ?_
      refine va_get (D := (dC, dI)) (ci := 8) (v := .ref h_order) (C := "SuffixIndexModel") (T := F_MD) (N := 22) hx hb hw i_MD hown hK hP 0 rfl rfl 14 (by decide) (hw _ m_1115) (fun _ h9 => h9) rfl d_MD_shared_104 ?_
      refine lv_iload hx hb d_MD_shared_107 (lv_at hl 5 rfl) ?_
      obtain ⟨hin, hv⟩ := hv
      refine va_iald hx hb hK hP 5 0 rfl rfl hin d_MD_shared_109 ?_
      refine lv_isub hx hb d_MD_shared_110 ?_
      refine lv_istore (lv' := [(6, .int (r7 - (z_order x4.toNatClampNeg))), (5, .int 1), (0, .ref h_t), (1, .int a_p1), (2, .int x2), (3, .int x3), (4, .int x4)]) hx hb d_MD_shared_111 hl (by decide) rfl (fun ls hl => ?_)
      refine lv_iload hx hb d_MD_shared_113 (lv_at hl 6 rfl) ?_
      refine lv_iconst (v := 1) hx hb d_MD_shared_115 (by decide) ?_
      refine lv_iadd hx hb d_MD_shared_116 ?_
      refine lv_istore (lv' := [(7, .int (x4 + 1)), (6, .int (r7 - (z_order x4.toNatClampNeg))), (5, .int 1), (0, .ref h_t), (1, .int a_p1), (2, .int x2), (3, .int x3), (4, .int x4)]) hx hb d_MD_shared_117 hl (by decide) rfl (fun ls hl => ?_)
      obtain ⟨j, hv⟩ := hv
      exact wk_MD_shared_119 F hr hlk hK hA hK38 j x2 x3 x4 1 (r7 - (z_order x4.toNatClampNeg)) (x4 + 1) z_thrown z_outSize z_out (upd z_has (z_documentOf (z_order x4.toNatClampNeg).toNatClampNeg).toNatClampNeg (vp_nar .boolean 1)) hv _ _ _ hP hD hS (lv_sub hl [3, 4, 5, 6, 7, 2, 1, 0] rfl)
    · have hv := hvf c6
      refine lv_aload_n hx hb d_MD_shared_57 rfl (lv_at hl 0 rfl) ?_
      refine va_get (D := (dC, dI)) (ci := 8) (v := .ref h_has) (C := "SuffixIndexModel") (T := F_MD) (N := 22) hx hb hw i_MD hown hK hP 0 rfl rfl 20 (by decide) (hw _ m_1121) (fun _ h9 => h9) rfl d_MD_shared_58 ?_
      refine lv_iload hx hb d_MD_shared_61 (lv_at hl 5 rfl) ?_
      refine lv_iconst (v := 0) hx hb d_MD_shared_63 (by decide) ?_
      obtain ⟨hin, hv⟩ := hv
      refine va_zast hx hb hK hP hD hS 7 3 rfl rfl hin d_MD_shared_64 (fun H locs hP hD hS => ?_)
      have hP : va_P (dC, dI) classes [(h_t, .inr (8, [.int z_thrown, .ref h_tape, .ref h_row, .ref h_out, .ref h_sought, .int z_size, .int z_outSize, .int z_soughtSize, .int z_documents, .int z_indexed, .int z_suffixes, .int z_rows, .ref h_start, .ref h_documentOf, .ref h_order, .ref h_rankOf, .ref h_same, .ref h_work, .ref h_next, .ref h_often, .ref h_has, .int z_lesser])), (h_row, .inl (cB, 16384, .inl z_row)), (h_out, .inl (cB, 16384, .inl z_out)), (h_start, .inl (cI, 66, .inl z_start)), (h_documentOf, .inl (cI, 16384, .inl z_documentOf)), (h_order, .inl (cI, 16384, .inl z_order)), (h_same, .inl (cI, 16385, .inl z_same)), (h_has, .inl (cZ, 64, .inl (upd z_has x5.toNatClampNeg (vp_nar .boolean 0))))] H := hP
      have hD : va_D A [(h_t, .inr (8, [.int z_thrown, .ref h_tape, .ref h_row, .ref h_out, .ref h_sought, .int z_size, .int z_outSize, .int z_soughtSize, .int z_documents, .int z_indexed, .int z_suffixes, .int z_rows, .ref h_start, .ref h_documentOf, .ref h_order, .ref h_rankOf, .ref h_same, .ref h_work, .ref h_next, .ref h_often, .ref h_has, .int z_lesser])), (h_row, .inl (cB, 16384, .inl z_row)), (h_out, .inl (cB, 16384, .inl z_out)), (h_start, .inl (cI, 66, .inl z_start)), (h_documentOf, .inl (cI, 16384, .inl z_documentOf)), (h_order, .inl (cI, 16384, .inl z_order)), (h_same, .inl (cI, 16385, .inl z_same)), (h_has, .inl (cZ, 64, .inl (upd z_has x5.toNatClampNeg (vp_nar .boolean 0))))] := hD
      refine lv_iinc (v := x5 + 1) (lv' := [(5, .int (x5 + 1)), (0, .ref h_t), (1, .int a_p1), (2, .int x2), (3, .int x3), (4, .int x4)]) hx hb d_MD_shared_65 hl (k := 5) rfl (iinc_v (by decide)) (by decide) rfl (fun ls hl => ?_)
      refine lv_goto (tgt := 50) hx hb d_MD_shared_68 (by decide) ?_
      exact ih x2 x3 x4 (x5 + 1) z_thrown z_outSize z_out (upd z_has x5.toNatClampNeg (vp_nar .boolean 0)) hv _ _ _ hP hD hS (lv_sub hl [1, 2, 3, 4, 5, 0] rfl)

set_option maxHeartbeats 4000000 in
set_option maxRecDepth 100000 in
theorem wk_MD_shared_38 {p : Program} {l : Launch} {e : Env} {s : State} {m : MethodId} {below : List Frame} {meth : Method} {c : Code} {A : Nat → Prop} {dC : Nat → ClassId} {dI : Nat → Nat → Nat} {cI cJ cB cZ : ClassId} {h_t : Nat} {h_tape : Nat} {h_row : Nat} {h_out : Nat} {h_sought : Nat} {h_start : Nat} {h_documentOf : Nat} {h_order : Nat} {h_rankOf : Nat} {h_same : Nat} {h_work : Nat} {h_next : Nat} {h_often : Nat} {h_has : Nat} {a_p1 : Int32} {z_suffixes : Int32} {z_row : Nat → Int32} {z_start : Nat → Int32} {z_documentOf : Nat → Int32} {z_order : Nat → Int32} {z_same : Nat → Int32} {z_size : Int32} {z_soughtSize : Int32} {z_documents : Int32} {z_indexed : Int32} {z_rows : Int32} {z_lesser : Int32} {post : Int32 → Int32 → Int32 → (Nat → Int32) → (Nat → Int32) → Prop} (F : CallFix p m c b_MD_shared 8 s ([.ref h_t, .int a_p1] : List Value).toArray WT "SuffixIndexModel") (hr : meth.sig.returnType = (some .int)) (hlk : meth.locks = false) (hK : va_K (dC, dI) classes (TYS cI cJ cB cZ) s) (hA : ∀ q, s.heap.size ≤ q → A q) : ∀ (k : Nat) (x2 : Int32) (x3 : Int32) (x4 : Int32) (z_thrown : Int32) (z_outSize : Int32) (z_out : Nat → Int32) (z_has : Nat → Int32), vc_MD_shared_38 a_p1 z_suffixes z_row z_start z_documentOf z_order z_same post k x2 x3 x4 z_thrown z_outSize z_out z_has → ∀ (H : Heap) (locs : List Loc) (ls : Array Slot), va_P (dC, dI) classes [(h_t, .inr (8, [.int z_thrown, .ref h_tape, .ref h_row, .ref h_out, .ref h_sought, .int z_size, .int z_outSize, .int z_soughtSize, .int z_documents, .int z_indexed, .int z_suffixes, .int z_rows, .ref h_start, .ref h_documentOf, .ref h_order, .ref h_rankOf, .ref h_same, .ref h_work, .ref h_next, .ref h_often, .ref h_has, .int z_lesser])), (h_row, .inl (cB, 16384, .inl z_row)), (h_out, .inl (cB, 16384, .inl z_out)), (h_start, .inl (cI, 66, .inl z_start)), (h_documentOf, .inl (cI, 16384, .inl z_documentOf)), (h_order, .inl (cI, 16384, .inl z_order)), (h_same, .inl (cI, 16385, .inl z_same)), (h_has, .inl (cZ, 64, .inl z_has))] H → va_D A [(h_t, .inr (8, [.int z_thrown, .ref h_tape, .ref h_row, .ref h_out, .ref h_sought, .int z_size, .int z_outSize, .int z_soughtSize, .int z_documents, .int z_indexed, .int z_suffixes, .int z_rows, .ref h_start, .ref h_documentOf, .ref h_order, .ref h_rankOf, .ref h_same, .ref h_work, .ref h_next, .ref h_often, .ref h_has, .int z_lesser])), (h_row, .inl (cB, 16384, .inl z_row)), (h_out, .inl (cB, 16384, .inl z_out)), (h_start, .inl (cI, 66, .inl z_start)), (h_documentOf, .inl (cI, 16384, .inl z_documentOf)), (h_order, .inl (cI, 16384, .inl z_order)), (h_same, .inl (cI, 16385, .inl z_same)), (h_has, .inl (cZ, 64, .inl z_has))] → va_S A s.heap H locs → lv_has ls 8 [(0, .ref h_t), (1, .int a_p1), (2, .int x2), (3, .int x3), (4, .int x4)] → W p l e rm_MD_shared s m ([.ref h_t, .int a_p1] : List Value).toArray below meth c H locs 0 0 (MQ below (va_Qi (fun (r : Int32) (u : Int32 × Int32 × (Nat → Int32) × (Nat → Int32)) => post r u.1 u.2.1 u.2.2.1 u.2.2.2) (fun u t => cAft (dC, dI) classes (TYS cI cJ cB cZ) A [(h_t, .inr (8, [.int u.1, .ref h_tape, .ref h_row, .ref h_out, .ref h_sought, .int z_size, .int u.2.1, .int z_soughtSize, .int z_documents, .int z_indexed, .int z_suffixes, .int z_rows, .ref h_start, .ref h_documentOf, .ref h_order, .ref h_rankOf, .ref h_same, .ref h_work, .ref h_next, .ref h_often, .ref h_has, .int z_lesser])), (h_row, .inl (cB, 16384, .inl z_row)), (h_out, .inl (cB, 16384, .inl u.2.2.1)), (h_start, .inl (cI, 66, .inl z_start)), (h_documentOf, .inl (cI, 16384, .inl z_documentOf)), (h_order, .inl (cI, 16384, .inl z_order)), (h_same, .inl (cI, 16385, .inl z_same)), (h_has, .inl (cZ, 64, .inl u.2.2.2))] t) A) ([.ref h_t, .int a_p1] : List Value).toArray s 0 0 A) (F0 m 38 ls []) := by
  obtain ⟨hx, hb, hml, hown, hw⟩ := id F
  intro k
  induction k with
  | zero =>
    intro x2 x3 x4 z_thrown z_outSize z_out z_has hv
    exact False.elim hv
  | succ k ih =>
    intro x2 x3 x4 z_thrown z_outSize z_out z_has hv H locs ls hP hD hS hl
    refine lv_iload hx hb d_MD_shared_38 (lv_at hl 4 rfl) ?_
    refine lv_aload_n hx hb d_MD_shared_40 rfl (lv_at hl 0 rfl) ?_
    refine va_get (D := (dC, dI)) (ci := 8) (v := .int z_suffixes) (C := "SuffixIndexModel") (T := F_MD) (N := 22) hx hb hw i_MD hown hK hP 0 rfl rfl 10 (by decide) (hw _ m_1111) (fun _ h9 => h9) rfl d_MD_shared_41 ?_
    obtain ⟨hvt, hvf⟩ := hv
    refine lv_icmp_ge (tgt := 233) hx hb d_MD_shared_44 (by decide) (fun c8 => ?_) (fun c8 => ?_)
    · have hv := hvt c8
      refine lv_aload_n hx hb d_MD_shared_233 rfl (lv_at hl 0 rfl) ?_
      refine lv_iload_n hx hb d_MD_shared_234 rfl (lv_at hl 3 rfl) ?_
      refine lv_iload_n hx hb d_MD_shared_235 rfl (lv_at hl 2 rfl) ?_
      refine cV_v (wr := [(h_start, .inl (cI, 66, .inl z_start)), (h_documentOf, .inl (cI, 16384, .inl z_documentOf)), (h_order, .inl (cI, 16384, .inl z_order)), (h_same, .inl (cI, 16385, .inl z_same)), (h_has, .inl (cZ, 64, .inl z_has))]) (rest := []) (c_MD_tell l dC dI cI cJ cB cZ h_t h_tape h_row h_out h_sought h_start h_documentOf h_order h_rankOf h_same h_work h_next h_often h_has H.size z_thrown z_size z_outSize z_soughtSize z_documents z_indexed z_suffixes z_rows z_lesser z_row z_out x3 x2 _ hv) F (cw_V (fun _ h => h) 2 hw m_1242 m_1244 ms_37 m_9 m_1245 rfl rfl (by decide +kernel) ⟨by decide, by decide⟩) hK hP hD hS hA [0, 1, 2] [3, 4, 5, 6, 7] rfl rfl rfl rfl (by decide) 0 8 rfl rfl rfl hl.1 rfl (Nat.le_of_ble_eq_true rfl) d_MD_shared_236 ⟨Nat.le_of_ble_eq_true rfl, Nat.le_of_ble_eq_true rfl⟩ (fun u H locs hv hP hD hS => ?_)
      obtain ⟨u9_0, u9_1⟩ := u
      have hP : va_P (dC, dI) classes [(h_t, .inr (8, [.int z_thrown, .ref h_tape, .ref h_row, .ref h_out, .ref h_sought, .int z_size, .int u9_0, .int z_soughtSize, .int z_documents, .int z_indexed, .int z_suffixes, .int z_rows, .ref h_start, .ref h_documentOf, .ref h_order, .ref h_rankOf, .ref h_same, .ref h_work, .ref h_next, .ref h_often, .ref h_has, .int z_lesser])), (h_row, .inl (cB, 16384, .inl z_row)), (h_out, .inl (cB, 16384, .inl u9_1)), (h_start, .inl (cI, 66, .inl z_start)), (h_documentOf, .inl (cI, 16384, .inl z_documentOf)), (h_order, .inl (cI, 16384, .inl z_order)), (h_same, .inl (cI, 16385, .inl z_same)), (h_has, .inl (cZ, 64, .inl z_has))] H := P_sub hP [5, 6, 7, 0, 1, 2, 3, 4] rfl
      have hD : va_D A [(h_t, .inr (8, [.int z_thrown, .ref h_tape, .ref h_row, .ref h_out, .ref h_sought, .int z_size, .int u9_0, .int z_soughtSize, .int z_documents, .int z_indexed, .int z_suffixes, .int z_rows, .ref h_start, .ref h_documentOf, .ref h_order, .ref h_rankOf, .ref h_same, .ref h_work, .ref h_next, .ref h_often, .ref h_has, .int z_lesser])), (h_row, .inl (cB, 16384, .inl z_row)), (h_out, .inl (cB, 16384, .inl u9_1)), (h_start, .inl (cI, 66, .inl z_start)), (h_documentOf, .inl (cI, 16384, .inl z_documentOf)), (h_order, .inl (cI, 16384, .inl z_order)), (h_same, .inl (cI, 16385, .inl z_same)), (h_has, .inl (cZ, 64, .inl z_has))] := hD.sub [5, 6, 7, 0, 1, 2, 3, 4] rfl rfl
      refine lv_iload_n hx hb d_MD_shared_239 rfl (lv_at hl 2 rfl) ?_
      exact W.iret (v := x2) hx hb hr (fun t ht hW => ⟨⟨x2, (z_thrown, u9_0, u9_1, z_has), rfl, hv, by rw [ht]; exact hP, va_K.moved hW.alike hK, hD⟩, hS.F ht⟩) hS.2.2 d_MD_shared_240
    · have hv := hvf c8
      refine lv_iconst (v := 0) hx hb d_MD_shared_47 (by decide) ?_
      refine lv_istore (lv' := [(5, .int 0), (0, .ref h_t), (1, .int a_p1), (2, .int x2), (3, .int x3), (4, .int x4)]) hx hb d_MD_shared_48 hl (by decide) rfl (fun ls hl => ?_)
      obtain ⟨j, hv⟩ := hv
      exact wk_MD_shared_50 F hr hlk hK hA ih j x2 x3 x4 0 z_thrown z_outSize z_out z_has hv _ _ _ hP hD hS (lv_sub hl [1, 2, 3, 4, 5, 0] rfl)

set_option maxHeartbeats 4000000 in
set_option maxRecDepth 100000 in
theorem wk_MD_shared_23 {p : Program} {l : Launch} {e : Env} {s : State} {m : MethodId} {below : List Frame} {meth : Method} {c : Code} {A : Nat → Prop} {dC : Nat → ClassId} {dI : Nat → Nat → Nat} {cI cJ cB cZ : ClassId} {h_t : Nat} {h_tape : Nat} {h_row : Nat} {h_out : Nat} {h_sought : Nat} {h_start : Nat} {h_documentOf : Nat} {h_order : Nat} {h_rankOf : Nat} {h_same : Nat} {h_work : Nat} {h_next : Nat} {h_often : Nat} {h_has : Nat} {a_p1 : Int32} {z_suffixes : Int32} {z_row : Nat → Int32} {z_start : Nat → Int32} {z_documentOf : Nat → Int32} {z_order : Nat → Int32} {z_same : Nat → Int32} {z_size : Int32} {z_soughtSize : Int32} {z_documents : Int32} {z_indexed : Int32} {z_rows : Int32} {z_lesser : Int32} {post : Int32 → Int32 → Int32 → (Nat → Int32) → (Nat → Int32) → Prop} (F : CallFix p m c b_MD_shared 8 s ([.ref h_t, .int a_p1] : List Value).toArray WT "SuffixIndexModel") (hr : meth.sig.returnType = (some .int)) (hlk : meth.locks = false) (hK : va_K (dC, dI) classes (TYS cI cJ cB cZ) s) (hA : ∀ q, s.heap.size ≤ q → A q) : ∀ (k1 : Int32) (k2 : Int32) (z_thrown : Int32) (z_outSize : Int32) (z_out : Nat → Int32) (z_has : Nat → Int32), vc_MD_shared_23 a_p1 z_suffixes z_row z_start z_documentOf z_order z_same post k1 k2 z_thrown z_outSize z_out z_has → ∀ (H : Heap) (locs : List Loc) (ls : Array Slot), va_P (dC, dI) classes [(h_t, .inr (8, [.int z_thrown, .ref h_tape, .ref h_row, .ref h_out, .ref h_sought, .int z_size, .int z_outSize, .int z_soughtSize, .int z_documents, .int z_indexed, .int z_suffixes, .int z_rows, .ref h_start, .ref h_documentOf, .ref h_order, .ref h_rankOf, .ref h_same, .ref h_work, .ref h_next, .ref h_often, .ref h_has, .int z_lesser])), (h_row, .inl (cB, 16384, .inl z_row)), (h_out, .inl (cB, 16384, .inl z_out)), (h_start, .inl (cI, 66, .inl z_start)), (h_documentOf, .inl (cI, 16384, .inl z_documentOf)), (h_order, .inl (cI, 16384, .inl z_order)), (h_same, .inl (cI, 16385, .inl z_same)), (h_has, .inl (cZ, 64, .inl z_has))] H → va_D A [(h_t, .inr (8, [.int z_thrown, .ref h_tape, .ref h_row, .ref h_out, .ref h_sought, .int z_size, .int z_outSize, .int z_soughtSize, .int z_documents, .int z_indexed, .int z_suffixes, .int z_rows, .ref h_start, .ref h_documentOf, .ref h_order, .ref h_rankOf, .ref h_same, .ref h_work, .ref h_next, .ref h_often, .ref h_has, .int z_lesser])), (h_row, .inl (cB, 16384, .inl z_row)), (h_out, .inl (cB, 16384, .inl z_out)), (h_start, .inl (cI, 66, .inl z_start)), (h_documentOf, .inl (cI, 16384, .inl z_documentOf)), (h_order, .inl (cI, 16384, .inl z_order)), (h_same, .inl (cI, 16385, .inl z_same)), (h_has, .inl (cZ, 64, .inl z_has))] → va_S A s.heap H locs → lv_has ls 8 [(0, .ref h_t), (1, .int a_p1)] → W p l e rm_MD_shared s m ([.ref h_t, .int a_p1] : List Value).toArray below meth c H locs 0 0 (MQ below (va_Qi (fun (r : Int32) (u : Int32 × Int32 × (Nat → Int32) × (Nat → Int32)) => post r u.1 u.2.1 u.2.2.1 u.2.2.2) (fun u t => cAft (dC, dI) classes (TYS cI cJ cB cZ) A [(h_t, .inr (8, [.int u.1, .ref h_tape, .ref h_row, .ref h_out, .ref h_sought, .int z_size, .int u.2.1, .int z_soughtSize, .int z_documents, .int z_indexed, .int z_suffixes, .int z_rows, .ref h_start, .ref h_documentOf, .ref h_order, .ref h_rankOf, .ref h_same, .ref h_work, .ref h_next, .ref h_often, .ref h_has, .int z_lesser])), (h_row, .inl (cB, 16384, .inl z_row)), (h_out, .inl (cB, 16384, .inl u.2.2.1)), (h_start, .inl (cI, 66, .inl z_start)), (h_documentOf, .inl (cI, 16384, .inl z_documentOf)), (h_order, .inl (cI, 16384, .inl z_order)), (h_same, .inl (cI, 16385, .inl z_same)), (h_has, .inl (cZ, 64, .inl u.2.2.2))] t) A) ([.ref h_t, .int a_p1] : List Value).toArray s 0 0 A) (F0 m 23 ls [.int k2, .int k1, .ref h_t]) := by
  obtain ⟨hx, hb, hml, hown, hw⟩ := id F
  intro k1 k2 z_thrown z_outSize z_out z_has hv H locs ls hP hD hS hl
  refine cV_i (wr := [(h_row, .inl (cB, 16384, .inl z_row)), (h_out, .inl (cB, 16384, .inl z_out)), (h_start, .inl (cI, 66, .inl z_start)), (h_documentOf, .inl (cI, 16384, .inl z_documentOf)), (h_order, .inl (cI, 16384, .inl z_order)), (h_same, .inl (cI, 16385, .inl z_same)), (h_has, .inl (cZ, 64, .inl z_has))]) (rest := []) (c_MD_refuse l dC dI cI cJ cB cZ h_t h_tape h_row h_out h_sought h_start h_documentOf h_order h_rankOf h_same h_work h_next h_often h_has H.size z_thrown z_size z_outSize z_soughtSize z_documents z_indexed z_suffixes z_rows z_lesser k1 k2 _ hv) F (cw_V (fun _ h => h) 2 hw m_1177 m_1179 ms_29 m_9 m_1180 rfl rfl (by decide +kernel) ⟨by decide, by decide⟩) hK hP hD hS hA [0] [1, 2, 3, 4, 5, 6, 7] rfl rfl rfl rfl (by decide) 0 8 rfl rfl rfl hl.1 rfl (Nat.le_of_ble_eq_true rfl) d_MD_shared_23 ⟨Nat.le_of_ble_eq_true rfl, Nat.le_of_ble_eq_true rfl⟩ (fun r10 u H locs hv hP hD hS => ?_)
  obtain ⟨u10_0, rfl⟩ : ∃ z, z = u := ⟨_, rfl⟩
  have hP : va_P (dC, dI) classes [(h_t, .inr (8, [.int u10_0, .ref h_tape, .ref h_row, .ref h_out, .ref h_sought, .int z_size, .int z_outSize, .int z_soughtSize, .int z_documents, .int z_indexed, .int z_suffixes, .int z_rows, .ref h_start, .ref h_documentOf, .ref h_order, .ref h_rankOf, .ref h_same, .ref h_work, .ref h_next, .ref h_often, .ref h_has, .int z_lesser])), (h_row, .inl (cB, 16384, .inl z_row)), (h_out, .inl (cB, 16384, .inl z_out)), (h_start, .inl (cI, 66, .inl z_start)), (h_documentOf, .inl (cI, 16384, .inl z_documentOf)), (h_order, .inl (cI, 16384, .inl z_order)), (h_same, .inl (cI, 16385, .inl z_same)), (h_has, .inl (cZ, 64, .inl z_has))] H := P_sub hP [7, 0, 1, 2, 3, 4, 5, 6] rfl
  have hD : va_D A [(h_t, .inr (8, [.int u10_0, .ref h_tape, .ref h_row, .ref h_out, .ref h_sought, .int z_size, .int z_outSize, .int z_soughtSize, .int z_documents, .int z_indexed, .int z_suffixes, .int z_rows, .ref h_start, .ref h_documentOf, .ref h_order, .ref h_rankOf, .ref h_same, .ref h_work, .ref h_next, .ref h_often, .ref h_has, .int z_lesser])), (h_row, .inl (cB, 16384, .inl z_row)), (h_out, .inl (cB, 16384, .inl z_out)), (h_start, .inl (cI, 66, .inl z_start)), (h_documentOf, .inl (cI, 16384, .inl z_documentOf)), (h_order, .inl (cI, 16384, .inl z_order)), (h_same, .inl (cI, 16385, .inl z_same)), (h_has, .inl (cZ, 64, .inl z_has))] := hD.sub [7, 0, 1, 2, 3, 4, 5, 6] rfl rfl
  obtain ⟨hvt, hvf⟩ := hv
  refine lv_if_eq (tgt := 31) hx hb d_MD_shared_26 (by decide) (fun c11 => ?_) (fun c11 => ?_)
  · have hv := hvt c11
    refine lv_iconst (v := 0) hx hb d_MD_shared_31 (by decide) ?_
    refine lv_istore_n (lv' := [(2, .int 0), (0, .ref h_t), (1, .int a_p1)]) hx hb d_MD_shared_32 rfl hl (by decide) rfl (fun ls hl => ?_)
    refine lv_iconst (v := 0) hx hb d_MD_shared_33 (by decide) ?_
    refine lv_istore_n (lv' := [(3, .int 0), (2, .int 0), (0, .ref h_t), (1, .int a_p1)]) hx hb d_MD_shared_34 rfl hl (by decide) rfl (fun ls hl => ?_)
    refine lv_iconst (v := 0) hx hb d_MD_shared_35 (by decide) ?_
    refine lv_istore (lv' := [(4, .int 0), (3, .int 0), (2, .int 0), (0, .ref h_t), (1, .int a_p1)]) hx hb d_MD_shared_36 hl (by decide) rfl (fun ls hl => ?_)
    obtain ⟨j, hv⟩ := hv
    exact wk_MD_shared_38 F hr hlk hK hA j 0 0 0 u10_0 z_outSize z_out z_has hv _ _ _ hP hD hS (lv_sub hl [3, 4, 2, 1, 0] rfl)
  · have hv := hvf c11
    refine lv_iconst (v := 0) hx hb d_MD_shared_29 (by decide) ?_
    exact W.iret (v := 0) hx hb hr (fun t ht hW => ⟨⟨0, (u10_0, z_outSize, z_out, z_has), rfl, hv, by rw [ht]; exact hP, va_K.moved hW.alike hK, hD⟩, hS.F ht⟩) hS.2.2 d_MD_shared_30

set_option maxHeartbeats 4000000 in
set_option maxRecDepth 100000 in
theorem wk_MD_shared_18 {p : Program} {l : Launch} {e : Env} {s : State} {m : MethodId} {below : List Frame} {meth : Method} {c : Code} {A : Nat → Prop} {dC : Nat → ClassId} {dI : Nat → Nat → Nat} {cI cJ cB cZ : ClassId} {h_t : Nat} {h_tape : Nat} {h_row : Nat} {h_out : Nat} {h_sought : Nat} {h_start : Nat} {h_documentOf : Nat} {h_order : Nat} {h_rankOf : Nat} {h_same : Nat} {h_work : Nat} {h_next : Nat} {h_often : Nat} {h_has : Nat} {a_p1 : Int32} {z_suffixes : Int32} {z_row : Nat → Int32} {z_start : Nat → Int32} {z_documentOf : Nat → Int32} {z_order : Nat → Int32} {z_same : Nat → Int32} {z_size : Int32} {z_soughtSize : Int32} {z_documents : Int32} {z_indexed : Int32} {z_rows : Int32} {z_lesser : Int32} {post : Int32 → Int32 → Int32 → (Nat → Int32) → (Nat → Int32) → Prop} (F : CallFix p m c b_MD_shared 8 s ([.ref h_t, .int a_p1] : List Value).toArray WT "SuffixIndexModel") (hr : meth.sig.returnType = (some .int)) (hlk : meth.locks = false) (hK : va_K (dC, dI) classes (TYS cI cJ cB cZ) s) (hA : ∀ q, s.heap.size ≤ q → A q) : ∀ (k1 : Int32) (z_thrown : Int32) (z_outSize : Int32) (z_out : Nat → Int32) (z_has : Nat → Int32), vc_MD_shared_18 a_p1 z_suffixes z_row z_start z_documentOf z_order z_same post k1 z_thrown z_outSize z_out z_has → ∀ (H : Heap) (locs : List Loc) (ls : Array Slot), va_P (dC, dI) classes [(h_t, .inr (8, [.int z_thrown, .ref h_tape, .ref h_row, .ref h_out, .ref h_sought, .int z_size, .int z_outSize, .int z_soughtSize, .int z_documents, .int z_indexed, .int z_suffixes, .int z_rows, .ref h_start, .ref h_documentOf, .ref h_order, .ref h_rankOf, .ref h_same, .ref h_work, .ref h_next, .ref h_often, .ref h_has, .int z_lesser])), (h_row, .inl (cB, 16384, .inl z_row)), (h_out, .inl (cB, 16384, .inl z_out)), (h_start, .inl (cI, 66, .inl z_start)), (h_documentOf, .inl (cI, 16384, .inl z_documentOf)), (h_order, .inl (cI, 16384, .inl z_order)), (h_same, .inl (cI, 16385, .inl z_same)), (h_has, .inl (cZ, 64, .inl z_has))] H → va_D A [(h_t, .inr (8, [.int z_thrown, .ref h_tape, .ref h_row, .ref h_out, .ref h_sought, .int z_size, .int z_outSize, .int z_soughtSize, .int z_documents, .int z_indexed, .int z_suffixes, .int z_rows, .ref h_start, .ref h_documentOf, .ref h_order, .ref h_rankOf, .ref h_same, .ref h_work, .ref h_next, .ref h_often, .ref h_has, .int z_lesser])), (h_row, .inl (cB, 16384, .inl z_row)), (h_out, .inl (cB, 16384, .inl z_out)), (h_start, .inl (cI, 66, .inl z_start)), (h_documentOf, .inl (cI, 16384, .inl z_documentOf)), (h_order, .inl (cI, 16384, .inl z_order)), (h_same, .inl (cI, 16385, .inl z_same)), (h_has, .inl (cZ, 64, .inl z_has))] → va_S A s.heap H locs → lv_has ls 8 [(0, .ref h_t), (1, .int a_p1)] → W p l e rm_MD_shared s m ([.ref h_t, .int a_p1] : List Value).toArray below meth c H locs 0 0 (MQ below (va_Qi (fun (r : Int32) (u : Int32 × Int32 × (Nat → Int32) × (Nat → Int32)) => post r u.1 u.2.1 u.2.2.1 u.2.2.2) (fun u t => cAft (dC, dI) classes (TYS cI cJ cB cZ) A [(h_t, .inr (8, [.int u.1, .ref h_tape, .ref h_row, .ref h_out, .ref h_sought, .int z_size, .int u.2.1, .int z_soughtSize, .int z_documents, .int z_indexed, .int z_suffixes, .int z_rows, .ref h_start, .ref h_documentOf, .ref h_order, .ref h_rankOf, .ref h_same, .ref h_work, .ref h_next, .ref h_often, .ref h_has, .int z_lesser])), (h_row, .inl (cB, 16384, .inl z_row)), (h_out, .inl (cB, 16384, .inl u.2.2.1)), (h_start, .inl (cI, 66, .inl z_start)), (h_documentOf, .inl (cI, 16384, .inl z_documentOf)), (h_order, .inl (cI, 16384, .inl z_order)), (h_same, .inl (cI, 16385, .inl z_same)), (h_has, .inl (cZ, 64, .inl u.2.2.2))] t) A) ([.ref h_t, .int a_p1] : List Value).toArray s 0 0 A) (F0 m 18 ls [.int k1, .ref h_t]) := by
  obtain ⟨hx, hb, hml, hown, hw⟩ := id F
  intro k1 z_thrown z_outSize z_out z_has hv H locs ls hP hD hS hl
  refine lv_iconst (v := 1) hx hb d_MD_shared_18 (by decide) ?_
  refine lv_goto (tgt := 23) hx hb d_MD_shared_19 (by decide) ?_
  exact wk_MD_shared_23 F hr hlk hK hA k1 1 z_thrown z_outSize z_out z_has hv _ _ _ hP hD hS (lv_sub hl [0, 1] rfl)

set_option maxHeartbeats 4000000 in
set_option maxRecDepth 100000 in
theorem c_MD_shared (l : Launch) (dC : Nat → ClassId) (dI : Nat → Nat → Nat) (cI cJ cB cZ : ClassId) (h_t : Nat) (h_tape : Nat) (h_row : Nat) (h_out : Nat) (h_sought : Nat) (h_start : Nat) (h_documentOf : Nat) (h_order : Nat) (h_rankOf : Nat) (h_same : Nat) (h_work : Nat) (h_next : Nat) (h_often : Nat) (h_has : Nat) (sz : Nat) (z_thrown : Int32) (z_size : Int32) (z_outSize : Int32) (z_soughtSize : Int32) (z_documents : Int32) (z_indexed : Int32) (z_suffixes : Int32) (z_rows : Int32) (z_lesser : Int32) (z_row : Nat → Int32) (z_out : Nat → Int32) (z_start : Nat → Int32) (z_documentOf : Nat → Int32) (z_order : Nat → Int32) (z_same : Nat → Int32) (z_has : Nat → Int32) (a_p1 : Int32) (post : Int32 → Int32 → Int32 → (Nat → Int32) → (Nat → Int32) → Prop) (hv : vc_MD_shared a_p1 z_suffixes z_row z_start z_documentOf z_order z_same post z_thrown z_outSize z_out z_has) : Met l y_MD_shared (Cond.code y_MD_shared b_MD_shared 8 (some .int) :: WT) rm_MD_shared (cPre (dC, dI) classes (TYS cI cJ cB cZ) [(h_t, .inr (8, [.int z_thrown, .ref h_tape, .ref h_row, .ref h_out, .ref h_sought, .int z_size, .int z_outSize, .int z_soughtSize, .int z_documents, .int z_indexed, .int z_suffixes, .int z_rows, .ref h_start, .ref h_documentOf, .ref h_order, .ref h_rankOf, .ref h_same, .ref h_work, .ref h_next, .ref h_often, .ref h_has, .int z_lesser])), (h_row, .inl (cB, 16384, .inl z_row)), (h_out, .inl (cB, 16384, .inl z_out)), (h_start, .inl (cI, 66, .inl z_start)), (h_documentOf, .inl (cI, 16384, .inl z_documentOf)), (h_order, .inl (cI, 16384, .inl z_order)), (h_same, .inl (cI, 16385, .inl z_same)), (h_has, .inl (cZ, 64, .inl z_has))] sz [.ref h_t, .int a_p1]) (va_Qi (fun (r : Int32) (u : Int32 × Int32 × (Nat → Int32) × (Nat → Int32)) => post r u.1 u.2.1 u.2.2.1 u.2.2.2) (fun u t => cAft (dC, dI) classes (TYS cI cJ cB cZ) (va_A [(h_t, .inr (8, [.int z_thrown, .ref h_tape, .ref h_row, .ref h_out, .ref h_sought, .int z_size, .int z_outSize, .int z_soughtSize, .int z_documents, .int z_indexed, .int z_suffixes, .int z_rows, .ref h_start, .ref h_documentOf, .ref h_order, .ref h_rankOf, .ref h_same, .ref h_work, .ref h_next, .ref h_often, .ref h_has, .int z_lesser])), (h_row, .inl (cB, 16384, .inl z_row)), (h_out, .inl (cB, 16384, .inl z_out)), (h_start, .inl (cI, 66, .inl z_start)), (h_documentOf, .inl (cI, 16384, .inl z_documentOf)), (h_order, .inl (cI, 16384, .inl z_order)), (h_same, .inl (cI, 16385, .inl z_same)), (h_has, .inl (cZ, 64, .inl z_has))] sz) [(h_t, .inr (8, [.int u.1, .ref h_tape, .ref h_row, .ref h_out, .ref h_sought, .int z_size, .int u.2.1, .int z_soughtSize, .int z_documents, .int z_indexed, .int z_suffixes, .int z_rows, .ref h_start, .ref h_documentOf, .ref h_order, .ref h_rankOf, .ref h_same, .ref h_work, .ref h_next, .ref h_often, .ref h_has, .int z_lesser])), (h_row, .inl (cB, 16384, .inl z_row)), (h_out, .inl (cB, 16384, .inl u.2.2.1)), (h_start, .inl (cI, 66, .inl z_start)), (h_documentOf, .inl (cI, 16384, .inl z_documentOf)), (h_order, .inl (cI, 16384, .inl z_order)), (h_same, .inl (cI, 16385, .inl z_same)), (h_has, .inl (cZ, 64, .inl u.2.2.2))] t) (va_A [(h_t, .inr (8, [.int z_thrown, .ref h_tape, .ref h_row, .ref h_out, .ref h_sought, .int z_size, .int z_outSize, .int z_soughtSize, .int z_documents, .int z_indexed, .int z_suffixes, .int z_rows, .ref h_start, .ref h_documentOf, .ref h_order, .ref h_rankOf, .ref h_same, .ref h_work, .ref h_next, .ref h_often, .ref h_has, .int z_lesser])), (h_row, .inl (cB, 16384, .inl z_row)), (h_out, .inl (cB, 16384, .inl z_out)), (h_start, .inl (cI, 66, .inl z_start)), (h_documentOf, .inl (cI, 16384, .inl z_documentOf)), (h_order, .inl (cI, 16384, .inl z_order)), (h_same, .inl (cI, 16385, .inl z_same)), (h_has, .inl (cZ, 64, .inl z_has))] sz)) 0 0 (va_A [(h_t, .inr (8, [.int z_thrown, .ref h_tape, .ref h_row, .ref h_out, .ref h_sought, .int z_size, .int z_outSize, .int z_soughtSize, .int z_documents, .int z_indexed, .int z_suffixes, .int z_rows, .ref h_start, .ref h_documentOf, .ref h_order, .ref h_rankOf, .ref h_same, .ref h_work, .ref h_next, .ref h_often, .ref h_has, .int z_lesser])), (h_row, .inl (cB, 16384, .inl z_row)), (h_out, .inl (cB, 16384, .inl z_out)), (h_start, .inl (cI, 66, .inl z_start)), (h_documentOf, .inl (cI, 16384, .inl z_documentOf)), (h_order, .inl (cI, 16384, .inl z_order)), (h_same, .inl (cI, 16385, .inl z_same)), (h_has, .inl (cZ, 64, .inl z_has))] sz) := by
  refine Met.ofW (cc := b_MD_shared) (maxL := 8) (ret := (some .int)) (by decide) rfl ?_
  intro p e s m args below meth c s₁ B hml hq
  obtain ⟨rfl, hsz, hP, hK, hD0⟩ := hq
  have hts := atoms_spec (ws := Cond.code y_MD_shared b_MD_shared 8 (some .int) :: WT) B.pre
  have hw : ∀ w ∈ WT, w.before ([.ref h_t, .int a_p1] : List Value).toArray s = true := fun w h => hts w (List.mem_cons_of_mem _ h)
  have hx := B.exec
  have hb := B.bytes
  have hr := B.returns
  have hlk := B.notSynchronized
  have hown : s.vm.findClass "SuffixIndexModel" = some m.cls := findClass_of_methodNamed B.named
  have F : CallFix p m c b_MD_shared 8 s ([.ref h_t, .int a_p1] : List Value).toArray WT "SuffixIndexModel" := ⟨hx, hb, hml, hown, hw⟩
  subst hsz
  have hD := hD0.self (sz := s.heap.size)
  generalize hAe : va_A [(h_t, .inr (8, [.int z_thrown, .ref h_tape, .ref h_row, .ref h_out, .ref h_sought, .int z_size, .int z_outSize, .int z_soughtSize, .int z_documents, .int z_indexed, .int z_suffixes, .int z_rows, .ref h_start, .ref h_documentOf, .ref h_order, .ref h_rankOf, .ref h_same, .ref h_work, .ref h_next, .ref h_often, .ref h_has, .int z_lesser])), (h_row, .inl (cB, 16384, .inl z_row)), (h_out, .inl (cB, 16384, .inl z_out)), (h_start, .inl (cI, 66, .inl z_start)), (h_documentOf, .inl (cI, 16384, .inl z_documentOf)), (h_order, .inl (cI, 16384, .inl z_order)), (h_same, .inl (cI, 16385, .inl z_same)), (h_has, .inl (cZ, 64, .inl z_has))] s.heap.size = A at hD ⊢
  have hA : ∀ q : Nat, s.heap.size ≤ q → A q := fun q h => by rw [← hAe]; exact Or.inr h
  have hS : va_S A s.heap s.heap [] := va_S.rf
  have hl := lv_entry ([.ref h_t, .int a_p1]) (n := 8) (Nat.le_of_ble_eq_true rfl)
  rw [lg_entry_eq]
  generalize (lg_sl ([.ref h_t, .int a_p1]) ++ List.replicate (8 - (lg_sl ([.ref h_t, .int a_p1])).length) Slot.unset).toArray = ls at hl ⊢
  have hl : lv_has ls 8 [(0, .ref h_t), (1, .int a_p1)] := hl
  show W p l e rm_MD_shared s m _ below meth c s.heap [] 0 0 _ _
  have hP : va_P (dC, dI) classes [(h_t, .inr (8, [.int z_thrown, .ref h_tape, .ref h_row, .ref h_out, .ref h_sought, .int z_size, .int z_outSize, .int z_soughtSize, .int z_documents, .int z_indexed, .int z_suffixes, .int z_rows, .ref h_start, .ref h_documentOf, .ref h_order, .ref h_rankOf, .ref h_same, .ref h_work, .ref h_next, .ref h_often, .ref h_has, .int z_lesser])), (h_row, .inl (cB, 16384, .inl z_row)), (h_out, .inl (cB, 16384, .inl z_out)), (h_start, .inl (cI, 66, .inl z_start)), (h_documentOf, .inl (cI, 16384, .inl z_documentOf)), (h_order, .inl (cI, 16384, .inl z_order)), (h_same, .inl (cI, 16385, .inl z_same)), (h_has, .inl (cZ, 64, .inl z_has))] s.heap := hP
  obtain ⟨H, hHe⟩ : ∃ H, H = s.heap := ⟨_, rfl⟩
  have hS : va_S A s.heap H [] := by rw [hHe]; exact hS
  rw [← hHe] at hP
  suffices hgoal : W p l e rm_MD_shared s m ([.ref h_t, .int a_p1] : List Value).toArray below meth c H [] 0 0 (MQ below (va_Qi (fun (r : Int32) (u : Int32 × Int32 × (Nat → Int32) × (Nat → Int32)) => post r u.1 u.2.1 u.2.2.1 u.2.2.2) (fun u t => cAft (dC, dI) classes (TYS cI cJ cB cZ) A [(h_t, .inr (8, [.int u.1, .ref h_tape, .ref h_row, .ref h_out, .ref h_sought, .int z_size, .int u.2.1, .int z_soughtSize, .int z_documents, .int z_indexed, .int z_suffixes, .int z_rows, .ref h_start, .ref h_documentOf, .ref h_order, .ref h_rankOf, .ref h_same, .ref h_work, .ref h_next, .ref h_often, .ref h_has, .int z_lesser])), (h_row, .inl (cB, 16384, .inl z_row)), (h_out, .inl (cB, 16384, .inl u.2.2.1)), (h_start, .inl (cI, 66, .inl z_start)), (h_documentOf, .inl (cI, 16384, .inl z_documentOf)), (h_order, .inl (cI, 16384, .inl z_order)), (h_same, .inl (cI, 16385, .inl z_same)), (h_has, .inl (cZ, 64, .inl u.2.2.2))] t) A) ([.ref h_t, .int a_p1] : List Value).toArray s 0 0 A) (F0 m 0 ls []) by rw [hHe] at hgoal; exact hgoal
  refine lv_aload_n hx hb d_MD_shared_0 rfl (lv_at hl 0 rfl) ?_
  refine lv_iconst (v := 0) hx hb d_MD_shared_1 (by decide) ?_
  refine va_put (D := (dC, dI)) (ci := 8) (v := .int 0) (ty := .int) (C := "SuffixIndexModel") (T := F_MD) (N := 22) hx hb hw i_MD t_MD t_MD_ok n_MD hown hK hP hD hS 0 rfl rfl 0 (by decide) (hw _ m_1101) (fun _ h9 => h9) rfl (by decide +kernel) rfl rfl (Nat.le_of_ble_eq_true rfl) d_MD_shared_2 (fun H locs hP hD hS => ?_)
  have hP : va_P (dC, dI) classes [(h_t, .inr (8, [.int 0, .ref h_tape, .ref h_row, .ref h_out, .ref h_sought, .int z_size, .int z_outSize, .int z_soughtSize, .int z_documents, .int z_indexed, .int z_suffixes, .int z_rows, .ref h_start, .ref h_documentOf, .ref h_order, .ref h_rankOf, .ref h_same, .ref h_work, .ref h_next, .ref h_often, .ref h_has, .int z_lesser])), (h_row, .inl (cB, 16384, .inl z_row)), (h_out, .inl (cB, 16384, .inl z_out)), (h_start, .inl (cI, 66, .inl z_start)), (h_documentOf, .inl (cI, 16384, .inl z_documentOf)), (h_order, .inl (cI, 16384, .inl z_order)), (h_same, .inl (cI, 16385, .inl z_same)), (h_has, .inl (cZ, 64, .inl z_has))] H := hP
  have hD : va_D A [(h_t, .inr (8, [.int 0, .ref h_tape, .ref h_row, .ref h_out, .ref h_sought, .int z_size, .int z_outSize, .int z_soughtSize, .int z_documents, .int z_indexed, .int z_suffixes, .int z_rows, .ref h_start, .ref h_documentOf, .ref h_order, .ref h_rankOf, .ref h_same, .ref h_work, .ref h_next, .ref h_often, .ref h_has, .int z_lesser])), (h_row, .inl (cB, 16384, .inl z_row)), (h_out, .inl (cB, 16384, .inl z_out)), (h_start, .inl (cI, 66, .inl z_start)), (h_documentOf, .inl (cI, 16384, .inl z_documentOf)), (h_order, .inl (cI, 16384, .inl z_order)), (h_same, .inl (cI, 16385, .inl z_same)), (h_has, .inl (cZ, 64, .inl z_has))] := hD
  refine lv_aload_n hx hb d_MD_shared_5 rfl (lv_at hl 0 rfl) ?_
  refine lv_iconst (v := 1) hx hb d_MD_shared_6 (by decide) ?_
  refine lv_iload_n hx hb d_MD_shared_7 rfl (lv_at hl 1 rfl) ?_
  refine lv_iconst (v := 2) hx hb d_MD_shared_8 (by decide) ?_
  obtain ⟨hvt, hvf⟩ := hv
  refine lv_icmp_lt (tgt := 18) hx hb d_MD_shared_9 (by decide) (fun c12 => ?_) (fun c12 => ?_)
  · have hv := hvt c12
    exact wk_MD_shared_18 F hr hlk hK hA 1 0 z_outSize z_out z_has hv _ _ _ hP hD hS (lv_sub hl [0, 1] rfl)
  · have hv := hvf c12
    refine lv_iload_n hx hb d_MD_shared_12 rfl (lv_at hl 1 rfl) ?_
    refine lv_bipush (v := 64) hx hb d_MD_shared_13 (by decide) ?_
    obtain ⟨hvt, hvf⟩ := hv
    refine lv_icmp_le (tgt := 22) hx hb d_MD_shared_15 (by decide) (fun c13 => ?_) (fun c13 => ?_)
    · have hv := hvt c13
      refine lv_iconst (v := 0) hx hb d_MD_shared_22 (by decide) ?_
      exact wk_MD_shared_23 F hr hlk hK hA 1 0 0 z_outSize z_out z_has hv _ _ _ hP hD hS (lv_sub hl [0, 1] rfl)
    · have hv := hvf c13
      exact wk_MD_shared_18 F hr hlk hK hA 1 0 z_outSize z_out z_has hv _ _ _ hP hD hS (lv_sub hl [0, 1] rfl)

set_option maxHeartbeats 4000000 in
set_option maxRecDepth 100000 in
theorem wk_MD_pieces_9 {p : Program} {l : Launch} {e : Env} {s : State} {m : MethodId} {below : List Frame} {meth : Method} {c : Code} {A : Nat → Prop} {dC : Nat → ClassId} {dI : Nat → Nat → Nat} {cI cJ cB cZ : ClassId} {h_t : Nat} {h_tape : Nat} {h_row : Nat} {h_out : Nat} {h_sought : Nat} {h_start : Nat} {h_documentOf : Nat} {h_order : Nat} {h_rankOf : Nat} {h_same : Nat} {h_work : Nat} {h_next : Nat} {h_often : Nat} {h_has : Nat} {z_suffixes : Int32} {z_start : Nat → Int32} {z_documentOf : Nat → Int32} {z_order : Nat → Int32} {z_same : Nat → Int32} {z_size : Int32} {z_outSize : Int32} {z_soughtSize : Int32} {z_documents : Int32} {z_indexed : Int32} {z_rows : Int32} {z_lesser : Int32} {post : Int64 → Int32 → Prop} (F : CallFix p m c b_MD_pieces 4 s ([.ref h_t] : List Value).toArray WT "SuffixIndexModel") (hr : meth.sig.returnType = (some .long)) (hlk : meth.locks = false) (hK : va_K (dC, dI) classes (TYS cI cJ cB cZ) s) (hA : ∀ q, s.heap.size ≤ q → A q) : ∀ (k : Nat) (x1 : Int64) (x3 : Int32) (z_thrown : Int32), vc_MD_pieces_9 z_suffixes z_start z_documentOf z_order z_same post k x1 x3 z_thrown → ∀ (H : Heap) (locs : List Loc) (ls : Array Slot), va_P (dC, dI) classes [(h_t, .inr (8, [.int z_thrown, .ref h_tape, .ref h_row, .ref h_out, .ref h_sought, .int z_size, .int z_outSize, .int z_soughtSize, .int z_documents, .int z_indexed, .int z_suffixes, .int z_rows, .ref h_start, .ref h_documentOf, .ref h_order, .ref h_rankOf, .ref h_same, .ref h_work, .ref h_next, .ref h_often, .ref h_has, .int z_lesser])), (h_start, .inl (cI, 66, .inl z_start)), (h_documentOf, .inl (cI, 16384, .inl z_documentOf)), (h_order, .inl (cI, 16384, .inl z_order)), (h_same, .inl (cI, 16385, .inl z_same))] H → va_D A [(h_t, .inr (8, [.int z_thrown, .ref h_tape, .ref h_row, .ref h_out, .ref h_sought, .int z_size, .int z_outSize, .int z_soughtSize, .int z_documents, .int z_indexed, .int z_suffixes, .int z_rows, .ref h_start, .ref h_documentOf, .ref h_order, .ref h_rankOf, .ref h_same, .ref h_work, .ref h_next, .ref h_often, .ref h_has, .int z_lesser])), (h_start, .inl (cI, 66, .inl z_start)), (h_documentOf, .inl (cI, 16384, .inl z_documentOf)), (h_order, .inl (cI, 16384, .inl z_order)), (h_same, .inl (cI, 16385, .inl z_same))] → va_S A s.heap H locs → lv_has ls 4 [(0, .ref h_t), (1, .long x1), (3, .int x3)] → W p l e rm_MD_pieces s m ([.ref h_t] : List Value).toArray below meth c H locs 0 0 (MQ below (va_Ql (fun (r : Int64) (u : Int32) => post r u) (fun u t => cAft (dC, dI) classes (TYS cI cJ cB cZ) A [(h_t, .inr (8, [.int u, .ref h_tape, .ref h_row, .ref h_out, .ref h_sought, .int z_size, .int z_outSize, .int z_soughtSize, .int z_documents, .int z_indexed, .int z_suffixes, .int z_rows, .ref h_start, .ref h_documentOf, .ref h_order, .ref h_rankOf, .ref h_same, .ref h_work, .ref h_next, .ref h_often, .ref h_has, .int z_lesser])), (h_start, .inl (cI, 66, .inl z_start)), (h_documentOf, .inl (cI, 16384, .inl z_documentOf)), (h_order, .inl (cI, 16384, .inl z_order)), (h_same, .inl (cI, 16385, .inl z_same))] t) A) ([.ref h_t] : List Value).toArray s 0 0 A) (F0 m 9 ls []) := by
  obtain ⟨hx, hb, hml, hown, hw⟩ := id F
  intro k
  induction k with
  | zero =>
    intro x1 x3 z_thrown hv
    exact False.elim hv
  | succ k ih =>
    intro x1 x3 z_thrown hv H locs ls hP hD hS hl
    refine lv_iload_n hx hb d_MD_pieces_9 rfl (lv_at hl 2 rfl) ?_
    refine lv_aload_n hx hb d_MD_pieces_10 rfl (lv_at hl 0 rfl) ?_
    refine va_get (D := (dC, dI)) (ci := 8) (v := .int z_suffixes) (C := "SuffixIndexModel") (T := F_MD) (N := 22) hx hb hw i_MD hown hK hP 0 rfl rfl 10 (by decide) (hw _ m_1111) (fun _ h9 => h9) rfl d_MD_pieces_11 ?_
    obtain ⟨hvt, hvf⟩ := hv
    refine lv_icmp_ge (tgt := 51) hx hb d_MD_pieces_14 (by decide) (fun c1 => ?_) (fun c1 => ?_)
    · have hv := hvt c1
      refine lv_lload_n hx hb d_MD_pieces_51 rfl (lv_at hl 1 rfl) ?_
      exact W.lret (v := x1) hx hb hr (fun t ht hW => ⟨⟨x1, z_thrown, rfl, hv, by rw [ht]; exact hP, va_K.moved hW.alike hK, hD⟩, hS.F ht⟩) hS.2.2 d_MD_pieces_52
    · have hv := hvf c1
      refine lv_lload_n hx hb d_MD_pieces_17 rfl (lv_at hl 1 rfl) ?_
      refine lv_aload_n hx hb d_MD_pieces_18 rfl (lv_at hl 0 rfl) ?_
      refine lv_aload_n hx hb d_MD_pieces_19 rfl (lv_at hl 0 rfl) ?_
      refine va_get (D := (dC, dI)) (ci := 8) (v := .ref h_order) (C := "SuffixIndexModel") (T := F_MD) (N := 22) hx hb hw i_MD hown hK hP 0 rfl rfl 14 (by decide) (hw _ m_1115) (fun _ h9 => h9) rfl d_MD_pieces_20 ?_
      refine lv_iload_n hx hb d_MD_pieces_23 rfl (lv_at hl 2 rfl) ?_
      obtain ⟨hin, hv⟩ := hv
      refine va_iald hx hb hK hP 3 0 rfl rfl hin d_MD_pieces_24 ?_
      refine cV_i (wr := [(h_order, .inl (cI, 16384, .inl z_order)), (h_same, .inl (cI, 16385, .inl z_same))]) (rest := [.long x1]) (c_MD_endOf l dC dI cI cJ cB cZ h_t h_tape h_row h_out h_sought h_start h_documentOf h_order h_rankOf h_same h_work h_next h_often h_has H.size z_thrown z_size z_outSize z_soughtSize z_documents z_indexed z_suffixes z_rows z_lesser z_start z_documentOf (z_order x3.toNatClampNeg) _ hv) F (cw_V (fun _ h => h) 1 hw m_1209 m_1211 ms_33 m_9 m_1212 rfl rfl (by decide +kernel) ⟨by decide, by decide⟩) hK hP hD hS hA [0, 1, 2] [3, 4] rfl rfl rfl rfl (by decide) 0 8 rfl rfl rfl hl.1 rfl (Nat.le_of_ble_eq_true rfl) d_MD_pieces_25 ⟨Nat.le_of_ble_eq_true rfl, Nat.le_of_ble_eq_true rfl⟩ (fun r2 u H locs hv hP hD hS => ?_)
      have hP : va_P (dC, dI) classes [(h_t, .inr (8, [.int z_thrown, .ref h_tape, .ref h_row, .ref h_out, .ref h_sought, .int z_size, .int z_outSize, .int z_soughtSize, .int z_documents, .int z_indexed, .int z_suffixes, .int z_rows, .ref h_start, .ref h_documentOf, .ref h_order, .ref h_rankOf, .ref h_same, .ref h_work, .ref h_next, .ref h_often, .ref h_has, .int z_lesser])), (h_start, .inl (cI, 66, .inl z_start)), (h_documentOf, .inl (cI, 16384, .inl z_documentOf)), (h_order, .inl (cI, 16384, .inl z_order)), (h_same, .inl (cI, 16385, .inl z_same))] H := P_sub hP [2, 3, 4, 0, 1] rfl
      have hD : va_D A [(h_t, .inr (8, [.int z_thrown, .ref h_tape, .ref h_row, .ref h_out, .ref h_sought, .int z_size, .int z_outSize, .int z_soughtSize, .int z_documents, .int z_indexed, .int z_suffixes, .int z_rows, .ref h_start, .ref h_documentOf, .ref h_order, .ref h_rankOf, .ref h_same, .ref h_work, .ref h_next, .ref h_often, .ref h_has, .int z_lesser])), (h_start, .inl (cI, 66, .inl z_start)), (h_documentOf, .inl (cI, 16384, .inl z_documentOf)), (h_order, .inl (cI, 16384, .inl z_order)), (h_same, .inl (cI, 16385, .inl z_same))] := hD.sub [2, 3, 4, 0, 1] rfl rfl
      refine lv_aload_n hx hb d_MD_pieces_28 rfl (lv_at hl 0 rfl) ?_
      refine va_get (D := (dC, dI)) (ci := 8) (v := .ref h_order) (C := "SuffixIndexModel") (T := F_MD) (N := 22) hx hb hw i_MD hown hK hP 0 rfl rfl 14 (by decide) (hw _ m_1115) (fun _ h9 => h9) rfl d_MD_pieces_29 ?_
      refine lv_iload_n hx hb d_MD_pieces_32 rfl (lv_at hl 2 rfl) ?_
      obtain ⟨hin, hv⟩ := hv
      refine va_iald hx hb hK hP 3 0 rfl rfl hin d_MD_pieces_33 ?_
      refine lv_isub hx hb d_MD_pieces_34 ?_
      refine lv_aload_n hx hb d_MD_pieces_35 rfl (lv_at hl 0 rfl) ?_
      refine va_get (D := (dC, dI)) (ci := 8) (v := .ref h_same) (C := "SuffixIndexModel") (T := F_MD) (N := 22) hx hb hw i_MD hown hK hP 0 rfl rfl 16 (by decide) (hw _ m_1117) (fun _ h9 => h9) rfl d_MD_pieces_36 ?_
      refine lv_iload_n hx hb d_MD_pieces_39 rfl (lv_at hl 2 rfl) ?_
      obtain ⟨hin, hv⟩ := hv
      refine va_iald hx hb hK hP 4 0 rfl rfl hin d_MD_pieces_40 ?_
      refine lv_isub hx hb d_MD_pieces_41 ?_
      refine lv_i2l hx hb d_MD_pieces_42 rfl ?_
      refine lv_ladd hx hb d_MD_pieces_43 ?_
      refine lv_lstore_n (lv' := [(1, .long (x1 + (((r2 - (z_order x3.toNatClampNeg)) - (z_same x3.toNatClampNeg)).toInt64))), (0, .ref h_t), (3, .int x3)]) hx hb d_MD_pieces_44 rfl hl (by decide) rfl (fun ls hl => ?_)
      refine lv_iinc (v := x3 + 1) (lv' := [(3, .int (x3 + 1)), (1, .long (x1 + (((r2 - (z_order x3.toNatClampNeg)) - (z_same x3.toNatClampNeg)).toInt64))), (0, .ref h_t)]) hx hb d_MD_pieces_45 hl (k := 2) rfl (iinc_v (by decide)) (by decide) rfl (fun ls hl => ?_)
      refine lv_goto (tgt := 9) hx hb d_MD_pieces_48 (by decide) ?_
      exact ih (x1 + (((r2 - (z_order x3.toNatClampNeg)) - (z_same x3.toNatClampNeg)).toInt64)) (x3 + 1) z_thrown hv _ _ _ hP hD hS (lv_sub hl [2, 1, 0] rfl)

set_option maxHeartbeats 4000000 in
set_option maxRecDepth 100000 in
theorem c_MD_pieces (l : Launch) (dC : Nat → ClassId) (dI : Nat → Nat → Nat) (cI cJ cB cZ : ClassId) (h_t : Nat) (h_tape : Nat) (h_row : Nat) (h_out : Nat) (h_sought : Nat) (h_start : Nat) (h_documentOf : Nat) (h_order : Nat) (h_rankOf : Nat) (h_same : Nat) (h_work : Nat) (h_next : Nat) (h_often : Nat) (h_has : Nat) (sz : Nat) (z_thrown : Int32) (z_size : Int32) (z_outSize : Int32) (z_soughtSize : Int32) (z_documents : Int32) (z_indexed : Int32) (z_suffixes : Int32) (z_rows : Int32) (z_lesser : Int32) (z_start : Nat → Int32) (z_documentOf : Nat → Int32) (z_order : Nat → Int32) (z_same : Nat → Int32) (post : Int64 → Int32 → Prop) (hv : vc_MD_pieces z_suffixes z_start z_documentOf z_order z_same post z_thrown) : Met l y_MD_pieces (Cond.code y_MD_pieces b_MD_pieces 4 (some .long) :: WT) rm_MD_pieces (cPre (dC, dI) classes (TYS cI cJ cB cZ) [(h_t, .inr (8, [.int z_thrown, .ref h_tape, .ref h_row, .ref h_out, .ref h_sought, .int z_size, .int z_outSize, .int z_soughtSize, .int z_documents, .int z_indexed, .int z_suffixes, .int z_rows, .ref h_start, .ref h_documentOf, .ref h_order, .ref h_rankOf, .ref h_same, .ref h_work, .ref h_next, .ref h_often, .ref h_has, .int z_lesser])), (h_start, .inl (cI, 66, .inl z_start)), (h_documentOf, .inl (cI, 16384, .inl z_documentOf)), (h_order, .inl (cI, 16384, .inl z_order)), (h_same, .inl (cI, 16385, .inl z_same))] sz [.ref h_t]) (va_Ql (fun (r : Int64) (u : Int32) => post r u) (fun u t => cAft (dC, dI) classes (TYS cI cJ cB cZ) (va_A [(h_t, .inr (8, [.int z_thrown, .ref h_tape, .ref h_row, .ref h_out, .ref h_sought, .int z_size, .int z_outSize, .int z_soughtSize, .int z_documents, .int z_indexed, .int z_suffixes, .int z_rows, .ref h_start, .ref h_documentOf, .ref h_order, .ref h_rankOf, .ref h_same, .ref h_work, .ref h_next, .ref h_often, .ref h_has, .int z_lesser])), (h_start, .inl (cI, 66, .inl z_start)), (h_documentOf, .inl (cI, 16384, .inl z_documentOf)), (h_order, .inl (cI, 16384, .inl z_order)), (h_same, .inl (cI, 16385, .inl z_same))] sz) [(h_t, .inr (8, [.int u, .ref h_tape, .ref h_row, .ref h_out, .ref h_sought, .int z_size, .int z_outSize, .int z_soughtSize, .int z_documents, .int z_indexed, .int z_suffixes, .int z_rows, .ref h_start, .ref h_documentOf, .ref h_order, .ref h_rankOf, .ref h_same, .ref h_work, .ref h_next, .ref h_often, .ref h_has, .int z_lesser])), (h_start, .inl (cI, 66, .inl z_start)), (h_documentOf, .inl (cI, 16384, .inl z_documentOf)), (h_order, .inl (cI, 16384, .inl z_order)), (h_same, .inl (cI, 16385, .inl z_same))] t) (va_A [(h_t, .inr (8, [.int z_thrown, .ref h_tape, .ref h_row, .ref h_out, .ref h_sought, .int z_size, .int z_outSize, .int z_soughtSize, .int z_documents, .int z_indexed, .int z_suffixes, .int z_rows, .ref h_start, .ref h_documentOf, .ref h_order, .ref h_rankOf, .ref h_same, .ref h_work, .ref h_next, .ref h_often, .ref h_has, .int z_lesser])), (h_start, .inl (cI, 66, .inl z_start)), (h_documentOf, .inl (cI, 16384, .inl z_documentOf)), (h_order, .inl (cI, 16384, .inl z_order)), (h_same, .inl (cI, 16385, .inl z_same))] sz)) 0 0 (va_A [(h_t, .inr (8, [.int z_thrown, .ref h_tape, .ref h_row, .ref h_out, .ref h_sought, .int z_size, .int z_outSize, .int z_soughtSize, .int z_documents, .int z_indexed, .int z_suffixes, .int z_rows, .ref h_start, .ref h_documentOf, .ref h_order, .ref h_rankOf, .ref h_same, .ref h_work, .ref h_next, .ref h_often, .ref h_has, .int z_lesser])), (h_start, .inl (cI, 66, .inl z_start)), (h_documentOf, .inl (cI, 16384, .inl z_documentOf)), (h_order, .inl (cI, 16384, .inl z_order)), (h_same, .inl (cI, 16385, .inl z_same))] sz) := by
  refine Met.ofW (cc := b_MD_pieces) (maxL := 4) (ret := (some .long)) (by decide) rfl ?_
  intro p e s m args below meth c s₁ B hml hq
  obtain ⟨rfl, hsz, hP, hK, hD0⟩ := hq
  have hts := atoms_spec (ws := Cond.code y_MD_pieces b_MD_pieces 4 (some .long) :: WT) B.pre
  have hw : ∀ w ∈ WT, w.before ([.ref h_t] : List Value).toArray s = true := fun w h => hts w (List.mem_cons_of_mem _ h)
  have hx := B.exec
  have hb := B.bytes
  have hr := B.returns
  have hlk := B.notSynchronized
  have hown : s.vm.findClass "SuffixIndexModel" = some m.cls := findClass_of_methodNamed B.named
  have F : CallFix p m c b_MD_pieces 4 s ([.ref h_t] : List Value).toArray WT "SuffixIndexModel" := ⟨hx, hb, hml, hown, hw⟩
  subst hsz
  have hD := hD0.self (sz := s.heap.size)
  generalize hAe : va_A [(h_t, .inr (8, [.int z_thrown, .ref h_tape, .ref h_row, .ref h_out, .ref h_sought, .int z_size, .int z_outSize, .int z_soughtSize, .int z_documents, .int z_indexed, .int z_suffixes, .int z_rows, .ref h_start, .ref h_documentOf, .ref h_order, .ref h_rankOf, .ref h_same, .ref h_work, .ref h_next, .ref h_often, .ref h_has, .int z_lesser])), (h_start, .inl (cI, 66, .inl z_start)), (h_documentOf, .inl (cI, 16384, .inl z_documentOf)), (h_order, .inl (cI, 16384, .inl z_order)), (h_same, .inl (cI, 16385, .inl z_same))] s.heap.size = A at hD ⊢
  have hA : ∀ q : Nat, s.heap.size ≤ q → A q := fun q h => by rw [← hAe]; exact Or.inr h
  have hS : va_S A s.heap s.heap [] := va_S.rf
  have hl := lv_entry ([.ref h_t]) (n := 4) (Nat.le_of_ble_eq_true rfl)
  rw [lg_entry_eq]
  generalize (lg_sl ([.ref h_t]) ++ List.replicate (4 - (lg_sl ([.ref h_t])).length) Slot.unset).toArray = ls at hl ⊢
  have hl : lv_has ls 4 [(0, .ref h_t)] := hl
  show W p l e rm_MD_pieces s m _ below meth c s.heap [] 0 0 _ _
  have hP : va_P (dC, dI) classes [(h_t, .inr (8, [.int z_thrown, .ref h_tape, .ref h_row, .ref h_out, .ref h_sought, .int z_size, .int z_outSize, .int z_soughtSize, .int z_documents, .int z_indexed, .int z_suffixes, .int z_rows, .ref h_start, .ref h_documentOf, .ref h_order, .ref h_rankOf, .ref h_same, .ref h_work, .ref h_next, .ref h_often, .ref h_has, .int z_lesser])), (h_start, .inl (cI, 66, .inl z_start)), (h_documentOf, .inl (cI, 16384, .inl z_documentOf)), (h_order, .inl (cI, 16384, .inl z_order)), (h_same, .inl (cI, 16385, .inl z_same))] s.heap := hP
  obtain ⟨H, hHe⟩ : ∃ H, H = s.heap := ⟨_, rfl⟩
  have hS : va_S A s.heap H [] := by rw [hHe]; exact hS
  rw [← hHe] at hP
  suffices hgoal : W p l e rm_MD_pieces s m ([.ref h_t] : List Value).toArray below meth c H [] 0 0 (MQ below (va_Ql (fun (r : Int64) (u : Int32) => post r u) (fun u t => cAft (dC, dI) classes (TYS cI cJ cB cZ) A [(h_t, .inr (8, [.int u, .ref h_tape, .ref h_row, .ref h_out, .ref h_sought, .int z_size, .int z_outSize, .int z_soughtSize, .int z_documents, .int z_indexed, .int z_suffixes, .int z_rows, .ref h_start, .ref h_documentOf, .ref h_order, .ref h_rankOf, .ref h_same, .ref h_work, .ref h_next, .ref h_often, .ref h_has, .int z_lesser])), (h_start, .inl (cI, 66, .inl z_start)), (h_documentOf, .inl (cI, 16384, .inl z_documentOf)), (h_order, .inl (cI, 16384, .inl z_order)), (h_same, .inl (cI, 16385, .inl z_same))] t) A) ([.ref h_t] : List Value).toArray s 0 0 A) (F0 m 0 ls []) by rw [hHe] at hgoal; exact hgoal
  refine lv_aload_n hx hb d_MD_pieces_0 rfl (lv_at hl 0 rfl) ?_
  refine lv_iconst (v := 0) hx hb d_MD_pieces_1 (by decide) ?_
  refine va_put (D := (dC, dI)) (ci := 8) (v := .int 0) (ty := .int) (C := "SuffixIndexModel") (T := F_MD) (N := 22) hx hb hw i_MD t_MD t_MD_ok n_MD hown hK hP hD hS 0 rfl rfl 0 (by decide) (hw _ m_1101) (fun _ h9 => h9) rfl (by decide +kernel) rfl rfl (Nat.le_of_ble_eq_true rfl) d_MD_pieces_2 (fun H locs hP hD hS => ?_)
  have hP : va_P (dC, dI) classes [(h_t, .inr (8, [.int 0, .ref h_tape, .ref h_row, .ref h_out, .ref h_sought, .int z_size, .int z_outSize, .int z_soughtSize, .int z_documents, .int z_indexed, .int z_suffixes, .int z_rows, .ref h_start, .ref h_documentOf, .ref h_order, .ref h_rankOf, .ref h_same, .ref h_work, .ref h_next, .ref h_often, .ref h_has, .int z_lesser])), (h_start, .inl (cI, 66, .inl z_start)), (h_documentOf, .inl (cI, 16384, .inl z_documentOf)), (h_order, .inl (cI, 16384, .inl z_order)), (h_same, .inl (cI, 16385, .inl z_same))] H := hP
  have hD : va_D A [(h_t, .inr (8, [.int 0, .ref h_tape, .ref h_row, .ref h_out, .ref h_sought, .int z_size, .int z_outSize, .int z_soughtSize, .int z_documents, .int z_indexed, .int z_suffixes, .int z_rows, .ref h_start, .ref h_documentOf, .ref h_order, .ref h_rankOf, .ref h_same, .ref h_work, .ref h_next, .ref h_often, .ref h_has, .int z_lesser])), (h_start, .inl (cI, 66, .inl z_start)), (h_documentOf, .inl (cI, 16384, .inl z_documentOf)), (h_order, .inl (cI, 16384, .inl z_order)), (h_same, .inl (cI, 16385, .inl z_same))] := hD
  refine lv_lconst (v := 0) hx hb d_MD_pieces_5 (by decide) ?_
  refine lv_lstore_n (lv' := [(1, .long 0), (0, .ref h_t)]) hx hb d_MD_pieces_6 rfl hl (by decide) rfl (fun ls hl => ?_)
  refine lv_iconst (v := 0) hx hb d_MD_pieces_7 (by decide) ?_
  refine lv_istore_n (lv' := [(3, .int 0), (1, .long 0), (0, .ref h_t)]) hx hb d_MD_pieces_8 rfl hl (by decide) rfl (fun ls hl => ?_)
  obtain ⟨j, hv⟩ := hv
  exact wk_MD_pieces_9 F hr hlk hK hA j 0 0 0 hv _ _ _ hP hD hS (lv_sub hl [2, 1, 0] rfl)

set_option maxHeartbeats 4000000 in
set_option maxRecDepth 100000 in
theorem wk_MD_piece_102 {p : Program} {l : Launch} {e : Env} {s : State} {m : MethodId} {below : List Frame} {meth : Method} {c : Code} {A : Nat → Prop} {dC : Nat → ClassId} {dI : Nat → Nat → Nat} {cI cJ cB cZ : ClassId} {h_t : Nat} {h_tape : Nat} {h_row : Nat} {h_out : Nat} {h_sought : Nat} {h_start : Nat} {h_documentOf : Nat} {h_order : Nat} {h_rankOf : Nat} {h_same : Nat} {h_work : Nat} {h_next : Nat} {h_often : Nat} {h_has : Nat} {a_p1 : Int64} {z_suffixes : Int32} {z_row : Nat → Int32} {z_start : Nat → Int32} {z_documentOf : Nat → Int32} {z_order : Nat → Int32} {z_same : Nat → Int32} {z_size : Int32} {z_soughtSize : Int32} {z_documents : Int32} {z_indexed : Int32} {z_rows : Int32} {z_lesser : Int32} {post : Int32 → Int32 → Int32 → (Nat → Int32) → Prop} (F : CallFix p m c b_MD_piece 7 s ([.ref h_t, .long a_p1] : List Value).toArray WT "SuffixIndexModel") (hr : meth.sig.returnType = (some .int)) (hlk : meth.locks = false) (hK : va_K (dC, dI) classes (TYS cI cJ cB cZ) s) (hA : ∀ q, s.heap.size ≤ q → A q) : ∀ (z_thrown : Int32) (z_outSize : Int32) (z_out : Nat → Int32), vc_MD_piece_102 a_p1 z_suffixes z_row z_start z_documentOf z_order z_same post z_thrown z_outSize z_out → ∀ (H : Heap) (locs : List Loc) (ls : Array Slot), va_P (dC, dI) classes [(h_t, .inr (8, [.int z_thrown, .ref h_tape, .ref h_row, .ref h_out, .ref h_sought, .int z_size, .int z_outSize, .int z_soughtSize, .int z_documents, .int z_indexed, .int z_suffixes, .int z_rows, .ref h_start, .ref h_documentOf, .ref h_order, .ref h_rankOf, .ref h_same, .ref h_work, .ref h_next, .ref h_often, .ref h_has, .int z_lesser])), (h_row, .inl (cB, 16384, .inl z_row)), (h_out, .inl (cB, 16384, .inl z_out)), (h_start, .inl (cI, 66, .inl z_start)), (h_documentOf, .inl (cI, 16384, .inl z_documentOf)), (h_order, .inl (cI, 16384, .inl z_order)), (h_same, .inl (cI, 16385, .inl z_same))] H → va_D A [(h_t, .inr (8, [.int z_thrown, .ref h_tape, .ref h_row, .ref h_out, .ref h_sought, .int z_size, .int z_outSize, .int z_soughtSize, .int z_documents, .int z_indexed, .int z_suffixes, .int z_rows, .ref h_start, .ref h_documentOf, .ref h_order, .ref h_rankOf, .ref h_same, .ref h_work, .ref h_next, .ref h_often, .ref h_has, .int z_lesser])), (h_row, .inl (cB, 16384, .inl z_row)), (h_out, .inl (cB, 16384, .inl z_out)), (h_start, .inl (cI, 66, .inl z_start)), (h_documentOf, .inl (cI, 16384, .inl z_documentOf)), (h_order, .inl (cI, 16384, .inl z_order)), (h_same, .inl (cI, 16385, .inl z_same))] → va_S A s.heap H locs → lv_has ls 7 [(0, .ref h_t)] → W p l e rm_MD_piece s m ([.ref h_t, .long a_p1] : List Value).toArray below meth c H locs 0 0 (MQ below (va_Qi (fun (r : Int32) (u : Int32 × Int32 × (Nat → Int32)) => post r u.1 u.2.1 u.2.2) (fun u t => cAft (dC, dI) classes (TYS cI cJ cB cZ) A [(h_t, .inr (8, [.int u.1, .ref h_tape, .ref h_row, .ref h_out, .ref h_sought, .int z_size, .int u.2.1, .int z_soughtSize, .int z_documents, .int z_indexed, .int z_suffixes, .int z_rows, .ref h_start, .ref h_documentOf, .ref h_order, .ref h_rankOf, .ref h_same, .ref h_work, .ref h_next, .ref h_often, .ref h_has, .int z_lesser])), (h_row, .inl (cB, 16384, .inl z_row)), (h_out, .inl (cB, 16384, .inl u.2.2)), (h_start, .inl (cI, 66, .inl z_start)), (h_documentOf, .inl (cI, 16384, .inl z_documentOf)), (h_order, .inl (cI, 16384, .inl z_order)), (h_same, .inl (cI, 16385, .inl z_same))] t) A) ([.ref h_t, .long a_p1] : List Value).toArray s 0 0 A) (F0 m 102 ls []) := by
  obtain ⟨hx, hb, hml, hown, hw⟩ := id F
  intro z_thrown z_outSize z_out hv H locs ls hP hD hS hl
  refine lv_aload_n hx hb d_MD_piece_102 rfl (lv_at hl 0 rfl) ?_
  refine lv_iconst (v := 1) hx hb d_MD_piece_103 (by decide) ?_
  refine lv_iconst (v := 1) hx hb d_MD_piece_104 (by decide) ?_
  refine cV_i (wr := [(h_row, .inl (cB, 16384, .inl z_row)), (h_out, .inl (cB, 16384, .inl z_out)), (h_start, .inl (cI, 66, .inl z_start)), (h_documentOf, .inl (cI, 16384, .inl z_documentOf)), (h_order, .inl (cI, 16384, .inl z_order)), (h_same, .inl (cI, 16385, .inl z_same))]) (rest := []) (c_MD_refuse l dC dI cI cJ cB cZ h_t h_tape h_row h_out h_sought h_start h_documentOf h_order h_rankOf h_same h_work h_next h_often h_has H.size z_thrown z_size z_outSize z_soughtSize z_documents z_indexed z_suffixes z_rows z_lesser 1 1 _ hv) F (cw_V (fun _ h => h) 2 hw m_1177 m_1179 ms_29 m_9 m_1180 rfl rfl (by decide +kernel) ⟨by decide, by decide⟩) hK hP hD hS hA [0] [1, 2, 3, 4, 5, 6] rfl rfl rfl rfl (by decide) 0 8 rfl rfl rfl hl.1 rfl (Nat.le_of_ble_eq_true rfl) d_MD_piece_105 ⟨Nat.le_of_ble_eq_true rfl, Nat.le_of_ble_eq_true rfl⟩ (fun r1 u H locs hv hP hD hS => ?_)
  obtain ⟨u1_0, rfl⟩ : ∃ z, z = u := ⟨_, rfl⟩
  have hP : va_P (dC, dI) classes [(h_t, .inr (8, [.int u1_0, .ref h_tape, .ref h_row, .ref h_out, .ref h_sought, .int z_size, .int z_outSize, .int z_soughtSize, .int z_documents, .int z_indexed, .int z_suffixes, .int z_rows, .ref h_start, .ref h_documentOf, .ref h_order, .ref h_rankOf, .ref h_same, .ref h_work, .ref h_next, .ref h_often, .ref h_has, .int z_lesser])), (h_row, .inl (cB, 16384, .inl z_row)), (h_out, .inl (cB, 16384, .inl z_out)), (h_start, .inl (cI, 66, .inl z_start)), (h_documentOf, .inl (cI, 16384, .inl z_documentOf)), (h_order, .inl (cI, 16384, .inl z_order)), (h_same, .inl (cI, 16385, .inl z_same))] H := P_sub hP [6, 0, 1, 2, 3, 4, 5] rfl
  have hD : va_D A [(h_t, .inr (8, [.int u1_0, .ref h_tape, .ref h_row, .ref h_out, .ref h_sought, .int z_size, .int z_outSize, .int z_soughtSize, .int z_documents, .int z_indexed, .int z_suffixes, .int z_rows, .ref h_start, .ref h_documentOf, .ref h_order, .ref h_rankOf, .ref h_same, .ref h_work, .ref h_next, .ref h_often, .ref h_has, .int z_lesser])), (h_row, .inl (cB, 16384, .inl z_row)), (h_out, .inl (cB, 16384, .inl z_out)), (h_start, .inl (cI, 66, .inl z_start)), (h_documentOf, .inl (cI, 16384, .inl z_documentOf)), (h_order, .inl (cI, 16384, .inl z_order)), (h_same, .inl (cI, 16385, .inl z_same))] := hD.sub [6, 0, 1, 2, 3, 4, 5] rfl rfl
  refine lv_pop hx hb d_MD_piece_108 rfl ?_
  refine lv_iconst (v := 0) hx hb d_MD_piece_109 (by decide) ?_
  exact W.iret (v := 0) hx hb hr (fun t ht hW => ⟨⟨0, (u1_0, z_outSize, z_out), rfl, hv, by rw [ht]; exact hP, va_K.moved hW.alike hK, hD⟩, hS.F ht⟩) hS.2.2 d_MD_piece_110

set_option maxHeartbeats 4000000 in
set_option maxRecDepth 100000 in
theorem wk_MD_piece_10 {p : Program} {l : Launch} {e : Env} {s : State} {m : MethodId} {below : List Frame} {meth : Method} {c : Code} {A : Nat → Prop} {dC : Nat → ClassId} {dI : Nat → Nat → Nat} {cI cJ cB cZ : ClassId} {h_t : Nat} {h_tape : Nat} {h_row : Nat} {h_out : Nat} {h_sought : Nat} {h_start : Nat} {h_documentOf : Nat} {h_order : Nat} {h_rankOf : Nat} {h_same : Nat} {h_work : Nat} {h_next : Nat} {h_often : Nat} {h_has : Nat} {a_p1 : Int64} {z_suffixes : Int32} {z_row : Nat → Int32} {z_start : Nat → Int32} {z_documentOf : Nat → Int32} {z_order : Nat → Int32} {z_same : Nat → Int32} {z_size : Int32} {z_soughtSize : Int32} {z_documents : Int32} {z_indexed : Int32} {z_rows : Int32} {z_lesser : Int32} {post : Int32 → Int32 → Int32 → (Nat → Int32) → Prop} (F : CallFix p m c b_MD_piece 7 s ([.ref h_t, .long a_p1] : List Value).toArray WT "SuffixIndexModel") (hr : meth.sig.returnType = (some .int)) (hlk : meth.locks = false) (hK : va_K (dC, dI) classes (TYS cI cJ cB cZ) s) (hA : ∀ q, s.heap.size ≤ q → A q) : ∀ (k : Nat) (x3 : Int64) (x5 : Int32) (z_thrown : Int32) (z_outSize : Int32) (z_out : Nat → Int32), vc_MD_piece_10 a_p1 z_suffixes z_row z_start z_documentOf z_order z_same post k x3 x5 z_thrown z_outSize z_out → ∀ (H : Heap) (locs : List Loc) (ls : Array Slot), va_P (dC, dI) classes [(h_t, .inr (8, [.int z_thrown, .ref h_tape, .ref h_row, .ref h_out, .ref h_sought, .int z_size, .int z_outSize, .int z_soughtSize, .int z_documents, .int z_indexed, .int z_suffixes, .int z_rows, .ref h_start, .ref h_documentOf, .ref h_order, .ref h_rankOf, .ref h_same, .ref h_work, .ref h_next, .ref h_often, .ref h_has, .int z_lesser])), (h_row, .inl (cB, 16384, .inl z_row)), (h_out, .inl (cB, 16384, .inl z_out)), (h_start, .inl (cI, 66, .inl z_start)), (h_documentOf, .inl (cI, 16384, .inl z_documentOf)), (h_order, .inl (cI, 16384, .inl z_order)), (h_same, .inl (cI, 16385, .inl z_same))] H → va_D A [(h_t, .inr (8, [.int z_thrown, .ref h_tape, .ref h_row, .ref h_out, .ref h_sought, .int z_size, .int z_outSize, .int z_soughtSize, .int z_documents, .int z_indexed, .int z_suffixes, .int z_rows, .ref h_start, .ref h_documentOf, .ref h_order, .ref h_rankOf, .ref h_same, .ref h_work, .ref h_next, .ref h_often, .ref h_has, .int z_lesser])), (h_row, .inl (cB, 16384, .inl z_row)), (h_out, .inl (cB, 16384, .inl z_out)), (h_start, .inl (cI, 66, .inl z_start)), (h_documentOf, .inl (cI, 16384, .inl z_documentOf)), (h_order, .inl (cI, 16384, .inl z_order)), (h_same, .inl (cI, 16385, .inl z_same))] → va_S A s.heap H locs → lv_has ls 7 [(0, .ref h_t), (1, .long a_p1), (3, .long x3), (5, .int x5)] → W p l e rm_MD_piece s m ([.ref h_t, .long a_p1] : List Value).toArray below meth c H locs 0 0 (MQ below (va_Qi (fun (r : Int32) (u : Int32 × Int32 × (Nat → Int32)) => post r u.1 u.2.1 u.2.2) (fun u t => cAft (dC, dI) classes (TYS cI cJ cB cZ) A [(h_t, .inr (8, [.int u.1, .ref h_tape, .ref h_row, .ref h_out, .ref h_sought, .int z_size, .int u.2.1, .int z_soughtSize, .int z_documents, .int z_indexed, .int z_suffixes, .int z_rows, .ref h_start, .ref h_documentOf, .ref h_order, .ref h_rankOf, .ref h_same, .ref h_work, .ref h_next, .ref h_often, .ref h_has, .int z_lesser])), (h_row, .inl (cB, 16384, .inl z_row)), (h_out, .inl (cB, 16384, .inl u.2.2)), (h_start, .inl (cI, 66, .inl z_start)), (h_documentOf, .inl (cI, 16384, .inl z_documentOf)), (h_order, .inl (cI, 16384, .inl z_order)), (h_same, .inl (cI, 16385, .inl z_same))] t) A) ([.ref h_t, .long a_p1] : List Value).toArray s 0 0 A) (F0 m 10 ls []) := by
  obtain ⟨hx, hb, hml, hown, hw⟩ := id F
  intro k
  induction k with
  | zero =>
    intro x3 x5 z_thrown z_outSize z_out hv
    exact False.elim hv
  | succ k ih =>
    intro x3 x5 z_thrown z_outSize z_out hv H locs ls hP hD hS hl
    refine lv_iload hx hb d_MD_piece_10 (lv_at hl 3 rfl) ?_
    refine lv_aload_n hx hb d_MD_piece_12 rfl (lv_at hl 0 rfl) ?_
    refine va_get (D := (dC, dI)) (ci := 8) (v := .int z_suffixes) (C := "SuffixIndexModel") (T := F_MD) (N := 22) hx hb hw i_MD hown hK hP 0 rfl rfl 10 (by decide) (hw _ m_1111) (fun _ h9 => h9) rfl d_MD_piece_13 ?_
    obtain ⟨hvt, hvf⟩ := hv
    refine lv_icmp_ge (tgt := 102) hx hb d_MD_piece_16 (by decide) (fun c2 => ?_) (fun c2 => ?_)
    · have hv := hvt c2
      exact wk_MD_piece_102 F hr hlk hK hA z_thrown z_outSize z_out hv _ _ _ hP hD hS (lv_sub hl [0] rfl)
    · have hv := hvf c2
      refine lv_lload_n hx hb d_MD_piece_19 rfl (lv_at hl 1 rfl) ?_
      refine lv_lconst (v := 0) hx hb d_MD_piece_20 (by decide) ?_
      refine W.lcmp hx hb d_MD_piece_21 ?_
      obtain ⟨hvt, hvf⟩ := hv
      refine lv_if_lt (tgt := 102) hx hb d_MD_piece_22 (by decide) (fun c3 => ?_) (fun c3 => ?_)
      · have hv := hvt c3
        exact wk_MD_piece_102 F hr hlk hK hA z_thrown z_outSize z_out hv _ _ _ hP hD hS (lv_sub hl [0] rfl)
      · have hv := hvf c3
        refine lv_aload_n hx hb d_MD_piece_25 rfl (lv_at hl 0 rfl) ?_
        refine lv_aload_n hx hb d_MD_piece_26 rfl (lv_at hl 0 rfl) ?_
        refine va_get (D := (dC, dI)) (ci := 8) (v := .ref h_order) (C := "SuffixIndexModel") (T := F_MD) (N := 22) hx hb hw i_MD hown hK hP 0 rfl rfl 14 (by decide) (hw _ m_1115) (fun _ h9 => h9) rfl d_MD_piece_27 ?_
        refine lv_iload hx hb d_MD_piece_30 (lv_at hl 3 rfl) ?_
        obtain ⟨hin, hv⟩ := hv
        refine va_iald hx hb hK hP 5 0 rfl rfl hin d_MD_piece_32 ?_
        refine cV_i (wr := [(h_row, .inl (cB, 16384, .inl z_row)), (h_out, .inl (cB, 16384, .inl z_out)), (h_order, .inl (cI, 16384, .inl z_order)), (h_same, .inl (cI, 16385, .inl z_same))]) (rest := []) (c_MD_endOf l dC dI cI cJ cB cZ h_t h_tape h_row h_out h_sought h_start h_documentOf h_order h_rankOf h_same h_work h_next h_often h_has H.size z_thrown z_size z_outSize z_soughtSize z_documents z_indexed z_suffixes z_rows z_lesser z_start z_documentOf (z_order x5.toNatClampNeg) _ hv) F (cw_V (fun _ h => h) 1 hw m_1209 m_1211 ms_33 m_9 m_1212 rfl rfl (by decide +kernel) ⟨by decide, by decide⟩) hK hP hD hS hA [0, 3, 4] [1, 2, 5, 6] rfl rfl rfl rfl (by decide) 0 8 rfl rfl rfl hl.1 rfl (Nat.le_of_ble_eq_true rfl) d_MD_piece_33 ⟨Nat.le_of_ble_eq_true rfl, Nat.le_of_ble_eq_true rfl⟩ (fun r4 u H locs hv hP hD hS => ?_)
        have hP : va_P (dC, dI) classes [(h_t, .inr (8, [.int z_thrown, .ref h_tape, .ref h_row, .ref h_out, .ref h_sought, .int z_size, .int z_outSize, .int z_soughtSize, .int z_documents, .int z_indexed, .int z_suffixes, .int z_rows, .ref h_start, .ref h_documentOf, .ref h_order, .ref h_rankOf, .ref h_same, .ref h_work, .ref h_next, .ref h_often, .ref h_has, .int z_lesser])), (h_row, .inl (cB, 16384, .inl z_row)), (h_out, .inl (cB, 16384, .inl z_out)), (h_start, .inl (cI, 66, .inl z_start)), (h_documentOf, .inl (cI, 16384, .inl z_documentOf)), (h_order, .inl (cI, 16384, .inl z_order)), (h_same, .inl (cI, 16385, .inl z_same))] H := P_sub hP [4, 0, 1, 5, 6, 2, 3] rfl
        have hD : va_D A [(h_t, .inr (8, [.int z_thrown, .ref h_tape, .ref h_row, .ref h_out, .ref h_sought, .int z_size, .int z_outSize, .int z_soughtSize, .int z_documents, .int z_indexed, .int z_suffixes, .int z_rows, .ref h_start, .ref h_documentOf, .ref h_order, .ref h_rankOf, .ref h_same, .ref h_work, .ref h_next, .ref h_often, .ref h_has, .int z_lesser])), (h_row, .inl (cB, 16384, .inl z_row)), (h_out, .inl (cB, 16384, .inl z_out)), (h_start, .inl (cI, 66, .inl z_start)), (h_documentOf, .inl (cI, 16384, .inl z_documentOf)), (h_order, .inl (cI, 16384, .inl z_order)), (h_same, .inl (cI, 16385, .inl z_same))] := hD.sub [4, 0, 1, 5, 6, 2, 3] rfl rfl
        refine lv_aload_n hx hb d_MD_piece_36 rfl (lv_at hl 0 rfl) ?_
        refine va_get (D := (dC, dI)) (ci := 8) (v := .ref h_order) (C := "SuffixIndexModel") (T := F_MD) (N := 22) hx hb hw i_MD hown hK hP 0 rfl rfl 14 (by decide) (hw _ m_1115) (fun _ h9 => h9) rfl d_MD_piece_37 ?_
        refine lv_iload hx hb d_MD_piece_40 (lv_at hl 3 rfl) ?_
        obtain ⟨hin, hv⟩ := hv
        refine va_iald hx hb hK hP 5 0 rfl rfl hin d_MD_piece_42 ?_
        refine lv_isub hx hb d_MD_piece_43 ?_
        refine lv_aload_n hx hb d_MD_piece_44 rfl (lv_at hl 0 rfl) ?_
        refine va_get (D := (dC, dI)) (ci := 8) (v := .ref h_same) (C := "SuffixIndexModel") (T := F_MD) (N := 22) hx hb hw i_MD hown hK hP 0 rfl rfl 16 (by decide) (hw _ m_1117) (fun _ h9 => h9) rfl d_MD_piece_45 ?_
        refine lv_iload hx hb d_MD_piece_48 (lv_at hl 3 rfl) ?_
        obtain ⟨hin, hv⟩ := hv
        refine va_iald hx hb hK hP 6 0 rfl rfl hin d_MD_piece_50 ?_
        refine lv_isub hx hb d_MD_piece_51 ?_
        refine lv_istore (lv' := [(6, .int ((r4 - (z_order x5.toNatClampNeg)) - (z_same x5.toNatClampNeg))), (0, .ref h_t), (1, .long a_p1), (3, .long x3), (5, .int x5)]) hx hb d_MD_piece_52 hl (by decide) rfl (fun ls hl => ?_)
        refine lv_lload_n hx hb d_MD_piece_54 rfl (lv_at hl 3 rfl) ?_
        refine lv_iload hx hb d_MD_piece_55 (lv_at hl 0 rfl) ?_
        refine lv_i2l hx hb d_MD_piece_57 rfl ?_
        refine W.lcmp hx hb d_MD_piece_58 ?_
        obtain ⟨hvt, hvf⟩ := hv
        refine lv_if_ge (tgt := 90) hx hb d_MD_piece_59 (by decide) (fun c5 => ?_) (fun c5 => ?_)
        · have hv := hvt c5
          refine lv_lload_n hx hb d_MD_piece_90 rfl (lv_at hl 3 rfl) ?_
          refine lv_iload hx hb d_MD_piece_91 (lv_at hl 0 rfl) ?_
          refine lv_i2l hx hb d_MD_piece_93 rfl ?_
          refine lv_lsub hx hb d_MD_piece_94 ?_
          refine lv_lstore_n (lv' := [(3, .long (x3 - (((r4 - (z_order x5.toNatClampNeg)) - (z_same x5.toNatClampNeg)).toInt64))), (6, .int ((r4 - (z_order x5.toNatClampNeg)) - (z_same x5.toNatClampNeg))), (0, .ref h_t), (1, .long a_p1), (5, .int x5)]) hx hb d_MD_piece_95 rfl hl (by decide) rfl (fun ls hl => ?_)
          refine lv_iinc (v := x5 + 1) (lv' := [(5, .int (x5 + 1)), (3, .long (x3 - (((r4 - (z_order x5.toNatClampNeg)) - (z_same x5.toNatClampNeg)).toInt64))), (6, .int ((r4 - (z_order x5.toNatClampNeg)) - (z_same x5.toNatClampNeg))), (0, .ref h_t), (1, .long a_p1)]) hx hb d_MD_piece_96 hl (k := 4) rfl (iinc_v (by decide)) (by decide) rfl (fun ls hl => ?_)
          refine lv_goto (tgt := 10) hx hb d_MD_piece_99 (by decide) ?_
          exact ih (x3 - (((r4 - (z_order x5.toNatClampNeg)) - (z_same x5.toNatClampNeg)).toInt64)) (x5 + 1) z_thrown z_outSize z_out hv _ _ _ hP hD hS (lv_sub hl [3, 4, 1, 0] rfl)
        · have hv := hvf c5
          refine lv_aload_n hx hb d_MD_piece_62 rfl (lv_at hl 1 rfl) ?_
          refine lv_aload_n hx hb d_MD_piece_63 rfl (lv_at hl 1 rfl) ?_
          refine va_get (D := (dC, dI)) (ci := 8) (v := .ref h_order) (C := "SuffixIndexModel") (T := F_MD) (N := 22) hx hb hw i_MD hown hK hP 0 rfl rfl 14 (by decide) (hw _ m_1115) (fun _ h9 => h9) rfl d_MD_piece_64 ?_
          refine lv_iload hx hb d_MD_piece_67 (lv_at hl 4 rfl) ?_
          obtain ⟨hin, hv⟩ := hv
          refine va_iald hx hb hK hP 5 0 rfl rfl hin d_MD_piece_69 ?_
          refine lv_aload_n hx hb d_MD_piece_70 rfl (lv_at hl 1 rfl) ?_
          refine va_get (D := (dC, dI)) (ci := 8) (v := .ref h_same) (C := "SuffixIndexModel") (T := F_MD) (N := 22) hx hb hw i_MD hown hK hP 0 rfl rfl 16 (by decide) (hw _ m_1117) (fun _ h9 => h9) rfl d_MD_piece_71 ?_
          refine lv_iload hx hb d_MD_piece_74 (lv_at hl 4 rfl) ?_
          obtain ⟨hin, hv⟩ := hv
          refine va_iald hx hb hK hP 6 0 rfl rfl hin d_MD_piece_76 ?_
          refine lv_iconst (v := 1) hx hb d_MD_piece_77 (by decide) ?_
          refine lv_iadd hx hb d_MD_piece_78 ?_
          refine lv_lload_n hx hb d_MD_piece_79 rfl (lv_at hl 3 rfl) ?_
          refine lv_l2i hx hb d_MD_piece_80 rfl ?_
          refine lv_iadd hx hb d_MD_piece_81 ?_
          refine cV_v (wr := [(h_start, .inl (cI, 66, .inl z_start)), (h_documentOf, .inl (cI, 16384, .inl z_documentOf)), (h_order, .inl (cI, 16384, .inl z_order)), (h_same, .inl (cI, 16385, .inl z_same))]) (rest := []) (c_MD_tell l dC dI cI cJ cB cZ h_t h_tape h_row h_out h_sought h_start h_documentOf h_order h_rankOf h_same h_work h_next h_often h_has H.size z_thrown z_size z_outSize z_soughtSize z_documents z_indexed z_suffixes z_rows z_lesser z_row z_out (z_order x5.toNatClampNeg) (((z_same x5.toNatClampNeg) + 1) + x3.toInt32) _ hv) F (cw_V (fun _ h => h) 2 hw m_1242 m_1244 ms_37 m_9 m_1245 rfl rfl (by decide +kernel) ⟨by decide, by decide⟩) hK hP hD hS hA [0, 1, 2] [3, 4, 5, 6] rfl rfl rfl rfl (by decide) 0 8 rfl rfl rfl hl.1 rfl (Nat.le_of_ble_eq_true rfl) d_MD_piece_82 ⟨Nat.le_of_ble_eq_true rfl, Nat.le_of_ble_eq_true rfl⟩ (fun u H locs hv hP hD hS => ?_)
          obtain ⟨u6_0, u6_1⟩ := u
          have hP : va_P (dC, dI) classes [(h_t, .inr (8, [.int z_thrown, .ref h_tape, .ref h_row, .ref h_out, .ref h_sought, .int z_size, .int u6_0, .int z_soughtSize, .int z_documents, .int z_indexed, .int z_suffixes, .int z_rows, .ref h_start, .ref h_documentOf, .ref h_order, .ref h_rankOf, .ref h_same, .ref h_work, .ref h_next, .ref h_often, .ref h_has, .int z_lesser])), (h_row, .inl (cB, 16384, .inl z_row)), (h_out, .inl (cB, 16384, .inl u6_1)), (h_start, .inl (cI, 66, .inl z_start)), (h_documentOf, .inl (cI, 16384, .inl z_documentOf)), (h_order, .inl (cI, 16384, .inl z_order)), (h_same, .inl (cI, 16385, .inl z_same))] H := P_sub hP [4, 5, 6, 0, 1, 2, 3] rfl
          have hD : va_D A [(h_t, .inr (8, [.int z_thrown, .ref h_tape, .ref h_row, .ref h_out, .ref h_sought, .int z_size, .int u6_0, .int z_soughtSize, .int z_documents, .int z_indexed, .int z_suffixes, .int z_rows, .ref h_start, .ref h_documentOf, .ref h_order, .ref h_rankOf, .ref h_same, .ref h_work, .ref h_next, .ref h_often, .ref h_has, .int z_lesser])), (h_row, .inl (cB, 16384, .inl z_row)), (h_out, .inl (cB, 16384, .inl u6_1)), (h_start, .inl (cI, 66, .inl z_start)), (h_documentOf, .inl (cI, 16384, .inl z_documentOf)), (h_order, .inl (cI, 16384, .inl z_order)), (h_same, .inl (cI, 16385, .inl z_same))] := hD.sub [4, 5, 6, 0, 1, 2, 3] rfl rfl
          refine lv_aload_n hx hb d_MD_piece_85 rfl (lv_at hl 1 rfl) ?_
          refine va_get (D := (dC, dI)) (ci := 8) (v := .int u6_0) (C := "SuffixIndexModel") (T := F_MD) (N := 22) hx hb hw i_MD hown hK hP 0 rfl rfl 6 (by decide) (hw _ m_1107) (fun _ h9 => h9) rfl d_MD_piece_86 ?_
          exact W.iret (v := u6_0) hx hb hr (fun t ht hW => ⟨⟨u6_0, (z_thrown, u6_0, u6_1), rfl, hv, by rw [ht]; exact hP, va_K.moved hW.alike hK, hD⟩, hS.F ht⟩) hS.2.2 d_MD_piece_89

set_option maxHeartbeats 4000000 in
set_option maxRecDepth 100000 in
theorem c_MD_piece (l : Launch) (dC : Nat → ClassId) (dI : Nat → Nat → Nat) (cI cJ cB cZ : ClassId) (h_t : Nat) (h_tape : Nat) (h_row : Nat) (h_out : Nat) (h_sought : Nat) (h_start : Nat) (h_documentOf : Nat) (h_order : Nat) (h_rankOf : Nat) (h_same : Nat) (h_work : Nat) (h_next : Nat) (h_often : Nat) (h_has : Nat) (sz : Nat) (z_thrown : Int32) (z_size : Int32) (z_outSize : Int32) (z_soughtSize : Int32) (z_documents : Int32) (z_indexed : Int32) (z_suffixes : Int32) (z_rows : Int32) (z_lesser : Int32) (z_row : Nat → Int32) (z_out : Nat → Int32) (z_start : Nat → Int32) (z_documentOf : Nat → Int32) (z_order : Nat → Int32) (z_same : Nat → Int32) (a_p1 : Int64) (post : Int32 → Int32 → Int32 → (Nat → Int32) → Prop) (hv : vc_MD_piece a_p1 z_suffixes z_row z_start z_documentOf z_order z_same post z_thrown z_outSize z_out) : Met l y_MD_piece (Cond.code y_MD_piece b_MD_piece 7 (some .int) :: WT) rm_MD_piece (cPre (dC, dI) classes (TYS cI cJ cB cZ) [(h_t, .inr (8, [.int z_thrown, .ref h_tape, .ref h_row, .ref h_out, .ref h_sought, .int z_size, .int z_outSize, .int z_soughtSize, .int z_documents, .int z_indexed, .int z_suffixes, .int z_rows, .ref h_start, .ref h_documentOf, .ref h_order, .ref h_rankOf, .ref h_same, .ref h_work, .ref h_next, .ref h_often, .ref h_has, .int z_lesser])), (h_row, .inl (cB, 16384, .inl z_row)), (h_out, .inl (cB, 16384, .inl z_out)), (h_start, .inl (cI, 66, .inl z_start)), (h_documentOf, .inl (cI, 16384, .inl z_documentOf)), (h_order, .inl (cI, 16384, .inl z_order)), (h_same, .inl (cI, 16385, .inl z_same))] sz [.ref h_t, .long a_p1]) (va_Qi (fun (r : Int32) (u : Int32 × Int32 × (Nat → Int32)) => post r u.1 u.2.1 u.2.2) (fun u t => cAft (dC, dI) classes (TYS cI cJ cB cZ) (va_A [(h_t, .inr (8, [.int z_thrown, .ref h_tape, .ref h_row, .ref h_out, .ref h_sought, .int z_size, .int z_outSize, .int z_soughtSize, .int z_documents, .int z_indexed, .int z_suffixes, .int z_rows, .ref h_start, .ref h_documentOf, .ref h_order, .ref h_rankOf, .ref h_same, .ref h_work, .ref h_next, .ref h_often, .ref h_has, .int z_lesser])), (h_row, .inl (cB, 16384, .inl z_row)), (h_out, .inl (cB, 16384, .inl z_out)), (h_start, .inl (cI, 66, .inl z_start)), (h_documentOf, .inl (cI, 16384, .inl z_documentOf)), (h_order, .inl (cI, 16384, .inl z_order)), (h_same, .inl (cI, 16385, .inl z_same))] sz) [(h_t, .inr (8, [.int u.1, .ref h_tape, .ref h_row, .ref h_out, .ref h_sought, .int z_size, .int u.2.1, .int z_soughtSize, .int z_documents, .int z_indexed, .int z_suffixes, .int z_rows, .ref h_start, .ref h_documentOf, .ref h_order, .ref h_rankOf, .ref h_same, .ref h_work, .ref h_next, .ref h_often, .ref h_has, .int z_lesser])), (h_row, .inl (cB, 16384, .inl z_row)), (h_out, .inl (cB, 16384, .inl u.2.2)), (h_start, .inl (cI, 66, .inl z_start)), (h_documentOf, .inl (cI, 16384, .inl z_documentOf)), (h_order, .inl (cI, 16384, .inl z_order)), (h_same, .inl (cI, 16385, .inl z_same))] t) (va_A [(h_t, .inr (8, [.int z_thrown, .ref h_tape, .ref h_row, .ref h_out, .ref h_sought, .int z_size, .int z_outSize, .int z_soughtSize, .int z_documents, .int z_indexed, .int z_suffixes, .int z_rows, .ref h_start, .ref h_documentOf, .ref h_order, .ref h_rankOf, .ref h_same, .ref h_work, .ref h_next, .ref h_often, .ref h_has, .int z_lesser])), (h_row, .inl (cB, 16384, .inl z_row)), (h_out, .inl (cB, 16384, .inl z_out)), (h_start, .inl (cI, 66, .inl z_start)), (h_documentOf, .inl (cI, 16384, .inl z_documentOf)), (h_order, .inl (cI, 16384, .inl z_order)), (h_same, .inl (cI, 16385, .inl z_same))] sz)) 0 0 (va_A [(h_t, .inr (8, [.int z_thrown, .ref h_tape, .ref h_row, .ref h_out, .ref h_sought, .int z_size, .int z_outSize, .int z_soughtSize, .int z_documents, .int z_indexed, .int z_suffixes, .int z_rows, .ref h_start, .ref h_documentOf, .ref h_order, .ref h_rankOf, .ref h_same, .ref h_work, .ref h_next, .ref h_often, .ref h_has, .int z_lesser])), (h_row, .inl (cB, 16384, .inl z_row)), (h_out, .inl (cB, 16384, .inl z_out)), (h_start, .inl (cI, 66, .inl z_start)), (h_documentOf, .inl (cI, 16384, .inl z_documentOf)), (h_order, .inl (cI, 16384, .inl z_order)), (h_same, .inl (cI, 16385, .inl z_same))] sz) := by
  refine Met.ofW (cc := b_MD_piece) (maxL := 7) (ret := (some .int)) (by decide) rfl ?_
  intro p e s m args below meth c s₁ B hml hq
  obtain ⟨rfl, hsz, hP, hK, hD0⟩ := hq
  have hts := atoms_spec (ws := Cond.code y_MD_piece b_MD_piece 7 (some .int) :: WT) B.pre
  have hw : ∀ w ∈ WT, w.before ([.ref h_t, .long a_p1] : List Value).toArray s = true := fun w h => hts w (List.mem_cons_of_mem _ h)
  have hx := B.exec
  have hb := B.bytes
  have hr := B.returns
  have hlk := B.notSynchronized
  have hown : s.vm.findClass "SuffixIndexModel" = some m.cls := findClass_of_methodNamed B.named
  have F : CallFix p m c b_MD_piece 7 s ([.ref h_t, .long a_p1] : List Value).toArray WT "SuffixIndexModel" := ⟨hx, hb, hml, hown, hw⟩
  subst hsz
  have hD := hD0.self (sz := s.heap.size)
  generalize hAe : va_A [(h_t, .inr (8, [.int z_thrown, .ref h_tape, .ref h_row, .ref h_out, .ref h_sought, .int z_size, .int z_outSize, .int z_soughtSize, .int z_documents, .int z_indexed, .int z_suffixes, .int z_rows, .ref h_start, .ref h_documentOf, .ref h_order, .ref h_rankOf, .ref h_same, .ref h_work, .ref h_next, .ref h_often, .ref h_has, .int z_lesser])), (h_row, .inl (cB, 16384, .inl z_row)), (h_out, .inl (cB, 16384, .inl z_out)), (h_start, .inl (cI, 66, .inl z_start)), (h_documentOf, .inl (cI, 16384, .inl z_documentOf)), (h_order, .inl (cI, 16384, .inl z_order)), (h_same, .inl (cI, 16385, .inl z_same))] s.heap.size = A at hD ⊢
  have hA : ∀ q : Nat, s.heap.size ≤ q → A q := fun q h => by rw [← hAe]; exact Or.inr h
  have hS : va_S A s.heap s.heap [] := va_S.rf
  have hl := lv_entry ([.ref h_t, .long a_p1]) (n := 7) (Nat.le_of_ble_eq_true rfl)
  rw [lg_entry_eq]
  generalize (lg_sl ([.ref h_t, .long a_p1]) ++ List.replicate (7 - (lg_sl ([.ref h_t, .long a_p1])).length) Slot.unset).toArray = ls at hl ⊢
  have hl : lv_has ls 7 [(0, .ref h_t), (1, .long a_p1)] := hl
  show W p l e rm_MD_piece s m _ below meth c s.heap [] 0 0 _ _
  have hP : va_P (dC, dI) classes [(h_t, .inr (8, [.int z_thrown, .ref h_tape, .ref h_row, .ref h_out, .ref h_sought, .int z_size, .int z_outSize, .int z_soughtSize, .int z_documents, .int z_indexed, .int z_suffixes, .int z_rows, .ref h_start, .ref h_documentOf, .ref h_order, .ref h_rankOf, .ref h_same, .ref h_work, .ref h_next, .ref h_often, .ref h_has, .int z_lesser])), (h_row, .inl (cB, 16384, .inl z_row)), (h_out, .inl (cB, 16384, .inl z_out)), (h_start, .inl (cI, 66, .inl z_start)), (h_documentOf, .inl (cI, 16384, .inl z_documentOf)), (h_order, .inl (cI, 16384, .inl z_order)), (h_same, .inl (cI, 16385, .inl z_same))] s.heap := hP
  obtain ⟨H, hHe⟩ : ∃ H, H = s.heap := ⟨_, rfl⟩
  have hS : va_S A s.heap H [] := by rw [hHe]; exact hS
  rw [← hHe] at hP
  suffices hgoal : W p l e rm_MD_piece s m ([.ref h_t, .long a_p1] : List Value).toArray below meth c H [] 0 0 (MQ below (va_Qi (fun (r : Int32) (u : Int32 × Int32 × (Nat → Int32)) => post r u.1 u.2.1 u.2.2) (fun u t => cAft (dC, dI) classes (TYS cI cJ cB cZ) A [(h_t, .inr (8, [.int u.1, .ref h_tape, .ref h_row, .ref h_out, .ref h_sought, .int z_size, .int u.2.1, .int z_soughtSize, .int z_documents, .int z_indexed, .int z_suffixes, .int z_rows, .ref h_start, .ref h_documentOf, .ref h_order, .ref h_rankOf, .ref h_same, .ref h_work, .ref h_next, .ref h_often, .ref h_has, .int z_lesser])), (h_row, .inl (cB, 16384, .inl z_row)), (h_out, .inl (cB, 16384, .inl u.2.2)), (h_start, .inl (cI, 66, .inl z_start)), (h_documentOf, .inl (cI, 16384, .inl z_documentOf)), (h_order, .inl (cI, 16384, .inl z_order)), (h_same, .inl (cI, 16385, .inl z_same))] t) A) ([.ref h_t, .long a_p1] : List Value).toArray s 0 0 A) (F0 m 0 ls []) by rw [hHe] at hgoal; exact hgoal
  refine lv_aload_n hx hb d_MD_piece_0 rfl (lv_at hl 0 rfl) ?_
  refine lv_iconst (v := 0) hx hb d_MD_piece_1 (by decide) ?_
  refine va_put (D := (dC, dI)) (ci := 8) (v := .int 0) (ty := .int) (C := "SuffixIndexModel") (T := F_MD) (N := 22) hx hb hw i_MD t_MD t_MD_ok n_MD hown hK hP hD hS 0 rfl rfl 0 (by decide) (hw _ m_1101) (fun _ h9 => h9) rfl (by decide +kernel) rfl rfl (Nat.le_of_ble_eq_true rfl) d_MD_piece_2 (fun H locs hP hD hS => ?_)
  have hP : va_P (dC, dI) classes [(h_t, .inr (8, [.int 0, .ref h_tape, .ref h_row, .ref h_out, .ref h_sought, .int z_size, .int z_outSize, .int z_soughtSize, .int z_documents, .int z_indexed, .int z_suffixes, .int z_rows, .ref h_start, .ref h_documentOf, .ref h_order, .ref h_rankOf, .ref h_same, .ref h_work, .ref h_next, .ref h_often, .ref h_has, .int z_lesser])), (h_row, .inl (cB, 16384, .inl z_row)), (h_out, .inl (cB, 16384, .inl z_out)), (h_start, .inl (cI, 66, .inl z_start)), (h_documentOf, .inl (cI, 16384, .inl z_documentOf)), (h_order, .inl (cI, 16384, .inl z_order)), (h_same, .inl (cI, 16385, .inl z_same))] H := hP
  have hD : va_D A [(h_t, .inr (8, [.int 0, .ref h_tape, .ref h_row, .ref h_out, .ref h_sought, .int z_size, .int z_outSize, .int z_soughtSize, .int z_documents, .int z_indexed, .int z_suffixes, .int z_rows, .ref h_start, .ref h_documentOf, .ref h_order, .ref h_rankOf, .ref h_same, .ref h_work, .ref h_next, .ref h_often, .ref h_has, .int z_lesser])), (h_row, .inl (cB, 16384, .inl z_row)), (h_out, .inl (cB, 16384, .inl z_out)), (h_start, .inl (cI, 66, .inl z_start)), (h_documentOf, .inl (cI, 16384, .inl z_documentOf)), (h_order, .inl (cI, 16384, .inl z_order)), (h_same, .inl (cI, 16385, .inl z_same))] := hD
  refine lv_lload_n hx hb d_MD_piece_5 rfl (lv_at hl 1 rfl) ?_
  refine lv_lstore_n (lv' := [(3, .long a_p1), (0, .ref h_t), (1, .long a_p1)]) hx hb d_MD_piece_6 rfl hl (by decide) rfl (fun ls hl => ?_)
  refine lv_iconst (v := 0) hx hb d_MD_piece_7 (by decide) ?_
  refine lv_istore (lv' := [(5, .int 0), (3, .long a_p1), (0, .ref h_t), (1, .long a_p1)]) hx hb d_MD_piece_8 hl (by decide) rfl (fun ls hl => ?_)
  obtain ⟨j, hv⟩ := hv
  exact wk_MD_piece_10 F hr hlk hK hA j a_p1 0 0 z_outSize z_out hv _ _ _ hP hD hS (lv_sub hl [2, 3, 1, 0] rfl)

set_option maxHeartbeats 4000000 in
set_option maxRecDepth 100000 in
theorem wk_MD_noDocument_24 {p : Program} {l : Launch} {e : Env} {s : State} {m : MethodId} {below : List Frame} {meth : Method} {c : Code} {A : Nat → Prop} {dC : Nat → ClassId} {dI : Nat → Nat → Nat} {cI cJ cB cZ : ClassId} {h_t : Nat} {h_tape : Nat} {h_row : Nat} {h_out : Nat} {h_sought : Nat} {h_start : Nat} {h_documentOf : Nat} {h_order : Nat} {h_rankOf : Nat} {h_same : Nat} {h_work : Nat} {h_next : Nat} {h_often : Nat} {h_has : Nat} {a_p1 : Int32} {z_indexed : Int32} {z_size : Int32} {z_outSize : Int32} {z_soughtSize : Int32} {z_documents : Int32} {z_suffixes : Int32} {z_rows : Int32} {z_lesser : Int32} {post : Int32 → Int32 → Prop} (F : CallFix p m c b_MD_noDocument 2 s ([.ref h_t, .int a_p1] : List Value).toArray WT "SuffixIndexModel") (hr : meth.sig.returnType = (some .boolean)) (hlk : meth.locks = false) (hK : va_K (dC, dI) classes (TYS cI cJ cB cZ) s) (hA : ∀ q, s.heap.size ≤ q → A q) : ∀ (k1 : Int32) (k2 : Int32) (z_thrown : Int32), vc_MD_noDocument_24 a_p1 z_indexed post k1 k2 z_thrown → ∀ (H : Heap) (locs : List Loc) (ls : Array Slot), va_P (dC, dI) classes [(h_t, .inr (8, [.int z_thrown, .ref h_tape, .ref h_row, .ref h_out, .ref h_sought, .int z_size, .int z_outSize, .int z_soughtSize, .int z_documents, .int z_indexed, .int z_suffixes, .int z_rows, .ref h_start, .ref h_documentOf, .ref h_order, .ref h_rankOf, .ref h_same, .ref h_work, .ref h_next, .ref h_often, .ref h_has, .int z_lesser]))] H → va_D A [(h_t, .inr (8, [.int z_thrown, .ref h_tape, .ref h_row, .ref h_out, .ref h_sought, .int z_size, .int z_outSize, .int z_soughtSize, .int z_documents, .int z_indexed, .int z_suffixes, .int z_rows, .ref h_start, .ref h_documentOf, .ref h_order, .ref h_rankOf, .ref h_same, .ref h_work, .ref h_next, .ref h_often, .ref h_has, .int z_lesser]))] → va_S A s.heap H locs → lv_has ls 2 [] → W p l e rm_MD_noDocument s m ([.ref h_t, .int a_p1] : List Value).toArray below meth c H locs 0 0 (MQ below (va_Qi (fun (r : Int32) (u : Int32) => post r u) (fun u t => cAft (dC, dI) classes (TYS cI cJ cB cZ) A [(h_t, .inr (8, [.int u, .ref h_tape, .ref h_row, .ref h_out, .ref h_sought, .int z_size, .int z_outSize, .int z_soughtSize, .int z_documents, .int z_indexed, .int z_suffixes, .int z_rows, .ref h_start, .ref h_documentOf, .ref h_order, .ref h_rankOf, .ref h_same, .ref h_work, .ref h_next, .ref h_often, .ref h_has, .int z_lesser]))] t) A) ([.ref h_t, .int a_p1] : List Value).toArray s 0 0 A) (F0 m 24 ls [.int k2, .int k1, .ref h_t]) := by
  obtain ⟨hx, hb, hml, hown, hw⟩ := id F
  intro k1 k2 z_thrown hv H locs ls hP hD hS hl
  refine cV_i (wr := []) (rest := []) (c_MD_refuse l dC dI cI cJ cB cZ h_t h_tape h_row h_out h_sought h_start h_documentOf h_order h_rankOf h_same h_work h_next h_often h_has H.size z_thrown z_size z_outSize z_soughtSize z_documents z_indexed z_suffixes z_rows z_lesser k1 k2 _ hv) F (cw_V (fun _ h => h) 2 hw m_1177 m_1179 ms_29 m_9 m_1180 rfl rfl (by decide +kernel) ⟨by decide, by decide⟩) hK hP hD hS hA [0] [] rfl rfl rfl rfl (by decide) 0 8 rfl rfl rfl hl.1 rfl (Nat.le_of_ble_eq_true rfl) d_MD_noDocument_24 ⟨Nat.le_of_ble_eq_true rfl, Nat.le_of_ble_eq_true rfl⟩ (fun r1 u H locs hv hP hD hS => ?_)
  obtain ⟨u1_0, rfl⟩ : ∃ z, z = u := ⟨_, rfl⟩
  have hP : va_P (dC, dI) classes [(h_t, .inr (8, [.int u1_0, .ref h_tape, .ref h_row, .ref h_out, .ref h_sought, .int z_size, .int z_outSize, .int z_soughtSize, .int z_documents, .int z_indexed, .int z_suffixes, .int z_rows, .ref h_start, .ref h_documentOf, .ref h_order, .ref h_rankOf, .ref h_same, .ref h_work, .ref h_next, .ref h_often, .ref h_has, .int z_lesser]))] H := P_sub hP [0] rfl
  have hD : va_D A [(h_t, .inr (8, [.int u1_0, .ref h_tape, .ref h_row, .ref h_out, .ref h_sought, .int z_size, .int z_outSize, .int z_soughtSize, .int z_documents, .int z_indexed, .int z_suffixes, .int z_rows, .ref h_start, .ref h_documentOf, .ref h_order, .ref h_rankOf, .ref h_same, .ref h_work, .ref h_next, .ref h_often, .ref h_has, .int z_lesser]))] := hD.sub [0] rfl rfl
  obtain ⟨hnb, hv⟩ := hv
  exact W.zret (v := r1) hx hb hr hnb (fun t ht hW => ⟨⟨r1, u1_0, rfl, hv, by rw [ht]; exact hP, va_K.moved hW.alike hK, hD⟩, hS.F ht⟩) hS.2.2 d_MD_noDocument_27

set_option maxHeartbeats 4000000 in
set_option maxRecDepth 100000 in
theorem wk_MD_noDocument_19 {p : Program} {l : Launch} {e : Env} {s : State} {m : MethodId} {below : List Frame} {meth : Method} {c : Code} {A : Nat → Prop} {dC : Nat → ClassId} {dI : Nat → Nat → Nat} {cI cJ cB cZ : ClassId} {h_t : Nat} {h_tape : Nat} {h_row : Nat} {h_out : Nat} {h_sought : Nat} {h_start : Nat} {h_documentOf : Nat} {h_order : Nat} {h_rankOf : Nat} {h_same : Nat} {h_work : Nat} {h_next : Nat} {h_often : Nat} {h_has : Nat} {a_p1 : Int32} {z_indexed : Int32} {z_size : Int32} {z_outSize : Int32} {z_soughtSize : Int32} {z_documents : Int32} {z_suffixes : Int32} {z_rows : Int32} {z_lesser : Int32} {post : Int32 → Int32 → Prop} (F : CallFix p m c b_MD_noDocument 2 s ([.ref h_t, .int a_p1] : List Value).toArray WT "SuffixIndexModel") (hr : meth.sig.returnType = (some .boolean)) (hlk : meth.locks = false) (hK : va_K (dC, dI) classes (TYS cI cJ cB cZ) s) (hA : ∀ q, s.heap.size ≤ q → A q) : ∀ (k1 : Int32) (z_thrown : Int32), vc_MD_noDocument_19 a_p1 z_indexed post k1 z_thrown → ∀ (H : Heap) (locs : List Loc) (ls : Array Slot), va_P (dC, dI) classes [(h_t, .inr (8, [.int z_thrown, .ref h_tape, .ref h_row, .ref h_out, .ref h_sought, .int z_size, .int z_outSize, .int z_soughtSize, .int z_documents, .int z_indexed, .int z_suffixes, .int z_rows, .ref h_start, .ref h_documentOf, .ref h_order, .ref h_rankOf, .ref h_same, .ref h_work, .ref h_next, .ref h_often, .ref h_has, .int z_lesser]))] H → va_D A [(h_t, .inr (8, [.int z_thrown, .ref h_tape, .ref h_row, .ref h_out, .ref h_sought, .int z_size, .int z_outSize, .int z_soughtSize, .int z_documents, .int z_indexed, .int z_suffixes, .int z_rows, .ref h_start, .ref h_documentOf, .ref h_order, .ref h_rankOf, .ref h_same, .ref h_work, .ref h_next, .ref h_often, .ref h_has, .int z_lesser]))] → va_S A s.heap H locs → lv_has ls 2 [] → W p l e rm_MD_noDocument s m ([.ref h_t, .int a_p1] : List Value).toArray below meth c H locs 0 0 (MQ below (va_Qi (fun (r : Int32) (u : Int32) => post r u) (fun u t => cAft (dC, dI) classes (TYS cI cJ cB cZ) A [(h_t, .inr (8, [.int u, .ref h_tape, .ref h_row, .ref h_out, .ref h_sought, .int z_size, .int z_outSize, .int z_soughtSize, .int z_documents, .int z_indexed, .int z_suffixes, .int z_rows, .ref h_start, .ref h_documentOf, .ref h_order, .ref h_rankOf, .ref h_same, .ref h_work, .ref h_next, .ref h_often, .ref h_has, .int z_lesser]))] t) A) ([.ref h_t, .int a_p1] : List Value).toArray s 0 0 A) (F0 m 19 ls [.int k1, .ref h_t]) := by
  obtain ⟨hx, hb, hml, hown, hw⟩ := id F
  intro k1 z_thrown hv H locs ls hP hD hS hl
  refine lv_iconst (v := 1) hx hb d_MD_noDocument_19 (by decide) ?_
  refine lv_goto (tgt := 24) hx hb d_MD_noDocument_20 (by decide) ?_
  exact wk_MD_noDocument_24 F hr hlk hK hA k1 1 z_thrown hv _ _ _ hP hD hS (lv_sub hl [] rfl)

set_option maxHeartbeats 4000000 in
set_option maxRecDepth 100000 in
theorem c_MD_noDocument (l : Launch) (dC : Nat → ClassId) (dI : Nat → Nat → Nat) (cI cJ cB cZ : ClassId) (h_t : Nat) (h_tape : Nat) (h_row : Nat) (h_out : Nat) (h_sought : Nat) (h_start : Nat) (h_documentOf : Nat) (h_order : Nat) (h_rankOf : Nat) (h_same : Nat) (h_work : Nat) (h_next : Nat) (h_often : Nat) (h_has : Nat) (sz : Nat) (z_thrown : Int32) (z_size : Int32) (z_outSize : Int32) (z_soughtSize : Int32) (z_documents : Int32) (z_indexed : Int32) (z_suffixes : Int32) (z_rows : Int32) (z_lesser : Int32) (a_p1 : Int32) (post : Int32 → Int32 → Prop) (hv : vc_MD_noDocument a_p1 z_indexed post z_thrown) : Met l y_MD_noDocument (Cond.code y_MD_noDocument b_MD_noDocument 2 (some .boolean) :: WT) rm_MD_noDocument (cPre (dC, dI) classes (TYS cI cJ cB cZ) [(h_t, .inr (8, [.int z_thrown, .ref h_tape, .ref h_row, .ref h_out, .ref h_sought, .int z_size, .int z_outSize, .int z_soughtSize, .int z_documents, .int z_indexed, .int z_suffixes, .int z_rows, .ref h_start, .ref h_documentOf, .ref h_order, .ref h_rankOf, .ref h_same, .ref h_work, .ref h_next, .ref h_often, .ref h_has, .int z_lesser]))] sz [.ref h_t, .int a_p1]) (va_Qi (fun (r : Int32) (u : Int32) => post r u) (fun u t => cAft (dC, dI) classes (TYS cI cJ cB cZ) (va_A [(h_t, .inr (8, [.int z_thrown, .ref h_tape, .ref h_row, .ref h_out, .ref h_sought, .int z_size, .int z_outSize, .int z_soughtSize, .int z_documents, .int z_indexed, .int z_suffixes, .int z_rows, .ref h_start, .ref h_documentOf, .ref h_order, .ref h_rankOf, .ref h_same, .ref h_work, .ref h_next, .ref h_often, .ref h_has, .int z_lesser]))] sz) [(h_t, .inr (8, [.int u, .ref h_tape, .ref h_row, .ref h_out, .ref h_sought, .int z_size, .int z_outSize, .int z_soughtSize, .int z_documents, .int z_indexed, .int z_suffixes, .int z_rows, .ref h_start, .ref h_documentOf, .ref h_order, .ref h_rankOf, .ref h_same, .ref h_work, .ref h_next, .ref h_often, .ref h_has, .int z_lesser]))] t) (va_A [(h_t, .inr (8, [.int z_thrown, .ref h_tape, .ref h_row, .ref h_out, .ref h_sought, .int z_size, .int z_outSize, .int z_soughtSize, .int z_documents, .int z_indexed, .int z_suffixes, .int z_rows, .ref h_start, .ref h_documentOf, .ref h_order, .ref h_rankOf, .ref h_same, .ref h_work, .ref h_next, .ref h_often, .ref h_has, .int z_lesser]))] sz)) 0 0 (va_A [(h_t, .inr (8, [.int z_thrown, .ref h_tape, .ref h_row, .ref h_out, .ref h_sought, .int z_size, .int z_outSize, .int z_soughtSize, .int z_documents, .int z_indexed, .int z_suffixes, .int z_rows, .ref h_start, .ref h_documentOf, .ref h_order, .ref h_rankOf, .ref h_same, .ref h_work, .ref h_next, .ref h_often, .ref h_has, .int z_lesser]))] sz) := by
  refine Met.ofW (cc := b_MD_noDocument) (maxL := 2) (ret := (some .boolean)) (by decide) rfl ?_
  intro p e s m args below meth c s₁ B hml hq
  obtain ⟨rfl, hsz, hP, hK, hD0⟩ := hq
  have hts := atoms_spec (ws := Cond.code y_MD_noDocument b_MD_noDocument 2 (some .boolean) :: WT) B.pre
  have hw : ∀ w ∈ WT, w.before ([.ref h_t, .int a_p1] : List Value).toArray s = true := fun w h => hts w (List.mem_cons_of_mem _ h)
  have hx := B.exec
  have hb := B.bytes
  have hr := B.returns
  have hlk := B.notSynchronized
  have hown : s.vm.findClass "SuffixIndexModel" = some m.cls := findClass_of_methodNamed B.named
  have F : CallFix p m c b_MD_noDocument 2 s ([.ref h_t, .int a_p1] : List Value).toArray WT "SuffixIndexModel" := ⟨hx, hb, hml, hown, hw⟩
  subst hsz
  have hD := hD0.self (sz := s.heap.size)
  generalize hAe : va_A [(h_t, .inr (8, [.int z_thrown, .ref h_tape, .ref h_row, .ref h_out, .ref h_sought, .int z_size, .int z_outSize, .int z_soughtSize, .int z_documents, .int z_indexed, .int z_suffixes, .int z_rows, .ref h_start, .ref h_documentOf, .ref h_order, .ref h_rankOf, .ref h_same, .ref h_work, .ref h_next, .ref h_often, .ref h_has, .int z_lesser]))] s.heap.size = A at hD ⊢
  have hA : ∀ q : Nat, s.heap.size ≤ q → A q := fun q h => by rw [← hAe]; exact Or.inr h
  have hS : va_S A s.heap s.heap [] := va_S.rf
  have hl := lv_entry ([.ref h_t, .int a_p1]) (n := 2) (Nat.le_of_ble_eq_true rfl)
  rw [lg_entry_eq]
  generalize (lg_sl ([.ref h_t, .int a_p1]) ++ List.replicate (2 - (lg_sl ([.ref h_t, .int a_p1])).length) Slot.unset).toArray = ls at hl ⊢
  have hl : lv_has ls 2 [(0, .ref h_t), (1, .int a_p1)] := hl
  show W p l e rm_MD_noDocument s m _ below meth c s.heap [] 0 0 _ _
  have hP : va_P (dC, dI) classes [(h_t, .inr (8, [.int z_thrown, .ref h_tape, .ref h_row, .ref h_out, .ref h_sought, .int z_size, .int z_outSize, .int z_soughtSize, .int z_documents, .int z_indexed, .int z_suffixes, .int z_rows, .ref h_start, .ref h_documentOf, .ref h_order, .ref h_rankOf, .ref h_same, .ref h_work, .ref h_next, .ref h_often, .ref h_has, .int z_lesser]))] s.heap := hP
  obtain ⟨H, hHe⟩ : ∃ H, H = s.heap := ⟨_, rfl⟩
  have hS : va_S A s.heap H [] := by rw [hHe]; exact hS
  rw [← hHe] at hP
  suffices hgoal : W p l e rm_MD_noDocument s m ([.ref h_t, .int a_p1] : List Value).toArray below meth c H [] 0 0 (MQ below (va_Qi (fun (r : Int32) (u : Int32) => post r u) (fun u t => cAft (dC, dI) classes (TYS cI cJ cB cZ) A [(h_t, .inr (8, [.int u, .ref h_tape, .ref h_row, .ref h_out, .ref h_sought, .int z_size, .int z_outSize, .int z_soughtSize, .int z_documents, .int z_indexed, .int z_suffixes, .int z_rows, .ref h_start, .ref h_documentOf, .ref h_order, .ref h_rankOf, .ref h_same, .ref h_work, .ref h_next, .ref h_often, .ref h_has, .int z_lesser]))] t) A) ([.ref h_t, .int a_p1] : List Value).toArray s 0 0 A) (F0 m 0 ls []) by rw [hHe] at hgoal; exact hgoal
  refine lv_aload_n hx hb d_MD_noDocument_0 rfl (lv_at hl 0 rfl) ?_
  refine lv_iconst (v := 0) hx hb d_MD_noDocument_1 (by decide) ?_
  refine va_put (D := (dC, dI)) (ci := 8) (v := .int 0) (ty := .int) (C := "SuffixIndexModel") (T := F_MD) (N := 22) hx hb hw i_MD t_MD t_MD_ok n_MD hown hK hP hD hS 0 rfl rfl 0 (by decide) (hw _ m_1101) (fun _ h9 => h9) rfl (by decide +kernel) rfl rfl (Nat.le_of_ble_eq_true rfl) d_MD_noDocument_2 (fun H locs hP hD hS => ?_)
  have hP : va_P (dC, dI) classes [(h_t, .inr (8, [.int 0, .ref h_tape, .ref h_row, .ref h_out, .ref h_sought, .int z_size, .int z_outSize, .int z_soughtSize, .int z_documents, .int z_indexed, .int z_suffixes, .int z_rows, .ref h_start, .ref h_documentOf, .ref h_order, .ref h_rankOf, .ref h_same, .ref h_work, .ref h_next, .ref h_often, .ref h_has, .int z_lesser]))] H := hP
  have hD : va_D A [(h_t, .inr (8, [.int 0, .ref h_tape, .ref h_row, .ref h_out, .ref h_sought, .int z_size, .int z_outSize, .int z_soughtSize, .int z_documents, .int z_indexed, .int z_suffixes, .int z_rows, .ref h_start, .ref h_documentOf, .ref h_order, .ref h_rankOf, .ref h_same, .ref h_work, .ref h_next, .ref h_often, .ref h_has, .int z_lesser]))] := hD
  refine lv_aload_n hx hb d_MD_noDocument_5 rfl (lv_at hl 0 rfl) ?_
  refine lv_iconst (v := 1) hx hb d_MD_noDocument_6 (by decide) ?_
  refine lv_iload_n hx hb d_MD_noDocument_7 rfl (lv_at hl 1 rfl) ?_
  obtain ⟨hvt, hvf⟩ := hv
  refine lv_if_lt (tgt := 19) hx hb d_MD_noDocument_8 (by decide) (fun c2 => ?_) (fun c2 => ?_)
  · have hv := hvt c2
    exact wk_MD_noDocument_19 F hr hlk hK hA 1 0 hv _ _ _ hP hD hS (lv_sub hl [] rfl)
  · have hv := hvf c2
    refine lv_iload_n hx hb d_MD_noDocument_11 rfl (lv_at hl 1 rfl) ?_
    refine lv_aload_n hx hb d_MD_noDocument_12 rfl (lv_at hl 0 rfl) ?_
    refine va_get (D := (dC, dI)) (ci := 8) (v := .int z_indexed) (C := "SuffixIndexModel") (T := F_MD) (N := 22) hx hb hw i_MD hown hK hP 0 rfl rfl 9 (by decide) (hw _ m_1110) (fun _ h9 => h9) rfl d_MD_noDocument_13 ?_
    obtain ⟨hvt, hvf⟩ := hv
    refine lv_icmp_lt (tgt := 23) hx hb d_MD_noDocument_16 (by decide) (fun c3 => ?_) (fun c3 => ?_)
    · have hv := hvt c3
      refine lv_iconst (v := 0) hx hb d_MD_noDocument_23 (by decide) ?_
      exact wk_MD_noDocument_24 F hr hlk hK hA 1 0 0 hv _ _ _ hP hD hS (lv_sub hl [] rfl)
    · have hv := hvf c3
      exact wk_MD_noDocument_19 F hr hlk hK hA 1 0 hv _ _ _ hP hD hS (lv_sub hl [] rfl)

set_option maxHeartbeats 4000000 in
set_option maxRecDepth 100000 in
theorem wk_MD_single_117 {p : Program} {l : Launch} {e : Env} {s : State} {m : MethodId} {below : List Frame} {meth : Method} {c : Code} {A : Nat → Prop} {dC : Nat → ClassId} {dI : Nat → Nat → Nat} {cI cJ cB cZ : ClassId} {h_t : Nat} {h_tape : Nat} {h_row : Nat} {h_out : Nat} {h_sought : Nat} {h_start : Nat} {h_documentOf : Nat} {h_order : Nat} {h_rankOf : Nat} {h_same : Nat} {h_work : Nat} {h_next : Nat} {h_often : Nat} {h_has : Nat} {a_p1 : Int32} {z_indexed : Int32} {z_suffixes : Int32} {z_row : Nat → Int32} {z_start : Nat → Int32} {z_rankOf : Nat → Int32} {z_same : Nat → Int32} {z_size : Int32} {z_soughtSize : Int32} {z_documents : Int32} {z_rows : Int32} {z_lesser : Int32} {post : Int32 → Int32 → Int32 → (Nat → Int32) → Prop} {K22 : Int32 → Int32 → Int32 → Int32 → Int32 → (Nat → Int32) → Prop} (F : CallFix p m c b_MD_single 7 s ([.ref h_t, .int a_p1] : List Value).toArray WT "SuffixIndexModel") (hr : meth.sig.returnType = (some .int)) (hlk : meth.locks = false) (hK : va_K (dC, dI) classes (TYS cI cJ cB cZ) s) (hA : ∀ q, s.heap.size ≤ q → A q) (hK22 : ∀ (x2 : Int32) (x3 : Int32) (x4 : Int32) (z_thrown : Int32) (z_outSize : Int32) (z_out : Nat → Int32), K22 x2 x3 x4 z_thrown z_outSize z_out → ∀ (H : Heap) (locs : List Loc) (ls : Array Slot), va_P (dC, dI) classes [(h_t, .inr (8, [.int z_thrown, .ref h_tape, .ref h_row, .ref h_out, .ref h_sought, .int z_size, .int z_outSize, .int z_soughtSize, .int z_documents, .int z_indexed, .int z_suffixes, .int z_rows, .ref h_start, .ref h_documentOf, .ref h_order, .ref h_rankOf, .ref h_same, .ref h_work, .ref h_next, .ref h_often, .ref h_has, .int z_lesser])), (h_row, .inl (cB, 16384, .inl z_row)), (h_out, .inl (cB, 16384, .inl z_out)), (h_start, .inl (cI, 66, .inl z_start)), (h_rankOf, .inl (cI, 16384, .inl z_rankOf)), (h_same, .inl (cI, 16385, .inl z_same))] H → va_D A [(h_t, .inr (8, [.int z_thrown, .ref h_tape, .ref h_row, .ref h_out, .ref h_sought, .int z_size, .int z_outSize, .int z_soughtSize, .int z_documents, .int z_indexed, .int z_suffixes, .int z_rows, .ref h_start, .ref h_documentOf, .ref h_order, .ref h_rankOf, .ref h_same, .ref h_work, .ref h_next, .ref h_often, .ref h_has, .int z_lesser])), (h_row, .inl (cB, 16384, .inl z_row)), (h_out, .inl (cB, 16384, .inl z_out)), (h_start, .inl (cI, 66, .inl z_start)), (h_rankOf, .inl (cI, 16384, .inl z_rankOf)), (h_same, .inl (cI, 16385, .inl z_same))] → va_S A s.heap H locs → lv_has ls 7 [(0, .ref h_t), (1, .int a_p1), (2, .int x2), (3, .int x3), (4, .int x4)] → W p l e rm_MD_single s m ([.ref h_t, .int a_p1] : List Value).toArray below meth c H locs 0 0 (MQ below (va_Qi (fun (r : Int32) (u : Int32 × Int32 × (Nat → Int32)) => post r u.1 u.2.1 u.2.2) (fun u t => cAft (dC, dI) classes (TYS cI cJ cB cZ) A [(h_t, .inr (8, [.int u.1, .ref h_tape, .ref h_row, .ref h_out, .ref h_sought, .int z_size, .int u.2.1, .int z_soughtSize, .int z_documents, .int z_indexed, .int z_suffixes, .int z_rows, .ref h_start, .ref h_documentOf, .ref h_order, .ref h_rankOf, .ref h_same, .ref h_work, .ref h_next, .ref h_often, .ref h_has, .int z_lesser])), (h_row, .inl (cB, 16384, .inl z_row)), (h_out, .inl (cB, 16384, .inl u.2.2)), (h_start, .inl (cI, 66, .inl z_start)), (h_rankOf, .inl (cI, 16384, .inl z_rankOf)), (h_same, .inl (cI, 16385, .inl z_same))] t) A) ([.ref h_t, .int a_p1] : List Value).toArray s 0 0 A) (F0 m 22 ls [])) : ∀ (x2 : Int32) (x3 : Int32) (x4 : Int32) (z_thrown : Int32) (z_outSize : Int32) (z_out : Nat → Int32), vc_MD_single_117 a_p1 z_indexed z_suffixes z_row z_start z_rankOf z_same post K22 x2 x3 x4 z_thrown z_outSize z_out → ∀ (H : Heap) (locs : List Loc) (ls : Array Slot), va_P (dC, dI) classes [(h_t, .inr (8, [.int z_thrown, .ref h_tape, .ref h_row, .ref h_out, .ref h_sought, .int z_size, .int z_outSize, .int z_soughtSize, .int z_documents, .int z_indexed, .int z_suffixes, .int z_rows, .ref h_start, .ref h_documentOf, .ref h_order, .ref h_rankOf, .ref h_same, .ref h_work, .ref h_next, .ref h_often, .ref h_has, .int z_lesser])), (h_row, .inl (cB, 16384, .inl z_row)), (h_out, .inl (cB, 16384, .inl z_out)), (h_start, .inl (cI, 66, .inl z_start)), (h_rankOf, .inl (cI, 16384, .inl z_rankOf)), (h_same, .inl (cI, 16385, .inl z_same))] H → va_D A [(h_t, .inr (8, [.int z_thrown, .ref h_tape, .ref h_row, .ref h_out, .ref h_sought, .int z_size, .int z_outSize, .int z_soughtSize, .int z_documents, .int z_indexed, .int z_suffixes, .int z_rows, .ref h_start, .ref h_documentOf, .ref h_order, .ref h_rankOf, .ref h_same, .ref h_work, .ref h_next, .ref h_often, .ref h_has, .int z_lesser])), (h_row, .inl (cB, 16384, .inl z_row)), (h_out, .inl (cB, 16384, .inl z_out)), (h_start, .inl (cI, 66, .inl z_start)), (h_rankOf, .inl (cI, 16384, .inl z_rankOf)), (h_same, .inl (cI, 16385, .inl z_same))] → va_S A s.heap H locs → lv_has ls 7 [(0, .ref h_t), (1, .int a_p1), (2, .int x2), (3, .int x3), (4, .int x4)] → W p l e rm_MD_single s m ([.ref h_t, .int a_p1] : List Value).toArray below meth c H locs 0 0 (MQ below (va_Qi (fun (r : Int32) (u : Int32 × Int32 × (Nat → Int32)) => post r u.1 u.2.1 u.2.2) (fun u t => cAft (dC, dI) classes (TYS cI cJ cB cZ) A [(h_t, .inr (8, [.int u.1, .ref h_tape, .ref h_row, .ref h_out, .ref h_sought, .int z_size, .int u.2.1, .int z_soughtSize, .int z_documents, .int z_indexed, .int z_suffixes, .int z_rows, .ref h_start, .ref h_documentOf, .ref h_order, .ref h_rankOf, .ref h_same, .ref h_work, .ref h_next, .ref h_often, .ref h_has, .int z_lesser])), (h_row, .inl (cB, 16384, .inl z_row)), (h_out, .inl (cB, 16384, .inl u.2.2)), (h_start, .inl (cI, 66, .inl z_start)), (h_rankOf, .inl (cI, 16384, .inl z_rankOf)), (h_same, .inl (cI, 16385, .inl z_same))] t) A) ([.ref h_t, .int a_p1] : List Value).toArray s 0 0 A) (F0 m 117 ls []) := by
  obtain ⟨hx, hb, hml, hown, hw⟩ := id F
  intro x2 x3 x4 z_thrown z_outSize z_out hv H locs ls hP hD hS hl
  refine lv_iinc (v := x4 + 1) (lv' := [(4, .int (x4 + 1)), (0, .ref h_t), (1, .int a_p1), (2, .int x2), (3, .int x3)]) hx hb d_MD_single_117 hl (k := 4) rfl (iinc_v (by decide)) (by decide) rfl (fun ls hl => ?_)
  refine lv_goto (tgt := 22) hx hb d_MD_single_120 (by decide) ?_
  exact hK22 x2 x3 (x4 + 1) z_thrown z_outSize z_out hv _ _ _ hP hD hS (lv_sub hl [1, 2, 3, 4, 0] rfl)

set_option maxHeartbeats 4000000 in
set_option maxRecDepth 100000 in
theorem wk_MD_single_111 {p : Program} {l : Launch} {e : Env} {s : State} {m : MethodId} {below : List Frame} {meth : Method} {c : Code} {A : Nat → Prop} {dC : Nat → ClassId} {dI : Nat → Nat → Nat} {cI cJ cB cZ : ClassId} {h_t : Nat} {h_tape : Nat} {h_row : Nat} {h_out : Nat} {h_sought : Nat} {h_start : Nat} {h_documentOf : Nat} {h_order : Nat} {h_rankOf : Nat} {h_same : Nat} {h_work : Nat} {h_next : Nat} {h_often : Nat} {h_has : Nat} {a_p1 : Int32} {z_indexed : Int32} {z_suffixes : Int32} {z_row : Nat → Int32} {z_start : Nat → Int32} {z_rankOf : Nat → Int32} {z_same : Nat → Int32} {z_size : Int32} {z_soughtSize : Int32} {z_documents : Int32} {z_rows : Int32} {z_lesser : Int32} {post : Int32 → Int32 → Int32 → (Nat → Int32) → Prop} {K22 : Int32 → Int32 → Int32 → Int32 → Int32 → (Nat → Int32) → Prop} (F : CallFix p m c b_MD_single 7 s ([.ref h_t, .int a_p1] : List Value).toArray WT "SuffixIndexModel") (hr : meth.sig.returnType = (some .int)) (hlk : meth.locks = false) (hK : va_K (dC, dI) classes (TYS cI cJ cB cZ) s) (hA : ∀ q, s.heap.size ≤ q → A q) (hK22 : ∀ (x2 : Int32) (x3 : Int32) (x4 : Int32) (z_thrown : Int32) (z_outSize : Int32) (z_out : Nat → Int32), K22 x2 x3 x4 z_thrown z_outSize z_out → ∀ (H : Heap) (locs : List Loc) (ls : Array Slot), va_P (dC, dI) classes [(h_t, .inr (8, [.int z_thrown, .ref h_tape, .ref h_row, .ref h_out, .ref h_sought, .int z_size, .int z_outSize, .int z_soughtSize, .int z_documents, .int z_indexed, .int z_suffixes, .int z_rows, .ref h_start, .ref h_documentOf, .ref h_order, .ref h_rankOf, .ref h_same, .ref h_work, .ref h_next, .ref h_often, .ref h_has, .int z_lesser])), (h_row, .inl (cB, 16384, .inl z_row)), (h_out, .inl (cB, 16384, .inl z_out)), (h_start, .inl (cI, 66, .inl z_start)), (h_rankOf, .inl (cI, 16384, .inl z_rankOf)), (h_same, .inl (cI, 16385, .inl z_same))] H → va_D A [(h_t, .inr (8, [.int z_thrown, .ref h_tape, .ref h_row, .ref h_out, .ref h_sought, .int z_size, .int z_outSize, .int z_soughtSize, .int z_documents, .int z_indexed, .int z_suffixes, .int z_rows, .ref h_start, .ref h_documentOf, .ref h_order, .ref h_rankOf, .ref h_same, .ref h_work, .ref h_next, .ref h_often, .ref h_has, .int z_lesser])), (h_row, .inl (cB, 16384, .inl z_row)), (h_out, .inl (cB, 16384, .inl z_out)), (h_start, .inl (cI, 66, .inl z_start)), (h_rankOf, .inl (cI, 16384, .inl z_rankOf)), (h_same, .inl (cI, 16385, .inl z_same))] → va_S A s.heap H locs → lv_has ls 7 [(0, .ref h_t), (1, .int a_p1), (2, .int x2), (3, .int x3), (4, .int x4)] → W p l e rm_MD_single s m ([.ref h_t, .int a_p1] : List Value).toArray below meth c H locs 0 0 (MQ below (va_Qi (fun (r : Int32) (u : Int32 × Int32 × (Nat → Int32)) => post r u.1 u.2.1 u.2.2) (fun u t => cAft (dC, dI) classes (TYS cI cJ cB cZ) A [(h_t, .inr (8, [.int u.1, .ref h_tape, .ref h_row, .ref h_out, .ref h_sought, .int z_size, .int u.2.1, .int z_soughtSize, .int z_documents, .int z_indexed, .int z_suffixes, .int z_rows, .ref h_start, .ref h_documentOf, .ref h_order, .ref h_rankOf, .ref h_same, .ref h_work, .ref h_next, .ref h_often, .ref h_has, .int z_lesser])), (h_row, .inl (cB, 16384, .inl z_row)), (h_out, .inl (cB, 16384, .inl u.2.2)), (h_start, .inl (cI, 66, .inl z_start)), (h_rankOf, .inl (cI, 16384, .inl z_rankOf)), (h_same, .inl (cI, 16385, .inl z_same))] t) A) ([.ref h_t, .int a_p1] : List Value).toArray s 0 0 A) (F0 m 22 ls [])) : ∀ (x4 : Int32) (x6 : Int32) (z_thrown : Int32) (z_outSize : Int32) (z_out : Nat → Int32), vc_MD_single_111 a_p1 z_indexed z_suffixes z_row z_start z_rankOf z_same post K22 x4 x6 z_thrown z_outSize z_out → ∀ (H : Heap) (locs : List Loc) (ls : Array Slot), va_P (dC, dI) classes [(h_t, .inr (8, [.int z_thrown, .ref h_tape, .ref h_row, .ref h_out, .ref h_sought, .int z_size, .int z_outSize, .int z_soughtSize, .int z_documents, .int z_indexed, .int z_suffixes, .int z_rows, .ref h_start, .ref h_documentOf, .ref h_order, .ref h_rankOf, .ref h_same, .ref h_work, .ref h_next, .ref h_often, .ref h_has, .int z_lesser])), (h_row, .inl (cB, 16384, .inl z_row)), (h_out, .inl (cB, 16384, .inl z_out)), (h_start, .inl (cI, 66, .inl z_start)), (h_rankOf, .inl (cI, 16384, .inl z_rankOf)), (h_same, .inl (cI, 16385, .inl z_same))] H → va_D A [(h_t, .inr (8, [.int z_thrown, .ref h_tape, .ref h_row, .ref h_out, .ref h_sought, .int z_size, .int z_outSize, .int z_soughtSize, .int z_documents, .int z_indexed, .int z_suffixes, .int z_rows, .ref h_start, .ref h_documentOf, .ref h_order, .ref h_rankOf, .ref h_same, .ref h_work, .ref h_next, .ref h_often, .ref h_has, .int z_lesser])), (h_row, .inl (cB, 16384, .inl z_row)), (h_out, .inl (cB, 16384, .inl z_out)), (h_start, .inl (cI, 66, .inl z_start)), (h_rankOf, .inl (cI, 16384, .inl z_rankOf)), (h_same, .inl (cI, 16385, .inl z_same))] → va_S A s.heap H locs → lv_has ls 7 [(0, .ref h_t), (1, .int a_p1), (4, .int x4), (6, .int x6)] → W p l e rm_MD_single s m ([.ref h_t, .int a_p1] : List Value).toArray below meth c H locs 0 0 (MQ below (va_Qi (fun (r : Int32) (u : Int32 × Int32 × (Nat → Int32)) => post r u.1 u.2.1 u.2.2) (fun u t => cAft (dC, dI) classes (TYS cI cJ cB cZ) A [(h_t, .inr (8, [.int u.1, .ref h_tape, .ref h_row, .ref h_out, .ref h_sought, .int z_size, .int u.2.1, .int z_soughtSize, .int z_documents, .int z_indexed, .int z_suffixes, .int z_rows, .ref h_start, .ref h_documentOf, .ref h_order, .ref h_rankOf, .ref h_same, .ref h_work, .ref h_next, .ref h_often, .ref h_has, .int z_lesser])), (h_row, .inl (cB, 16384, .inl z_row)), (h_out, .inl (cB, 16384, .inl u.2.2)), (h_start, .inl (cI, 66, .inl z_start)), (h_rankOf, .inl (cI, 16384, .inl z_rankOf)), (h_same, .inl (cI, 16385, .inl z_same))] t) A) ([.ref h_t, .int a_p1] : List Value).toArray s 0 0 A) (F0 m 111 ls []) := by
  obtain ⟨hx, hb, hml, hown, hw⟩ := id F
  intro x4 x6 z_thrown z_outSize z_out hv H locs ls hP hD hS hl
  refine lv_iload hx hb d_MD_single_111 (lv_at hl 3 rfl) ?_
  refine lv_istore_n (lv' := [(2, .int x6), (0, .ref h_t), (1, .int a_p1), (4, .int x4), (6, .int x6)]) hx hb d_MD_single_113 rfl hl (by decide) rfl (fun ls hl => ?_)
  refine lv_iload hx hb d_MD_single_114 (lv_at hl 3 rfl) ?_
  refine lv_istore_n (lv' := [(3, .int x4), (2, .int x6), (0, .ref h_t), (1, .int a_p1), (4, .int x4), (6, .int x6)]) hx hb d_MD_single_116 rfl hl (by decide) rfl (fun ls hl => ?_)
  exact wk_MD_single_117 F hr hlk hK hA hK22 x6 x4 x4 z_thrown z_outSize z_out hv _ _ _ hP hD hS (lv_sub hl [2, 3, 1, 0, 4] rfl)

set_option maxHeartbeats 4000000 in
set_option maxRecDepth 100000 in
theorem wk_MD_single_76 {p : Program} {l : Launch} {e : Env} {s : State} {m : MethodId} {below : List Frame} {meth : Method} {c : Code} {A : Nat → Prop} {dC : Nat → ClassId} {dI : Nat → Nat → Nat} {cI cJ cB cZ : ClassId} {h_t : Nat} {h_tape : Nat} {h_row : Nat} {h_out : Nat} {h_sought : Nat} {h_start : Nat} {h_documentOf : Nat} {h_order : Nat} {h_rankOf : Nat} {h_same : Nat} {h_work : Nat} {h_next : Nat} {h_often : Nat} {h_has : Nat} {a_p1 : Int32} {z_indexed : Int32} {z_suffixes : Int32} {z_row : Nat → Int32} {z_start : Nat → Int32} {z_rankOf : Nat → Int32} {z_same : Nat → Int32} {z_size : Int32} {z_soughtSize : Int32} {z_documents : Int32} {z_rows : Int32} {z_lesser : Int32} {post : Int32 → Int32 → Int32 → (Nat → Int32) → Prop} {K22 : Int32 → Int32 → Int32 → Int32 → Int32 → (Nat → Int32) → Prop} (F : CallFix p m c b_MD_single 7 s ([.ref h_t, .int a_p1] : List Value).toArray WT "SuffixIndexModel") (hr : meth.sig.returnType = (some .int)) (hlk : meth.locks = false) (hK : va_K (dC, dI) classes (TYS cI cJ cB cZ) s) (hA : ∀ q, s.heap.size ≤ q → A q) (hK22 : ∀ (x2 : Int32) (x3 : Int32) (x4 : Int32) (z_thrown : Int32) (z_outSize : Int32) (z_out : Nat → Int32), K22 x2 x3 x4 z_thrown z_outSize z_out → ∀ (H : Heap) (locs : List Loc) (ls : Array Slot), va_P (dC, dI) classes [(h_t, .inr (8, [.int z_thrown, .ref h_tape, .ref h_row, .ref h_out, .ref h_sought, .int z_size, .int z_outSize, .int z_soughtSize, .int z_documents, .int z_indexed, .int z_suffixes, .int z_rows, .ref h_start, .ref h_documentOf, .ref h_order, .ref h_rankOf, .ref h_same, .ref h_work, .ref h_next, .ref h_often, .ref h_has, .int z_lesser])), (h_row, .inl (cB, 16384, .inl z_row)), (h_out, .inl (cB, 16384, .inl z_out)), (h_start, .inl (cI, 66, .inl z_start)), (h_rankOf, .inl (cI, 16384, .inl z_rankOf)), (h_same, .inl (cI, 16385, .inl z_same))] H → va_D A [(h_t, .inr (8, [.int z_thrown, .ref h_tape, .ref h_row, .ref h_out, .ref h_sought, .int z_size, .int z_outSize, .int z_soughtSize, .int z_documents, .int z_indexed, .int z_suffixes, .int z_rows, .ref h_start, .ref h_documentOf, .ref h_order, .ref h_rankOf, .ref h_same, .ref h_work, .ref h_next, .ref h_often, .ref h_has, .int z_lesser])), (h_row, .inl (cB, 16384, .inl z_row)), (h_out, .inl (cB, 16384, .inl z_out)), (h_start, .inl (cI, 66, .inl z_start)), (h_rankOf, .inl (cI, 16384, .inl z_rankOf)), (h_same, .inl (cI, 16385, .inl z_same))] → va_S A s.heap H locs → lv_has ls 7 [(0, .ref h_t), (1, .int a_p1), (2, .int x2), (3, .int x3), (4, .int x4)] → W p l e rm_MD_single s m ([.ref h_t, .int a_p1] : List Value).toArray below meth c H locs 0 0 (MQ below (va_Qi (fun (r : Int32) (u : Int32 × Int32 × (Nat → Int32)) => post r u.1 u.2.1 u.2.2) (fun u t => cAft (dC, dI) classes (TYS cI cJ cB cZ) A [(h_t, .inr (8, [.int u.1, .ref h_tape, .ref h_row, .ref h_out, .ref h_sought, .int z_size, .int u.2.1, .int z_soughtSize, .int z_documents, .int z_indexed, .int z_suffixes, .int z_rows, .ref h_start, .ref h_documentOf, .ref h_order, .ref h_rankOf, .ref h_same, .ref h_work, .ref h_next, .ref h_often, .ref h_has, .int z_lesser])), (h_row, .inl (cB, 16384, .inl z_row)), (h_out, .inl (cB, 16384, .inl u.2.2)), (h_start, .inl (cI, 66, .inl z_start)), (h_rankOf, .inl (cI, 16384, .inl z_rankOf)), (h_same, .inl (cI, 16385, .inl z_same))] t) A) ([.ref h_t, .int a_p1] : List Value).toArray s 0 0 A) (F0 m 22 ls [])) : ∀ (x2 : Int32) (x3 : Int32) (x4 : Int32) (k0 : Int32) (k1 : Int32) (k2 : Int32) (z_thrown : Int32) (z_outSize : Int32) (z_out : Nat → Int32), vc_MD_single_76 a_p1 z_indexed z_suffixes z_row z_start z_rankOf z_same post K22 x2 x3 x4 k0 k1 k2 z_thrown z_outSize z_out → ∀ (H : Heap) (locs : List Loc) (ls : Array Slot), va_P (dC, dI) classes [(h_t, .inr (8, [.int z_thrown, .ref h_tape, .ref h_row, .ref h_out, .ref h_sought, .int z_size, .int z_outSize, .int z_soughtSize, .int z_documents, .int z_indexed, .int z_suffixes, .int z_rows, .ref h_start, .ref h_documentOf, .ref h_order, .ref h_rankOf, .ref h_same, .ref h_work, .ref h_next, .ref h_often, .ref h_has, .int z_lesser])), (h_row, .inl (cB, 16384, .inl z_row)), (h_out, .inl (cB, 16384, .inl z_out)), (h_start, .inl (cI, 66, .inl z_start)), (h_rankOf, .inl (cI, 16384, .inl z_rankOf)), (h_same, .inl (cI, 16385, .inl z_same))] H → va_D A [(h_t, .inr (8, [.int z_thrown, .ref h_tape, .ref h_row, .ref h_out, .ref h_sought, .int z_size, .int z_outSize, .int z_soughtSize, .int z_documents, .int z_indexed, .int z_suffixes, .int z_rows, .ref h_start, .ref h_documentOf, .ref h_order, .ref h_rankOf, .ref h_same, .ref h_work, .ref h_next, .ref h_often, .ref h_has, .int z_lesser])), (h_row, .inl (cB, 16384, .inl z_row)), (h_out, .inl (cB, 16384, .inl z_out)), (h_start, .inl (cI, 66, .inl z_start)), (h_rankOf, .inl (cI, 16384, .inl z_rankOf)), (h_same, .inl (cI, 16385, .inl z_same))] → va_S A s.heap H locs → lv_has ls 7 [(0, .ref h_t), (1, .int a_p1), (2, .int x2), (3, .int x3), (4, .int x4)] → W p l e rm_MD_single s m ([.ref h_t, .int a_p1] : List Value).toArray below meth c H locs 0 0 (MQ below (va_Qi (fun (r : Int32) (u : Int32 × Int32 × (Nat → Int32)) => post r u.1 u.2.1 u.2.2) (fun u t => cAft (dC, dI) classes (TYS cI cJ cB cZ) A [(h_t, .inr (8, [.int u.1, .ref h_tape, .ref h_row, .ref h_out, .ref h_sought, .int z_size, .int u.2.1, .int z_soughtSize, .int z_documents, .int z_indexed, .int z_suffixes, .int z_rows, .ref h_start, .ref h_documentOf, .ref h_order, .ref h_rankOf, .ref h_same, .ref h_work, .ref h_next, .ref h_often, .ref h_has, .int z_lesser])), (h_row, .inl (cB, 16384, .inl z_row)), (h_out, .inl (cB, 16384, .inl u.2.2)), (h_start, .inl (cI, 66, .inl z_start)), (h_rankOf, .inl (cI, 16384, .inl z_rankOf)), (h_same, .inl (cI, 16385, .inl z_same))] t) A) ([.ref h_t, .int a_p1] : List Value).toArray s 0 0 A) (F0 m 76 ls [.int k2, .int k1, .int k0]) := by
  obtain ⟨hx, hb, hml, hown, hw⟩ := id F
  intro x2 x3 x4 k0 k1 k2 z_thrown z_outSize z_out hv H locs ls hP hD hS hl
  refine va_mmax hx hb (hml.trans hl.1.symm) hown (hw _ m_1250) (hw _ m_424) (hw _ m_22) (hw _ m_425) (by decide) (Nat.le_of_ble_eq_true rfl) (Nat.zero_le _) (Nat.zero_le _) d_MD_single_76 ?_
  refine lv_iadd hx hb d_MD_single_79 ?_
  refine lv_istore (lv' := [(6, .int (k0 + (if k1 < k2 then k2 else k1))), (0, .ref h_t), (1, .int a_p1), (2, .int x2), (3, .int x3), (4, .int x4)]) hx hb d_MD_single_80 hl (by decide) rfl (fun ls hl => ?_)
  refine lv_iload hx hb d_MD_single_82 (lv_at hl 5 rfl) ?_
  refine lv_iload hx hb d_MD_single_84 (lv_at hl 0 rfl) ?_
  refine lv_iadd hx hb d_MD_single_86 ?_
  refine lv_aload_n hx hb d_MD_single_87 rfl (lv_at hl 1 rfl) ?_
  refine va_get (D := (dC, dI)) (ci := 8) (v := .ref h_start) (C := "SuffixIndexModel") (T := F_MD) (N := 22) hx hb hw i_MD hown hK hP 0 rfl rfl 12 (by decide) (hw _ m_1113) (fun _ h9 => h9) rfl d_MD_single_88 ?_
  refine lv_iload_n hx hb d_MD_single_91 rfl (lv_at hl 2 rfl) ?_
  refine lv_iconst (v := 1) hx hb d_MD_single_92 (by decide) ?_
  refine lv_iadd hx hb d_MD_single_93 ?_
  obtain ⟨hin, hv⟩ := hv
  refine va_iald hx hb hK hP 3 0 rfl rfl hin d_MD_single_94 ?_
  obtain ⟨hvt, hvf⟩ := hv
  refine lv_icmp_gt (tgt := 117) hx hb d_MD_single_95 (by decide) (fun c1 => ?_) (fun c1 => ?_)
  · have hv := hvt c1
    exact wk_MD_single_117 F hr hlk hK hA hK22 x2 x3 x4 z_thrown z_outSize z_out hv _ _ _ hP hD hS (lv_sub hl [1, 2, 3, 4, 5] rfl)
  · have hv := hvf c1
    refine lv_iload_n hx hb d_MD_single_98 rfl (lv_at hl 3 rfl) ?_
    obtain ⟨hvt, hvf⟩ := hv
    refine lv_if_le (tgt := 111) hx hb d_MD_single_99 (by decide) (fun c2 => ?_) (fun c2 => ?_)
    · have hv := hvt c2
      exact wk_MD_single_111 F hr hlk hK hA hK22 x4 (k0 + (if k1 < k2 then k2 else k1)) z_thrown z_outSize z_out hv _ _ _ hP hD hS (lv_sub hl [1, 2, 5, 0] rfl)
    · have hv := hvf c2
      refine lv_iload hx hb d_MD_single_102 (lv_at hl 0 rfl) ?_
      refine lv_iload_n hx hb d_MD_single_104 rfl (lv_at hl 3 rfl) ?_
      obtain ⟨hvt, hvf⟩ := hv
      refine lv_icmp_lt (tgt := 111) hx hb d_MD_single_105 (by decide) (fun c3 => ?_) (fun c3 => ?_)
      · have hv := hvt c3
        exact wk_MD_single_111 F hr hlk hK hA hK22 x4 (k0 + (if k1 < k2 then k2 else k1)) z_thrown z_outSize z_out hv _ _ _ hP hD hS (lv_sub hl [1, 2, 5, 0] rfl)
      · have hv := hvf c3
        refine lv_goto (tgt := 117) hx hb d_MD_single_108 (by decide) ?_
        exact wk_MD_single_117 F hr hlk hK hA hK22 x2 x3 x4 z_thrown z_outSize z_out hv _ _ _ hP hD hS (lv_sub hl [1, 2, 3, 4, 5] rfl)

set_option maxHeartbeats 4000000 in
set_option maxRecDepth 100000 in
theorem wk_MD_single_22 {p : Program} {l : Launch} {e : Env} {s : State} {m : MethodId} {below : List Frame} {meth : Method} {c : Code} {A : Nat → Prop} {dC : Nat → ClassId} {dI : Nat → Nat → Nat} {cI cJ cB cZ : ClassId} {h_t : Nat} {h_tape : Nat} {h_row : Nat} {h_out : Nat} {h_sought : Nat} {h_start : Nat} {h_documentOf : Nat} {h_order : Nat} {h_rankOf : Nat} {h_same : Nat} {h_work : Nat} {h_next : Nat} {h_often : Nat} {h_has : Nat} {a_p1 : Int32} {z_indexed : Int32} {z_suffixes : Int32} {z_row : Nat → Int32} {z_start : Nat → Int32} {z_rankOf : Nat → Int32} {z_same : Nat → Int32} {z_size : Int32} {z_soughtSize : Int32} {z_documents : Int32} {z_rows : Int32} {z_lesser : Int32} {post : Int32 → Int32 → Int32 → (Nat → Int32) → Prop} (F : CallFix p m c b_MD_single 7 s ([.ref h_t, .int a_p1] : List Value).toArray WT "SuffixIndexModel") (hr : meth.sig.returnType = (some .int)) (hlk : meth.locks = false) (hK : va_K (dC, dI) classes (TYS cI cJ cB cZ) s) (hA : ∀ q, s.heap.size ≤ q → A q) : ∀ (k : Nat) (x2 : Int32) (x3 : Int32) (x4 : Int32) (z_thrown : Int32) (z_outSize : Int32) (z_out : Nat → Int32), vc_MD_single_22 a_p1 z_indexed z_suffixes z_row z_start z_rankOf z_same post k x2 x3 x4 z_thrown z_outSize z_out → ∀ (H : Heap) (locs : List Loc) (ls : Array Slot), va_P (dC, dI) classes [(h_t, .inr (8, [.int z_thrown, .ref h_tape, .ref h_row, .ref h_out, .ref h_sought, .int z_size, .int z_outSize, .int z_soughtSize, .int z_documents, .int z_indexed, .int z_suffixes, .int z_rows, .ref h_start, .ref h_documentOf, .ref h_order, .ref h_rankOf, .ref h_same, .ref h_work, .ref h_next, .ref h_often, .ref h_has, .int z_lesser])), (h_row, .inl (cB, 16384, .inl z_row)), (h_out, .inl (cB, 16384, .inl z_out)), (h_start, .inl (cI, 66, .inl z_start)), (h_rankOf, .inl (cI, 16384, .inl z_rankOf)), (h_same, .inl (cI, 16385, .inl z_same))] H → va_D A [(h_t, .inr (8, [.int z_thrown, .ref h_tape, .ref h_row, .ref h_out, .ref h_sought, .int z_size, .int z_outSize, .int z_soughtSize, .int z_documents, .int z_indexed, .int z_suffixes, .int z_rows, .ref h_start, .ref h_documentOf, .ref h_order, .ref h_rankOf, .ref h_same, .ref h_work, .ref h_next, .ref h_often, .ref h_has, .int z_lesser])), (h_row, .inl (cB, 16384, .inl z_row)), (h_out, .inl (cB, 16384, .inl z_out)), (h_start, .inl (cI, 66, .inl z_start)), (h_rankOf, .inl (cI, 16384, .inl z_rankOf)), (h_same, .inl (cI, 16385, .inl z_same))] → va_S A s.heap H locs → lv_has ls 7 [(0, .ref h_t), (1, .int a_p1), (2, .int x2), (3, .int x3), (4, .int x4)] → W p l e rm_MD_single s m ([.ref h_t, .int a_p1] : List Value).toArray below meth c H locs 0 0 (MQ below (va_Qi (fun (r : Int32) (u : Int32 × Int32 × (Nat → Int32)) => post r u.1 u.2.1 u.2.2) (fun u t => cAft (dC, dI) classes (TYS cI cJ cB cZ) A [(h_t, .inr (8, [.int u.1, .ref h_tape, .ref h_row, .ref h_out, .ref h_sought, .int z_size, .int u.2.1, .int z_soughtSize, .int z_documents, .int z_indexed, .int z_suffixes, .int z_rows, .ref h_start, .ref h_documentOf, .ref h_order, .ref h_rankOf, .ref h_same, .ref h_work, .ref h_next, .ref h_often, .ref h_has, .int z_lesser])), (h_row, .inl (cB, 16384, .inl z_row)), (h_out, .inl (cB, 16384, .inl u.2.2)), (h_start, .inl (cI, 66, .inl z_start)), (h_rankOf, .inl (cI, 16384, .inl z_rankOf)), (h_same, .inl (cI, 16385, .inl z_same))] t) A) ([.ref h_t, .int a_p1] : List Value).toArray s 0 0 A) (F0 m 22 ls []) := by
  obtain ⟨hx, hb, hml, hown, hw⟩ := id F
  intro k
  induction k with
  | zero =>
    intro x2 x3 x4 z_thrown z_outSize z_out hv
    exact False.elim hv
  | succ k ih =>
    intro x2 x3 x4 z_thrown z_outSize z_out hv H locs ls hP hD hS hl
    refine lv_iload hx hb d_MD_single_22 (lv_at hl 4 rfl) ?_
    refine lv_aload_n hx hb d_MD_single_24 rfl (lv_at hl 0 rfl) ?_
    refine va_get (D := (dC, dI)) (ci := 8) (v := .ref h_start) (C := "SuffixIndexModel") (T := F_MD) (N := 22) hx hb hw i_MD hown hK hP 0 rfl rfl 12 (by decide) (hw _ m_1113) (fun _ h9 => h9) rfl d_MD_single_25 ?_
    refine lv_iload_n hx hb d_MD_single_28 rfl (lv_at hl 1 rfl) ?_
    refine lv_iconst (v := 1) hx hb d_MD_single_29 (by decide) ?_
    refine lv_iadd hx hb d_MD_single_30 ?_
    obtain ⟨hin, hv⟩ := hv
    refine va_iald hx hb hK hP 3 0 rfl rfl hin d_MD_single_31 ?_
    obtain ⟨hvt, hvf⟩ := hv
    refine lv_icmp_ge (tgt := 123) hx hb d_MD_single_32 (by decide) (fun c4 => ?_) (fun c4 => ?_)
    · have hv := hvt c4
      refine lv_aload_n hx hb d_MD_single_123 rfl (lv_at hl 0 rfl) ?_
      refine lv_iload_n hx hb d_MD_single_124 rfl (lv_at hl 3 rfl) ?_
      refine lv_iload_n hx hb d_MD_single_125 rfl (lv_at hl 2 rfl) ?_
      refine cV_v (wr := [(h_start, .inl (cI, 66, .inl z_start)), (h_rankOf, .inl (cI, 16384, .inl z_rankOf)), (h_same, .inl (cI, 16385, .inl z_same))]) (rest := []) (c_MD_tell l dC dI cI cJ cB cZ h_t h_tape h_row h_out h_sought h_start h_documentOf h_order h_rankOf h_same h_work h_next h_often h_has H.size z_thrown z_size z_outSize z_soughtSize z_documents z_indexed z_suffixes z_rows z_lesser z_row z_out x3 x2 _ hv) F (cw_V (fun _ h => h) 2 hw m_1242 m_1244 ms_37 m_9 m_1245 rfl rfl (by decide +kernel) ⟨by decide, by decide⟩) hK hP hD hS hA [0, 1, 2] [3, 4, 5] rfl rfl rfl rfl (by decide) 0 8 rfl rfl rfl hl.1 rfl (Nat.le_of_ble_eq_true rfl) d_MD_single_126 ⟨Nat.le_of_ble_eq_true rfl, Nat.le_of_ble_eq_true rfl⟩ (fun u H locs hv hP hD hS => ?_)
      obtain ⟨u5_0, u5_1⟩ := u
      have hP : va_P (dC, dI) classes [(h_t, .inr (8, [.int z_thrown, .ref h_tape, .ref h_row, .ref h_out, .ref h_sought, .int z_size, .int u5_0, .int z_soughtSize, .int z_documents, .int z_indexed, .int z_suffixes, .int z_rows, .ref h_start, .ref h_documentOf, .ref h_order, .ref h_rankOf, .ref h_same, .ref h_work, .ref h_next, .ref h_often, .ref h_has, .int z_lesser])), (h_row, .inl (cB, 16384, .inl z_row)), (h_out, .inl (cB, 16384, .inl u5_1)), (h_start, .inl (cI, 66, .inl z_start)), (h_rankOf, .inl (cI, 16384, .inl z_rankOf)), (h_same, .inl (cI, 16385, .inl z_same))] H := P_sub hP [3, 4, 5, 0, 1, 2] rfl
      have hD : va_D A [(h_t, .inr (8, [.int z_thrown, .ref h_tape, .ref h_row, .ref h_out, .ref h_sought, .int z_size, .int u5_0, .int z_soughtSize, .int z_documents, .int z_indexed, .int z_suffixes, .int z_rows, .ref h_start, .ref h_documentOf, .ref h_order, .ref h_rankOf, .ref h_same, .ref h_work, .ref h_next, .ref h_often, .ref h_has, .int z_lesser])), (h_row, .inl (cB, 16384, .inl z_row)), (h_out, .inl (cB, 16384, .inl u5_1)), (h_start, .inl (cI, 66, .inl z_start)), (h_rankOf, .inl (cI, 16384, .inl z_rankOf)), (h_same, .inl (cI, 16385, .inl z_same))] := hD.sub [3, 4, 5, 0, 1, 2] rfl rfl
      refine lv_iload_n hx hb d_MD_single_129 rfl (lv_at hl 2 rfl) ?_
      exact W.iret (v := x2) hx hb hr (fun t ht hW => ⟨⟨x2, (z_thrown, u5_0, u5_1), rfl, hv, by rw [ht]; exact hP, va_K.moved hW.alike hK, hD⟩, hS.F ht⟩) hS.2.2 d_MD_single_130
    · have hv := hvf c4
      refine lv_aload_n hx hb d_MD_single_35 rfl (lv_at hl 0 rfl) ?_
      refine va_get (D := (dC, dI)) (ci := 8) (v := .ref h_rankOf) (C := "SuffixIndexModel") (T := F_MD) (N := 22) hx hb hw i_MD hown hK hP 0 rfl rfl 15 (by decide) (hw _ m_1116) (fun _ h9 => h9) rfl d_MD_single_36 ?_
      refine lv_iload hx hb d_MD_single_39 (lv_at hl 4 rfl) ?_
      obtain ⟨hin, hv⟩ := hv
      refine va_iald hx hb hK hP 4 0 rfl rfl hin d_MD_single_41 ?_
      refine lv_istore (lv' := [(5, .int (z_rankOf x4.toNatClampNeg)), (0, .ref h_t), (1, .int a_p1), (2, .int x2), (3, .int x3), (4, .int x4)]) hx hb d_MD_single_42 hl (by decide) rfl (fun ls hl => ?_)
      refine lv_iconst (v := 1) hx hb d_MD_single_44 (by decide) ?_
      refine lv_aload_n hx hb d_MD_single_45 rfl (lv_at hl 1 rfl) ?_
      refine va_get (D := (dC, dI)) (ci := 8) (v := .ref h_same) (C := "SuffixIndexModel") (T := F_MD) (N := 22) hx hb hw i_MD hown hK hP 0 rfl rfl 16 (by decide) (hw _ m_1117) (fun _ h9 => h9) rfl d_MD_single_46 ?_
      refine lv_iload hx hb d_MD_single_49 (lv_at hl 0 rfl) ?_
      obtain ⟨hin, hv⟩ := hv
      refine va_iald hx hb hK hP 5 0 rfl rfl hin d_MD_single_51 ?_
      refine lv_iload hx hb d_MD_single_52 (lv_at hl 0 rfl) ?_
      refine lv_iconst (v := 1) hx hb d_MD_single_54 (by decide) ?_
      refine lv_iadd hx hb d_MD_single_55 ?_
      refine lv_aload_n hx hb d_MD_single_56 rfl (lv_at hl 1 rfl) ?_
      refine va_get (D := (dC, dI)) (ci := 8) (v := .int z_suffixes) (C := "SuffixIndexModel") (T := F_MD) (N := 22) hx hb hw i_MD hown hK hP 0 rfl rfl 10 (by decide) (hw _ m_1111) (fun _ h9 => h9) rfl d_MD_single_57 ?_
      obtain ⟨hvt, hvf⟩ := hv
      refine lv_icmp_ge (tgt := 75) hx hb d_MD_single_60 (by decide) (fun c6 => ?_) (fun c6 => ?_)
      · have hv := hvt c6
        refine lv_iconst (v := 0) hx hb d_MD_single_75 (by decide) ?_
        exact wk_MD_single_76 F hr hlk hK hA ih x2 x3 x4 1 (z_same (z_rankOf x4.toNatClampNeg).toNatClampNeg) 0 z_thrown z_outSize z_out hv _ _ _ hP hD hS (lv_sub hl [1, 2, 3, 4, 5] rfl)
      · have hv := hvf c6
        refine lv_aload_n hx hb d_MD_single_63 rfl (lv_at hl 1 rfl) ?_
        refine va_get (D := (dC, dI)) (ci := 8) (v := .ref h_same) (C := "SuffixIndexModel") (T := F_MD) (N := 22) hx hb hw i_MD hown hK hP 0 rfl rfl 16 (by decide) (hw _ m_1117) (fun _ h9 => h9) rfl d_MD_single_64 ?_
        refine lv_iload hx hb d_MD_single_67 (lv_at hl 0 rfl) ?_
        refine lv_iconst (v := 1) hx hb d_MD_single_69 (by decide) ?_
        refine lv_iadd hx hb d_MD_single_70 ?_
        obtain ⟨hin, hv⟩ := hv
        refine va_iald hx hb hK hP 5 0 rfl rfl hin d_MD_single_71 ?_
        refine lv_goto (tgt := 76) hx hb d_MD_single_72 (by decide) ?_
        exact wk_MD_single_76 F hr hlk hK hA ih x2 x3 x4 1 (z_same (z_rankOf x4.toNatClampNeg).toNatClampNeg) (z_same ((z_rankOf x4.toNatClampNeg) + 1).toNatClampNeg) z_thrown z_outSize z_out hv _ _ _ hP hD hS (lv_sub hl [1, 2, 3, 4, 5] rfl)

set_option maxHeartbeats 4000000 in
set_option maxRecDepth 100000 in
theorem c_MD_single (l : Launch) (dC : Nat → ClassId) (dI : Nat → Nat → Nat) (cI cJ cB cZ : ClassId) (h_t : Nat) (h_tape : Nat) (h_row : Nat) (h_out : Nat) (h_sought : Nat) (h_start : Nat) (h_documentOf : Nat) (h_order : Nat) (h_rankOf : Nat) (h_same : Nat) (h_work : Nat) (h_next : Nat) (h_often : Nat) (h_has : Nat) (sz : Nat) (z_thrown : Int32) (z_size : Int32) (z_outSize : Int32) (z_soughtSize : Int32) (z_documents : Int32) (z_indexed : Int32) (z_suffixes : Int32) (z_rows : Int32) (z_lesser : Int32) (z_row : Nat → Int32) (z_out : Nat → Int32) (z_start : Nat → Int32) (z_rankOf : Nat → Int32) (z_same : Nat → Int32) (a_p1 : Int32) (post : Int32 → Int32 → Int32 → (Nat → Int32) → Prop) (hv : vc_MD_single a_p1 z_indexed z_suffixes z_row z_start z_rankOf z_same post z_thrown z_outSize z_out) : Met l y_MD_single (Cond.code y_MD_single b_MD_single 7 (some .int) :: WT) rm_MD_single (cPre (dC, dI) classes (TYS cI cJ cB cZ) [(h_t, .inr (8, [.int z_thrown, .ref h_tape, .ref h_row, .ref h_out, .ref h_sought, .int z_size, .int z_outSize, .int z_soughtSize, .int z_documents, .int z_indexed, .int z_suffixes, .int z_rows, .ref h_start, .ref h_documentOf, .ref h_order, .ref h_rankOf, .ref h_same, .ref h_work, .ref h_next, .ref h_often, .ref h_has, .int z_lesser])), (h_row, .inl (cB, 16384, .inl z_row)), (h_out, .inl (cB, 16384, .inl z_out)), (h_start, .inl (cI, 66, .inl z_start)), (h_rankOf, .inl (cI, 16384, .inl z_rankOf)), (h_same, .inl (cI, 16385, .inl z_same))] sz [.ref h_t, .int a_p1]) (va_Qi (fun (r : Int32) (u : Int32 × Int32 × (Nat → Int32)) => post r u.1 u.2.1 u.2.2) (fun u t => cAft (dC, dI) classes (TYS cI cJ cB cZ) (va_A [(h_t, .inr (8, [.int z_thrown, .ref h_tape, .ref h_row, .ref h_out, .ref h_sought, .int z_size, .int z_outSize, .int z_soughtSize, .int z_documents, .int z_indexed, .int z_suffixes, .int z_rows, .ref h_start, .ref h_documentOf, .ref h_order, .ref h_rankOf, .ref h_same, .ref h_work, .ref h_next, .ref h_often, .ref h_has, .int z_lesser])), (h_row, .inl (cB, 16384, .inl z_row)), (h_out, .inl (cB, 16384, .inl z_out)), (h_start, .inl (cI, 66, .inl z_start)), (h_rankOf, .inl (cI, 16384, .inl z_rankOf)), (h_same, .inl (cI, 16385, .inl z_same))] sz) [(h_t, .inr (8, [.int u.1, .ref h_tape, .ref h_row, .ref h_out, .ref h_sought, .int z_size, .int u.2.1, .int z_soughtSize, .int z_documents, .int z_indexed, .int z_suffixes, .int z_rows, .ref h_start, .ref h_documentOf, .ref h_order, .ref h_rankOf, .ref h_same, .ref h_work, .ref h_next, .ref h_often, .ref h_has, .int z_lesser])), (h_row, .inl (cB, 16384, .inl z_row)), (h_out, .inl (cB, 16384, .inl u.2.2)), (h_start, .inl (cI, 66, .inl z_start)), (h_rankOf, .inl (cI, 16384, .inl z_rankOf)), (h_same, .inl (cI, 16385, .inl z_same))] t) (va_A [(h_t, .inr (8, [.int z_thrown, .ref h_tape, .ref h_row, .ref h_out, .ref h_sought, .int z_size, .int z_outSize, .int z_soughtSize, .int z_documents, .int z_indexed, .int z_suffixes, .int z_rows, .ref h_start, .ref h_documentOf, .ref h_order, .ref h_rankOf, .ref h_same, .ref h_work, .ref h_next, .ref h_often, .ref h_has, .int z_lesser])), (h_row, .inl (cB, 16384, .inl z_row)), (h_out, .inl (cB, 16384, .inl z_out)), (h_start, .inl (cI, 66, .inl z_start)), (h_rankOf, .inl (cI, 16384, .inl z_rankOf)), (h_same, .inl (cI, 16385, .inl z_same))] sz)) 0 0 (va_A [(h_t, .inr (8, [.int z_thrown, .ref h_tape, .ref h_row, .ref h_out, .ref h_sought, .int z_size, .int z_outSize, .int z_soughtSize, .int z_documents, .int z_indexed, .int z_suffixes, .int z_rows, .ref h_start, .ref h_documentOf, .ref h_order, .ref h_rankOf, .ref h_same, .ref h_work, .ref h_next, .ref h_often, .ref h_has, .int z_lesser])), (h_row, .inl (cB, 16384, .inl z_row)), (h_out, .inl (cB, 16384, .inl z_out)), (h_start, .inl (cI, 66, .inl z_start)), (h_rankOf, .inl (cI, 16384, .inl z_rankOf)), (h_same, .inl (cI, 16385, .inl z_same))] sz) := by
  refine Met.ofW (cc := b_MD_single) (maxL := 7) (ret := (some .int)) (by decide) rfl ?_
  intro p e s m args below meth c s₁ B hml hq
  obtain ⟨rfl, hsz, hP, hK, hD0⟩ := hq
  have hts := atoms_spec (ws := Cond.code y_MD_single b_MD_single 7 (some .int) :: WT) B.pre
  have hw : ∀ w ∈ WT, w.before ([.ref h_t, .int a_p1] : List Value).toArray s = true := fun w h => hts w (List.mem_cons_of_mem _ h)
  have hx := B.exec
  have hb := B.bytes
  have hr := B.returns
  have hlk := B.notSynchronized
  have hown : s.vm.findClass "SuffixIndexModel" = some m.cls := findClass_of_methodNamed B.named
  have F : CallFix p m c b_MD_single 7 s ([.ref h_t, .int a_p1] : List Value).toArray WT "SuffixIndexModel" := ⟨hx, hb, hml, hown, hw⟩
  subst hsz
  have hD := hD0.self (sz := s.heap.size)
  generalize hAe : va_A [(h_t, .inr (8, [.int z_thrown, .ref h_tape, .ref h_row, .ref h_out, .ref h_sought, .int z_size, .int z_outSize, .int z_soughtSize, .int z_documents, .int z_indexed, .int z_suffixes, .int z_rows, .ref h_start, .ref h_documentOf, .ref h_order, .ref h_rankOf, .ref h_same, .ref h_work, .ref h_next, .ref h_often, .ref h_has, .int z_lesser])), (h_row, .inl (cB, 16384, .inl z_row)), (h_out, .inl (cB, 16384, .inl z_out)), (h_start, .inl (cI, 66, .inl z_start)), (h_rankOf, .inl (cI, 16384, .inl z_rankOf)), (h_same, .inl (cI, 16385, .inl z_same))] s.heap.size = A at hD ⊢
  have hA : ∀ q : Nat, s.heap.size ≤ q → A q := fun q h => by rw [← hAe]; exact Or.inr h
  have hS : va_S A s.heap s.heap [] := va_S.rf
  have hl := lv_entry ([.ref h_t, .int a_p1]) (n := 7) (Nat.le_of_ble_eq_true rfl)
  rw [lg_entry_eq]
  generalize (lg_sl ([.ref h_t, .int a_p1]) ++ List.replicate (7 - (lg_sl ([.ref h_t, .int a_p1])).length) Slot.unset).toArray = ls at hl ⊢
  have hl : lv_has ls 7 [(0, .ref h_t), (1, .int a_p1)] := hl
  show W p l e rm_MD_single s m _ below meth c s.heap [] 0 0 _ _
  have hP : va_P (dC, dI) classes [(h_t, .inr (8, [.int z_thrown, .ref h_tape, .ref h_row, .ref h_out, .ref h_sought, .int z_size, .int z_outSize, .int z_soughtSize, .int z_documents, .int z_indexed, .int z_suffixes, .int z_rows, .ref h_start, .ref h_documentOf, .ref h_order, .ref h_rankOf, .ref h_same, .ref h_work, .ref h_next, .ref h_often, .ref h_has, .int z_lesser])), (h_row, .inl (cB, 16384, .inl z_row)), (h_out, .inl (cB, 16384, .inl z_out)), (h_start, .inl (cI, 66, .inl z_start)), (h_rankOf, .inl (cI, 16384, .inl z_rankOf)), (h_same, .inl (cI, 16385, .inl z_same))] s.heap := hP
  obtain ⟨H, hHe⟩ : ∃ H, H = s.heap := ⟨_, rfl⟩
  have hS : va_S A s.heap H [] := by rw [hHe]; exact hS
  rw [← hHe] at hP
  suffices hgoal : W p l e rm_MD_single s m ([.ref h_t, .int a_p1] : List Value).toArray below meth c H [] 0 0 (MQ below (va_Qi (fun (r : Int32) (u : Int32 × Int32 × (Nat → Int32)) => post r u.1 u.2.1 u.2.2) (fun u t => cAft (dC, dI) classes (TYS cI cJ cB cZ) A [(h_t, .inr (8, [.int u.1, .ref h_tape, .ref h_row, .ref h_out, .ref h_sought, .int z_size, .int u.2.1, .int z_soughtSize, .int z_documents, .int z_indexed, .int z_suffixes, .int z_rows, .ref h_start, .ref h_documentOf, .ref h_order, .ref h_rankOf, .ref h_same, .ref h_work, .ref h_next, .ref h_often, .ref h_has, .int z_lesser])), (h_row, .inl (cB, 16384, .inl z_row)), (h_out, .inl (cB, 16384, .inl u.2.2)), (h_start, .inl (cI, 66, .inl z_start)), (h_rankOf, .inl (cI, 16384, .inl z_rankOf)), (h_same, .inl (cI, 16385, .inl z_same))] t) A) ([.ref h_t, .int a_p1] : List Value).toArray s 0 0 A) (F0 m 0 ls []) by rw [hHe] at hgoal; exact hgoal
  refine lv_aload_n hx hb d_MD_single_0 rfl (lv_at hl 0 rfl) ?_
  refine lv_iload_n hx hb d_MD_single_1 rfl (lv_at hl 1 rfl) ?_
  refine cV_i (wr := [(h_row, .inl (cB, 16384, .inl z_row)), (h_out, .inl (cB, 16384, .inl z_out)), (h_start, .inl (cI, 66, .inl z_start)), (h_rankOf, .inl (cI, 16384, .inl z_rankOf)), (h_same, .inl (cI, 16385, .inl z_same))]) (rest := []) (c_MD_noDocument l dC dI cI cJ cB cZ h_t h_tape h_row h_out h_sought h_start h_documentOf h_order h_rankOf h_same h_work h_next h_often h_has H.size z_thrown z_size z_outSize z_soughtSize z_documents z_indexed z_suffixes z_rows z_lesser a_p1 _ hv) F (cw_V (fun _ h => h) 1 hw m_1289 m_1291 ms_39 m_9 m_1292 rfl rfl (by decide +kernel) ⟨by decide, by decide⟩) hK hP hD hS hA [0] [1, 2, 3, 4, 5] rfl rfl rfl rfl (by decide) 0 8 rfl rfl rfl hl.1 rfl (Nat.le_of_ble_eq_true rfl) d_MD_single_2 ⟨Nat.le_of_ble_eq_true rfl, Nat.le_of_ble_eq_true rfl⟩ (fun r7 u H locs hv hP hD hS => ?_)
  obtain ⟨u7_0, rfl⟩ : ∃ z, z = u := ⟨_, rfl⟩
  have hP : va_P (dC, dI) classes [(h_t, .inr (8, [.int u7_0, .ref h_tape, .ref h_row, .ref h_out, .ref h_sought, .int z_size, .int z_outSize, .int z_soughtSize, .int z_documents, .int z_indexed, .int z_suffixes, .int z_rows, .ref h_start, .ref h_documentOf, .ref h_order, .ref h_rankOf, .ref h_same, .ref h_work, .ref h_next, .ref h_often, .ref h_has, .int z_lesser])), (h_row, .inl (cB, 16384, .inl z_row)), (h_out, .inl (cB, 16384, .inl z_out)), (h_start, .inl (cI, 66, .inl z_start)), (h_rankOf, .inl (cI, 16384, .inl z_rankOf)), (h_same, .inl (cI, 16385, .inl z_same))] H := P_sub hP [5, 0, 1, 2, 3, 4] rfl
  have hD : va_D A [(h_t, .inr (8, [.int u7_0, .ref h_tape, .ref h_row, .ref h_out, .ref h_sought, .int z_size, .int z_outSize, .int z_soughtSize, .int z_documents, .int z_indexed, .int z_suffixes, .int z_rows, .ref h_start, .ref h_documentOf, .ref h_order, .ref h_rankOf, .ref h_same, .ref h_work, .ref h_next, .ref h_often, .ref h_has, .int z_lesser])), (h_row, .inl (cB, 16384, .inl z_row)), (h_out, .inl (cB, 16384, .inl z_out)), (h_start, .inl (cI, 66, .inl z_start)), (h_rankOf, .inl (cI, 16384, .inl z_rankOf)), (h_same, .inl (cI, 16385, .inl z_same))] := hD.sub [5, 0, 1, 2, 3, 4] rfl rfl
  obtain ⟨hvt, hvf⟩ := hv
  refine lv_if_eq (tgt := 10) hx hb d_MD_single_5 (by decide) (fun c8 => ?_) (fun c8 => ?_)
  · have hv := hvt c8
    refine lv_iconst (v := 0) hx hb d_MD_single_10 (by decide) ?_
    refine lv_istore_n (lv' := [(2, .int 0), (0, .ref h_t), (1, .int a_p1)]) hx hb d_MD_single_11 rfl hl (by decide) rfl (fun ls hl => ?_)
    refine lv_iconst (v := 0) hx hb d_MD_single_12 (by decide) ?_
    refine lv_istore_n (lv' := [(3, .int 0), (2, .int 0), (0, .ref h_t), (1, .int a_p1)]) hx hb d_MD_single_13 rfl hl (by decide) rfl (fun ls hl => ?_)
    refine lv_aload_n hx hb d_MD_single_14 rfl (lv_at hl 2 rfl) ?_
    refine va_get (D := (dC, dI)) (ci := 8) (v := .ref h_start) (C := "SuffixIndexModel") (T := F_MD) (N := 22) hx hb hw i_MD hown hK hP 0 rfl rfl 12 (by decide) (hw _ m_1113) (fun _ h9 => h9) rfl d_MD_single_15 ?_
    refine lv_iload_n hx hb d_MD_single_18 rfl (lv_at hl 3 rfl) ?_
    obtain ⟨hin, hv⟩ := hv
    refine va_iald hx hb hK hP 3 0 rfl rfl hin d_MD_single_19 ?_
    refine lv_istore (lv' := [(4, .int (z_start a_p1.toNatClampNeg)), (3, .int 0), (2, .int 0), (0, .ref h_t), (1, .int a_p1)]) hx hb d_MD_single_20 hl (by decide) rfl (fun ls hl => ?_)
    obtain ⟨j, hv⟩ := hv
    exact wk_MD_single_22 F hr hlk hK hA j 0 0 (z_start a_p1.toNatClampNeg) u7_0 z_outSize z_out hv _ _ _ hP hD hS (lv_sub hl [3, 4, 2, 1, 0] rfl)
  · have hv := hvf c8
    refine lv_iconst (v := 0) hx hb d_MD_single_8 (by decide) ?_
    exact W.iret (v := 0) hx hb hr (fun t ht hW => ⟨⟨0, (u7_0, z_outSize, z_out), rfl, hv, by rw [ht]; exact hP, va_K.moved hW.alike hK, hD⟩, hS.F ht⟩) hS.2.2 d_MD_single_9

set_option maxHeartbeats 4000000 in
set_option maxRecDepth 100000 in
theorem wk_MD_phraseAt_53 {p : Program} {l : Launch} {e : Env} {s : State} {m : MethodId} {below : List Frame} {meth : Method} {c : Code} {A : Nat → Prop} {dC : Nat → ClassId} {dI : Nat → Nat → Nat} {cI cJ cB cZ : ClassId} {h_t : Nat} {h_tape : Nat} {h_row : Nat} {h_out : Nat} {h_sought : Nat} {h_start : Nat} {h_documentOf : Nat} {h_order : Nat} {h_rankOf : Nat} {h_same : Nat} {h_work : Nat} {h_next : Nat} {h_often : Nat} {h_has : Nat} {a_p1 : Int32} {a_p2 : Int32} {z_row : Nat → Int32} {z_start : Nat → Int32} {z_documentOf : Nat → Int32} {z_thrown : Int32} {z_size : Int32} {z_outSize : Int32} {z_soughtSize : Int32} {z_documents : Int32} {z_indexed : Int32} {z_suffixes : Int32} {z_rows : Int32} {post : Int32 → Int32 → Prop} {K15 : Int32 → Int32 → Int32 → Prop} (F : CallFix p m c b_MD_phraseAt 6 s ([.ref h_t, .int a_p1, .int a_p2] : List Value).toArray WT "SuffixIndexModel") (hr : meth.sig.returnType = (some .int)) (hlk : meth.locks = false) (hK : va_K (dC, dI) classes (TYS cI cJ cB cZ) s) (hA : ∀ q, s.heap.size ≤ q → A q) (hK15 : ∀ (x3 : Int32) (x4 : Int32) (z_lesser : Int32), K15 x3 x4 z_lesser → ∀ (H : Heap) (locs : List Loc) (ls : Array Slot), va_P (dC, dI) classes [(h_t, .inr (8, [.int z_thrown, .ref h_tape, .ref h_row, .ref h_out, .ref h_sought, .int z_size, .int z_outSize, .int z_soughtSize, .int z_documents, .int z_indexed, .int z_suffixes, .int z_rows, .ref h_start, .ref h_documentOf, .ref h_order, .ref h_rankOf, .ref h_same, .ref h_work, .ref h_next, .ref h_often, .ref h_has, .int z_lesser])), (h_row, .inl (cB, 16384, .inl z_row)), (h_start, .inl (cI, 66, .inl z_start)), (h_documentOf, .inl (cI, 16384, .inl z_documentOf))] H → va_D A [(h_t, .inr (8, [.int z_thrown, .ref h_tape, .ref h_row, .ref h_out, .ref h_sought, .int z_size, .int z_outSize, .int z_soughtSize, .int z_documents, .int z_indexed, .int z_suffixes, .int z_rows, .ref h_start, .ref h_documentOf, .ref h_order, .ref h_rankOf, .ref h_same, .ref h_work, .ref h_next, .ref h_often, .ref h_has, .int z_lesser])), (h_row, .inl (cB, 16384, .inl z_row)), (h_start, .inl (cI, 66, .inl z_start)), (h_documentOf, .inl (cI, 16384, .inl z_documentOf))] → va_S A s.heap H locs → lv_has ls 6 [(0, .ref h_t), (2, .int a_p2), (3, .int x3), (4, .int x4)] → W p l e rm_MD_phraseAt s m ([.ref h_t, .int a_p1, .int a_p2] : List Value).toArray below meth c H locs 0 0 (MQ below (va_Qi (fun (r : Int32) (u : Int32) => post r u) (fun u t => cAft (dC, dI) classes (TYS cI cJ cB cZ) A [(h_t, .inr (8, [.int z_thrown, .ref h_tape, .ref h_row, .ref h_out, .ref h_sought, .int z_size, .int z_outSize, .int z_soughtSize, .int z_documents, .int z_indexed, .int z_suffixes, .int z_rows, .ref h_start, .ref h_documentOf, .ref h_order, .ref h_rankOf, .ref h_same, .ref h_work, .ref h_next, .ref h_often, .ref h_has, .int u])), (h_row, .inl (cB, 16384, .inl z_row)), (h_start, .inl (cI, 66, .inl z_start)), (h_documentOf, .inl (cI, 16384, .inl z_documentOf))] t) A) ([.ref h_t, .int a_p1, .int a_p2] : List Value).toArray s 0 0 A) (F0 m 15 ls [])) : ∀ (x3 : Int32) (x4 : Int32) (z_lesser : Int32), vc_MD_phraseAt_53 a_p1 a_p2 z_row z_start z_documentOf post K15 x3 x4 z_lesser → ∀ (H : Heap) (locs : List Loc) (ls : Array Slot), va_P (dC, dI) classes [(h_t, .inr (8, [.int z_thrown, .ref h_tape, .ref h_row, .ref h_out, .ref h_sought, .int z_size, .int z_outSize, .int z_soughtSize, .int z_documents, .int z_indexed, .int z_suffixes, .int z_rows, .ref h_start, .ref h_documentOf, .ref h_order, .ref h_rankOf, .ref h_same, .ref h_work, .ref h_next, .ref h_often, .ref h_has, .int z_lesser])), (h_row, .inl (cB, 16384, .inl z_row)), (h_start, .inl (cI, 66, .inl z_start)), (h_documentOf, .inl (cI, 16384, .inl z_documentOf))] H → va_D A [(h_t, .inr (8, [.int z_thrown, .ref h_tape, .ref h_row, .ref h_out, .ref h_sought, .int z_size, .int z_outSize, .int z_soughtSize, .int z_documents, .int z_indexed, .int z_suffixes, .int z_rows, .ref h_start, .ref h_documentOf, .ref h_order, .ref h_rankOf, .ref h_same, .ref h_work, .ref h_next, .ref h_often, .ref h_has, .int z_lesser])), (h_row, .inl (cB, 16384, .inl z_row)), (h_start, .inl (cI, 66, .inl z_start)), (h_documentOf, .inl (cI, 16384, .inl z_documentOf))] → va_S A s.heap H locs → lv_has ls 6 [(0, .ref h_t), (2, .int a_p2), (3, .int x3), (4, .int x4)] → W p l e rm_MD_phraseAt s m ([.ref h_t, .int a_p1, .int a_p2] : List Value).toArray below meth c H locs 0 0 (MQ below (va_Qi (fun (r : Int32) (u : Int32) => post r u) (fun u t => cAft (dC, dI) classes (TYS cI cJ cB cZ) A [(h_t, .inr (8, [.int z_thrown, .ref h_tape, .ref h_row, .ref h_out, .ref h_sought, .int z_size, .int z_outSize, .int z_soughtSize, .int z_documents, .int z_indexed, .int z_suffixes, .int z_rows, .ref h_start, .ref h_documentOf, .ref h_order, .ref h_rankOf, .ref h_same, .ref h_work, .ref h_next, .ref h_often, .ref h_has, .int u])), (h_row, .inl (cB, 16384, .inl z_row)), (h_start, .inl (cI, 66, .inl z_start)), (h_documentOf, .inl (cI, 16384, .inl z_documentOf))] t) A) ([.ref h_t, .int a_p1, .int a_p2] : List Value).toArray s 0 0 A) (F0 m 53 ls []) := by
  obtain ⟨hx, hb, hml, hown, hw⟩ := id F
  intro x3 x4 z_lesser hv H locs ls hP hD hS hl
  refine lv_iinc (v := x4 + 1) (lv' := [(4, .int (x4 + 1)), (0, .ref h_t), (2, .int a_p2), (3, .int x3)]) hx hb d_MD_phraseAt_53 hl (k := 3) rfl (iinc_v (by decide)) (by decide) rfl (fun ls hl => ?_)
  refine lv_goto (tgt := 15) hx hb d_MD_phraseAt_56 (by decide) ?_
  exact hK15 x3 (x4 + 1) z_lesser hv _ _ _ hP hD hS (lv_sub hl [1, 2, 3, 0] rfl)

set_option maxHeartbeats 4000000 in
set_option maxRecDepth 100000 in
theorem wk_MD_phraseAt_15 {p : Program} {l : Launch} {e : Env} {s : State} {m : MethodId} {below : List Frame} {meth : Method} {c : Code} {A : Nat → Prop} {dC : Nat → ClassId} {dI : Nat → Nat → Nat} {cI cJ cB cZ : ClassId} {h_t : Nat} {h_tape : Nat} {h_row : Nat} {h_out : Nat} {h_sought : Nat} {h_start : Nat} {h_documentOf : Nat} {h_order : Nat} {h_rankOf : Nat} {h_same : Nat} {h_work : Nat} {h_next : Nat} {h_often : Nat} {h_has : Nat} {a_p1 : Int32} {a_p2 : Int32} {z_row : Nat → Int32} {z_start : Nat → Int32} {z_documentOf : Nat → Int32} {z_thrown : Int32} {z_size : Int32} {z_outSize : Int32} {z_soughtSize : Int32} {z_documents : Int32} {z_indexed : Int32} {z_suffixes : Int32} {z_rows : Int32} {post : Int32 → Int32 → Prop} (F : CallFix p m c b_MD_phraseAt 6 s ([.ref h_t, .int a_p1, .int a_p2] : List Value).toArray WT "SuffixIndexModel") (hr : meth.sig.returnType = (some .int)) (hlk : meth.locks = false) (hK : va_K (dC, dI) classes (TYS cI cJ cB cZ) s) (hA : ∀ q, s.heap.size ≤ q → A q) : ∀ (k : Nat) (x3 : Int32) (x4 : Int32) (z_lesser : Int32), vc_MD_phraseAt_15 a_p1 a_p2 z_row z_start z_documentOf post k x3 x4 z_lesser → ∀ (H : Heap) (locs : List Loc) (ls : Array Slot), va_P (dC, dI) classes [(h_t, .inr (8, [.int z_thrown, .ref h_tape, .ref h_row, .ref h_out, .ref h_sought, .int z_size, .int z_outSize, .int z_soughtSize, .int z_documents, .int z_indexed, .int z_suffixes, .int z_rows, .ref h_start, .ref h_documentOf, .ref h_order, .ref h_rankOf, .ref h_same, .ref h_work, .ref h_next, .ref h_often, .ref h_has, .int z_lesser])), (h_row, .inl (cB, 16384, .inl z_row)), (h_start, .inl (cI, 66, .inl z_start)), (h_documentOf, .inl (cI, 16384, .inl z_documentOf))] H → va_D A [(h_t, .inr (8, [.int z_thrown, .ref h_tape, .ref h_row, .ref h_out, .ref h_sought, .int z_size, .int z_outSize, .int z_soughtSize, .int z_documents, .int z_indexed, .int z_suffixes, .int z_rows, .ref h_start, .ref h_documentOf, .ref h_order, .ref h_rankOf, .ref h_same, .ref h_work, .ref h_next, .ref h_often, .ref h_has, .int z_lesser])), (h_row, .inl (cB, 16384, .inl z_row)), (h_start, .inl (cI, 66, .inl z_start)), (h_documentOf, .inl (cI, 16384, .inl z_documentOf))] → va_S A s.heap H locs → lv_has ls 6 [(0, .ref h_t), (2, .int a_p2), (3, .int x3), (4, .int x4)] → W p l e rm_MD_phraseAt s m ([.ref h_t, .int a_p1, .int a_p2] : List Value).toArray below meth c H locs 0 0 (MQ below (va_Qi (fun (r : Int32) (u : Int32) => post r u) (fun u t => cAft (dC, dI) classes (TYS cI cJ cB cZ) A [(h_t, .inr (8, [.int z_thrown, .ref h_tape, .ref h_row, .ref h_out, .ref h_sought, .int z_size, .int z_outSize, .int z_soughtSize, .int z_documents, .int z_indexed, .int z_suffixes, .int z_rows, .ref h_start, .ref h_documentOf, .ref h_order, .ref h_rankOf, .ref h_same, .ref h_work, .ref h_next, .ref h_often, .ref h_has, .int u])), (h_row, .inl (cB, 16384, .inl z_row)), (h_start, .inl (cI, 66, .inl z_start)), (h_documentOf, .inl (cI, 16384, .inl z_documentOf))] t) A) ([.ref h_t, .int a_p1, .int a_p2] : List Value).toArray s 0 0 A) (F0 m 15 ls []) := by
  obtain ⟨hx, hb, hml, hown, hw⟩ := id F
  intro k
  induction k with
  | zero =>
    intro x3 x4 z_lesser hv
    exact False.elim hv
  | succ k ih =>
    intro x3 x4 z_lesser hv H locs ls hP hD hS hl
    refine lv_iload hx hb d_MD_phraseAt_15 (lv_at hl 3 rfl) ?_
    refine lv_iload_n hx hb d_MD_phraseAt_17 rfl (lv_at hl 1 rfl) ?_
    obtain ⟨hvt, hvf⟩ := hv
    refine lv_icmp_ge (tgt := 59) hx hb d_MD_phraseAt_18 (by decide) (fun c1 => ?_) (fun c1 => ?_)
    · have hv := hvt c1
      refine lv_iconst (v := 1) hx hb d_MD_phraseAt_59 (by decide) ?_
      refine lv_iload_n hx hb d_MD_phraseAt_60 rfl (lv_at hl 2 rfl) ?_
      refine va_mmax hx hb (hml.trans hl.1.symm) hown (hw _ m_1250) (hw _ m_424) (hw _ m_22) (hw _ m_425) (by decide) (Nat.le_of_ble_eq_true rfl) (Nat.zero_le _) (Nat.zero_le _) d_MD_phraseAt_61 ?_
      exact W.iret (v := (if 1 < x3 then x3 else 1)) hx hb hr (fun t ht hW => ⟨⟨(if 1 < x3 then x3 else 1), z_lesser, rfl, hv, by rw [ht]; exact hP, va_K.moved hW.alike hK, hD⟩, hS.F ht⟩) hS.2.2 d_MD_phraseAt_64
    · have hv := hvf c1
      refine lv_aload_n hx hb d_MD_phraseAt_21 rfl (lv_at hl 0 rfl) ?_
      refine lv_iload hx hb d_MD_phraseAt_22 (lv_at hl 3 rfl) ?_
      refine lv_iload_n hx hb d_MD_phraseAt_24 rfl (lv_at hl 1 rfl) ?_
      refine cV_i (wr := []) (rest := []) (c_MD_alike l dC dI cI cJ cB cZ h_t h_tape h_row h_out h_sought h_start h_documentOf h_order h_rankOf h_same h_work h_next h_often h_has H.size z_thrown z_size z_outSize z_soughtSize z_documents z_indexed z_suffixes z_rows z_lesser z_row z_start z_documentOf x4 a_p2 _ hv) F (cw_V (fun _ h => h) 2 hw m_1213 m_1215 ms_34 m_9 m_1216 rfl rfl (by decide +kernel) ⟨by decide, by decide⟩) hK hP hD hS hA [0, 1, 2, 3] [] rfl rfl rfl rfl (by decide) 0 8 rfl rfl rfl hl.1 rfl (Nat.le_of_ble_eq_true rfl) d_MD_phraseAt_25 ⟨Nat.le_of_ble_eq_true rfl, Nat.le_of_ble_eq_true rfl⟩ (fun r2 u H locs hv hP hD hS => ?_)
      have hP : va_P (dC, dI) classes [(h_t, .inr (8, [.int z_thrown, .ref h_tape, .ref h_row, .ref h_out, .ref h_sought, .int z_size, .int z_outSize, .int z_soughtSize, .int z_documents, .int z_indexed, .int z_suffixes, .int z_rows, .ref h_start, .ref h_documentOf, .ref h_order, .ref h_rankOf, .ref h_same, .ref h_work, .ref h_next, .ref h_often, .ref h_has, .int z_lesser])), (h_row, .inl (cB, 16384, .inl z_row)), (h_start, .inl (cI, 66, .inl z_start)), (h_documentOf, .inl (cI, 16384, .inl z_documentOf))] H := P_sub hP [0, 1, 2, 3] rfl
      have hD : va_D A [(h_t, .inr (8, [.int z_thrown, .ref h_tape, .ref h_row, .ref h_out, .ref h_sought, .int z_size, .int z_outSize, .int z_soughtSize, .int z_documents, .int z_indexed, .int z_suffixes, .int z_rows, .ref h_start, .ref h_documentOf, .ref h_order, .ref h_rankOf, .ref h_same, .ref h_work, .ref h_next, .ref h_often, .ref h_has, .int z_lesser])), (h_row, .inl (cB, 16384, .inl z_row)), (h_start, .inl (cI, 66, .inl z_start)), (h_documentOf, .inl (cI, 16384, .inl z_documentOf))] := hD.sub [0, 1, 2, 3] rfl rfl
      refine lv_istore (lv' := [(5, .int r2), (0, .ref h_t), (2, .int a_p2), (3, .int x3), (4, .int x4)]) hx hb d_MD_phraseAt_28 hl (by decide) rfl (fun ls hl => ?_)
      refine lv_iload hx hb d_MD_phraseAt_30 (lv_at hl 0 rfl) ?_
      obtain ⟨hvt, hvf⟩ := hv
      refine lv_if_eq (tgt := 53) hx hb d_MD_phraseAt_32 (by decide) (fun c3 => ?_) (fun c3 => ?_)
      · have hv := hvt c3
        exact wk_MD_phraseAt_53 F hr hlk hK hA ih x3 x4 z_lesser hv _ _ _ hP hD hS (lv_sub hl [1, 2, 3, 4] rfl)
      · have hv := hvf c3
        refine lv_iload hx hb d_MD_phraseAt_35 (lv_at hl 0 rfl) ?_
        refine lv_iload_n hx hb d_MD_phraseAt_37 rfl (lv_at hl 3 rfl) ?_
        obtain ⟨hvt, hvf⟩ := hv
        refine lv_icmp_ge (tgt := 44) hx hb d_MD_phraseAt_38 (by decide) (fun c4 => ?_) (fun c4 => ?_)
        · have hv := hvt c4
          refine lv_iload hx hb d_MD_phraseAt_44 (lv_at hl 0 rfl) ?_
          refine lv_istore_n (lv' := [(3, .int r2), (5, .int r2), (0, .ref h_t), (2, .int a_p2), (4, .int x4)]) hx hb d_MD_phraseAt_46 rfl hl (by decide) rfl (fun ls hl => ?_)
          refine lv_aload_n hx hb d_MD_phraseAt_47 rfl (lv_at hl 2 rfl) ?_
          refine lv_iload hx hb d_MD_phraseAt_48 (lv_at hl 4 rfl) ?_
          refine va_put (D := (dC, dI)) (ci := 8) (v := .int x4) (ty := .int) (C := "SuffixIndexModel") (T := F_MD) (N := 22) hx hb hw i_MD t_MD t_MD_ok n_MD hown hK hP hD hS 0 rfl rfl 21 (by decide) (hw _ m_1122) (fun _ h9 => h9) rfl (by decide +kernel) rfl rfl (Nat.le_of_ble_eq_true rfl) d_MD_phraseAt_50 (fun H locs hP hD hS => ?_)
          have hP : va_P (dC, dI) classes [(h_t, .inr (8, [.int z_thrown, .ref h_tape, .ref h_row, .ref h_out, .ref h_sought, .int z_size, .int z_outSize, .int z_soughtSize, .int z_documents, .int z_indexed, .int z_suffixes, .int z_rows, .ref h_start, .ref h_documentOf, .ref h_order, .ref h_rankOf, .ref h_same, .ref h_work, .ref h_next, .ref h_often, .ref h_has, .int x4])), (h_row, .inl (cB, 16384, .inl z_row)), (h_start, .inl (cI, 66, .inl z_start)), (h_documentOf, .inl (cI, 16384, .inl z_documentOf))] H := hP
          have hD : va_D A [(h_t, .inr (8, [.int z_thrown, .ref h_tape, .ref h_row, .ref h_out, .ref h_sought, .int z_size, .int z_outSize, .int z_soughtSize, .int z_documents, .int z_indexed, .int z_suffixes, .int z_rows, .ref h_start, .ref h_documentOf, .ref h_order, .ref h_rankOf, .ref h_same, .ref h_work, .ref h_next, .ref h_often, .ref h_has, .int x4])), (h_row, .inl (cB, 16384, .inl z_row)), (h_start, .inl (cI, 66, .inl z_start)), (h_documentOf, .inl (cI, 16384, .inl z_documentOf))] := hD
          exact wk_MD_phraseAt_53 F hr hlk hK hA ih r2 x4 x4 hv _ _ _ hP hD hS (lv_sub hl [2, 3, 0, 4] rfl)
        · have hv := hvf c4
          refine lv_goto (tgt := 53) hx hb d_MD_phraseAt_41 (by decide) ?_
          exact wk_MD_phraseAt_53 F hr hlk hK hA ih x3 x4 z_lesser hv _ _ _ hP hD hS (lv_sub hl [1, 2, 3, 4] rfl)

set_option maxHeartbeats 4000000 in
set_option maxRecDepth 100000 in
theorem c_MD_phraseAt (l : Launch) (dC : Nat → ClassId) (dI : Nat → Nat → Nat) (cI cJ cB cZ : ClassId) (h_t : Nat) (h_tape : Nat) (h_row : Nat) (h_out : Nat) (h_sought : Nat) (h_start : Nat) (h_documentOf : Nat) (h_order : Nat) (h_rankOf : Nat) (h_same : Nat) (h_work : Nat) (h_next : Nat) (h_often : Nat) (h_has : Nat) (sz : Nat) (z_thrown : Int32) (z_size : Int32) (z_outSize : Int32) (z_soughtSize : Int32) (z_documents : Int32) (z_indexed : Int32) (z_suffixes : Int32) (z_rows : Int32) (z_lesser : Int32) (z_row : Nat → Int32) (z_start : Nat → Int32) (z_documentOf : Nat → Int32) (a_p1 : Int32) (a_p2 : Int32) (post : Int32 → Int32 → Prop) (hv : vc_MD_phraseAt a_p1 a_p2 z_row z_start z_documentOf post z_lesser) : Met l y_MD_phraseAt (Cond.code y_MD_phraseAt b_MD_phraseAt 6 (some .int) :: WT) rm_MD_phraseAt (cPre (dC, dI) classes (TYS cI cJ cB cZ) [(h_t, .inr (8, [.int z_thrown, .ref h_tape, .ref h_row, .ref h_out, .ref h_sought, .int z_size, .int z_outSize, .int z_soughtSize, .int z_documents, .int z_indexed, .int z_suffixes, .int z_rows, .ref h_start, .ref h_documentOf, .ref h_order, .ref h_rankOf, .ref h_same, .ref h_work, .ref h_next, .ref h_often, .ref h_has, .int z_lesser])), (h_row, .inl (cB, 16384, .inl z_row)), (h_start, .inl (cI, 66, .inl z_start)), (h_documentOf, .inl (cI, 16384, .inl z_documentOf))] sz [.ref h_t, .int a_p1, .int a_p2]) (va_Qi (fun (r : Int32) (u : Int32) => post r u) (fun u t => cAft (dC, dI) classes (TYS cI cJ cB cZ) (va_A [(h_t, .inr (8, [.int z_thrown, .ref h_tape, .ref h_row, .ref h_out, .ref h_sought, .int z_size, .int z_outSize, .int z_soughtSize, .int z_documents, .int z_indexed, .int z_suffixes, .int z_rows, .ref h_start, .ref h_documentOf, .ref h_order, .ref h_rankOf, .ref h_same, .ref h_work, .ref h_next, .ref h_often, .ref h_has, .int z_lesser])), (h_row, .inl (cB, 16384, .inl z_row)), (h_start, .inl (cI, 66, .inl z_start)), (h_documentOf, .inl (cI, 16384, .inl z_documentOf))] sz) [(h_t, .inr (8, [.int z_thrown, .ref h_tape, .ref h_row, .ref h_out, .ref h_sought, .int z_size, .int z_outSize, .int z_soughtSize, .int z_documents, .int z_indexed, .int z_suffixes, .int z_rows, .ref h_start, .ref h_documentOf, .ref h_order, .ref h_rankOf, .ref h_same, .ref h_work, .ref h_next, .ref h_often, .ref h_has, .int u])), (h_row, .inl (cB, 16384, .inl z_row)), (h_start, .inl (cI, 66, .inl z_start)), (h_documentOf, .inl (cI, 16384, .inl z_documentOf))] t) (va_A [(h_t, .inr (8, [.int z_thrown, .ref h_tape, .ref h_row, .ref h_out, .ref h_sought, .int z_size, .int z_outSize, .int z_soughtSize, .int z_documents, .int z_indexed, .int z_suffixes, .int z_rows, .ref h_start, .ref h_documentOf, .ref h_order, .ref h_rankOf, .ref h_same, .ref h_work, .ref h_next, .ref h_often, .ref h_has, .int z_lesser])), (h_row, .inl (cB, 16384, .inl z_row)), (h_start, .inl (cI, 66, .inl z_start)), (h_documentOf, .inl (cI, 16384, .inl z_documentOf))] sz)) 0 0 (va_A [(h_t, .inr (8, [.int z_thrown, .ref h_tape, .ref h_row, .ref h_out, .ref h_sought, .int z_size, .int z_outSize, .int z_soughtSize, .int z_documents, .int z_indexed, .int z_suffixes, .int z_rows, .ref h_start, .ref h_documentOf, .ref h_order, .ref h_rankOf, .ref h_same, .ref h_work, .ref h_next, .ref h_often, .ref h_has, .int z_lesser])), (h_row, .inl (cB, 16384, .inl z_row)), (h_start, .inl (cI, 66, .inl z_start)), (h_documentOf, .inl (cI, 16384, .inl z_documentOf))] sz) := by
  refine Met.ofW (cc := b_MD_phraseAt) (maxL := 6) (ret := (some .int)) (by decide) rfl ?_
  intro p e s m args below meth c s₁ B hml hq
  obtain ⟨rfl, hsz, hP, hK, hD0⟩ := hq
  have hts := atoms_spec (ws := Cond.code y_MD_phraseAt b_MD_phraseAt 6 (some .int) :: WT) B.pre
  have hw : ∀ w ∈ WT, w.before ([.ref h_t, .int a_p1, .int a_p2] : List Value).toArray s = true := fun w h => hts w (List.mem_cons_of_mem _ h)
  have hx := B.exec
  have hb := B.bytes
  have hr := B.returns
  have hlk := B.notSynchronized
  have hown : s.vm.findClass "SuffixIndexModel" = some m.cls := findClass_of_methodNamed B.named
  have F : CallFix p m c b_MD_phraseAt 6 s ([.ref h_t, .int a_p1, .int a_p2] : List Value).toArray WT "SuffixIndexModel" := ⟨hx, hb, hml, hown, hw⟩
  subst hsz
  have hD := hD0.self (sz := s.heap.size)
  generalize hAe : va_A [(h_t, .inr (8, [.int z_thrown, .ref h_tape, .ref h_row, .ref h_out, .ref h_sought, .int z_size, .int z_outSize, .int z_soughtSize, .int z_documents, .int z_indexed, .int z_suffixes, .int z_rows, .ref h_start, .ref h_documentOf, .ref h_order, .ref h_rankOf, .ref h_same, .ref h_work, .ref h_next, .ref h_often, .ref h_has, .int z_lesser])), (h_row, .inl (cB, 16384, .inl z_row)), (h_start, .inl (cI, 66, .inl z_start)), (h_documentOf, .inl (cI, 16384, .inl z_documentOf))] s.heap.size = A at hD ⊢
  have hA : ∀ q : Nat, s.heap.size ≤ q → A q := fun q h => by rw [← hAe]; exact Or.inr h
  have hS : va_S A s.heap s.heap [] := va_S.rf
  have hl := lv_entry ([.ref h_t, .int a_p1, .int a_p2]) (n := 6) (Nat.le_of_ble_eq_true rfl)
  rw [lg_entry_eq]
  generalize (lg_sl ([.ref h_t, .int a_p1, .int a_p2]) ++ List.replicate (6 - (lg_sl ([.ref h_t, .int a_p1, .int a_p2])).length) Slot.unset).toArray = ls at hl ⊢
  have hl : lv_has ls 6 [(0, .ref h_t), (1, .int a_p1), (2, .int a_p2)] := hl
  show W p l e rm_MD_phraseAt s m _ below meth c s.heap [] 0 0 _ _
  have hP : va_P (dC, dI) classes [(h_t, .inr (8, [.int z_thrown, .ref h_tape, .ref h_row, .ref h_out, .ref h_sought, .int z_size, .int z_outSize, .int z_soughtSize, .int z_documents, .int z_indexed, .int z_suffixes, .int z_rows, .ref h_start, .ref h_documentOf, .ref h_order, .ref h_rankOf, .ref h_same, .ref h_work, .ref h_next, .ref h_often, .ref h_has, .int z_lesser])), (h_row, .inl (cB, 16384, .inl z_row)), (h_start, .inl (cI, 66, .inl z_start)), (h_documentOf, .inl (cI, 16384, .inl z_documentOf))] s.heap := hP
  obtain ⟨H, hHe⟩ : ∃ H, H = s.heap := ⟨_, rfl⟩
  have hS : va_S A s.heap H [] := by rw [hHe]; exact hS
  rw [← hHe] at hP
  suffices hgoal : W p l e rm_MD_phraseAt s m ([.ref h_t, .int a_p1, .int a_p2] : List Value).toArray below meth c H [] 0 0 (MQ below (va_Qi (fun (r : Int32) (u : Int32) => post r u) (fun u t => cAft (dC, dI) classes (TYS cI cJ cB cZ) A [(h_t, .inr (8, [.int z_thrown, .ref h_tape, .ref h_row, .ref h_out, .ref h_sought, .int z_size, .int z_outSize, .int z_soughtSize, .int z_documents, .int z_indexed, .int z_suffixes, .int z_rows, .ref h_start, .ref h_documentOf, .ref h_order, .ref h_rankOf, .ref h_same, .ref h_work, .ref h_next, .ref h_often, .ref h_has, .int u])), (h_row, .inl (cB, 16384, .inl z_row)), (h_start, .inl (cI, 66, .inl z_start)), (h_documentOf, .inl (cI, 16384, .inl z_documentOf))] t) A) ([.ref h_t, .int a_p1, .int a_p2] : List Value).toArray s 0 0 A) (F0 m 0 ls []) by rw [hHe] at hgoal; exact hgoal
  refine lv_iconst (v := 0) hx hb d_MD_phraseAt_0 (by decide) ?_
  refine lv_istore_n (lv' := [(3, .int 0), (0, .ref h_t), (1, .int a_p1), (2, .int a_p2)]) hx hb d_MD_phraseAt_1 rfl hl (by decide) rfl (fun ls hl => ?_)
  refine lv_aload_n hx hb d_MD_phraseAt_2 rfl (lv_at hl 1 rfl) ?_
  refine lv_iconst (v := (-1)) hx hb d_MD_phraseAt_3 (by decide) ?_
  refine va_put (D := (dC, dI)) (ci := 8) (v := .int (-1)) (ty := .int) (C := "SuffixIndexModel") (T := F_MD) (N := 22) hx hb hw i_MD t_MD t_MD_ok n_MD hown hK hP hD hS 0 rfl rfl 21 (by decide) (hw _ m_1122) (fun _ h9 => h9) rfl (by decide +kernel) rfl rfl (Nat.le_of_ble_eq_true rfl) d_MD_phraseAt_4 (fun H locs hP hD hS => ?_)
  have hP : va_P (dC, dI) classes [(h_t, .inr (8, [.int z_thrown, .ref h_tape, .ref h_row, .ref h_out, .ref h_sought, .int z_size, .int z_outSize, .int z_soughtSize, .int z_documents, .int z_indexed, .int z_suffixes, .int z_rows, .ref h_start, .ref h_documentOf, .ref h_order, .ref h_rankOf, .ref h_same, .ref h_work, .ref h_next, .ref h_often, .ref h_has, .int (-1)])), (h_row, .inl (cB, 16384, .inl z_row)), (h_start, .inl (cI, 66, .inl z_start)), (h_documentOf, .inl (cI, 16384, .inl z_documentOf))] H := hP
  have hD : va_D A [(h_t, .inr (8, [.int z_thrown, .ref h_tape, .ref h_row, .ref h_out, .ref h_sought, .int z_size, .int z_outSize, .int z_soughtSize, .int z_documents, .int z_indexed, .int z_suffixes, .int z_rows, .ref h_start, .ref h_documentOf, .ref h_order, .ref h_rankOf, .ref h_same, .ref h_work, .ref h_next, .ref h_often, .ref h_has, .int (-1)])), (h_row, .inl (cB, 16384, .inl z_row)), (h_start, .inl (cI, 66, .inl z_start)), (h_documentOf, .inl (cI, 16384, .inl z_documentOf))] := hD
  refine lv_aload_n hx hb d_MD_phraseAt_7 rfl (lv_at hl 1 rfl) ?_
  refine va_get (D := (dC, dI)) (ci := 8) (v := .ref h_start) (C := "SuffixIndexModel") (T := F_MD) (N := 22) hx hb hw i_MD hown hK hP 0 rfl rfl 12 (by decide) (hw _ m_1113) (fun _ h9 => h9) rfl d_MD_phraseAt_8 ?_
  refine lv_iload_n hx hb d_MD_phraseAt_11 rfl (lv_at hl 2 rfl) ?_
  obtain ⟨hin, hv⟩ := hv
  refine va_iald hx hb hK hP 2 0 rfl rfl hin d_MD_phraseAt_12 ?_
  refine lv_istore (lv' := [(4, .int (z_start a_p1.toNatClampNeg)), (3, .int 0), (0, .ref h_t), (1, .int a_p1), (2, .int a_p2)]) hx hb d_MD_phraseAt_13 hl (by decide) rfl (fun ls hl => ?_)
  obtain ⟨j, hv⟩ := hv
  exact wk_MD_phraseAt_15 F hr hlk hK hA j 0 (z_start a_p1.toNatClampNeg) (-1) hv _ _ _ hP hD hS (lv_sub hl [2, 4, 1, 0] rfl)

set_option maxHeartbeats 4000000 in
set_option maxRecDepth 100000 in
theorem wk_MD_phrases_19 {p : Program} {l : Launch} {e : Env} {s : State} {m : MethodId} {below : List Frame} {meth : Method} {c : Code} {A : Nat → Prop} {dC : Nat → ClassId} {dI : Nat → Nat → Nat} {cI cJ cB cZ : ClassId} {h_t : Nat} {h_tape : Nat} {h_row : Nat} {h_out : Nat} {h_sought : Nat} {h_start : Nat} {h_documentOf : Nat} {h_order : Nat} {h_rankOf : Nat} {h_same : Nat} {h_work : Nat} {h_next : Nat} {h_often : Nat} {h_has : Nat} {a_p1 : Int32} {z_indexed : Int32} {z_row : Nat → Int32} {z_start : Nat → Int32} {z_documentOf : Nat → Int32} {z_size : Int32} {z_outSize : Int32} {z_soughtSize : Int32} {z_documents : Int32} {z_suffixes : Int32} {z_rows : Int32} {post : Int32 → Int32 → Int32 → Prop} (F : CallFix p m c b_MD_phrases 4 s ([.ref h_t, .int a_p1] : List Value).toArray WT "SuffixIndexModel") (hr : meth.sig.returnType = (some .int)) (hlk : meth.locks = false) (hK : va_K (dC, dI) classes (TYS cI cJ cB cZ) s) (hA : ∀ q, s.heap.size ≤ q → A q) : ∀ (k : Nat) (x2 : Int32) (x3 : Int32) (z_thrown : Int32) (z_lesser : Int32), vc_MD_phrases_19 a_p1 z_indexed z_row z_start z_documentOf post k x2 x3 z_thrown z_lesser → ∀ (H : Heap) (locs : List Loc) (ls : Array Slot), va_P (dC, dI) classes [(h_t, .inr (8, [.int z_thrown, .ref h_tape, .ref h_row, .ref h_out, .ref h_sought, .int z_size, .int z_outSize, .int z_soughtSize, .int z_documents, .int z_indexed, .int z_suffixes, .int z_rows, .ref h_start, .ref h_documentOf, .ref h_order, .ref h_rankOf, .ref h_same, .ref h_work, .ref h_next, .ref h_often, .ref h_has, .int z_lesser])), (h_row, .inl (cB, 16384, .inl z_row)), (h_start, .inl (cI, 66, .inl z_start)), (h_documentOf, .inl (cI, 16384, .inl z_documentOf))] H → va_D A [(h_t, .inr (8, [.int z_thrown, .ref h_tape, .ref h_row, .ref h_out, .ref h_sought, .int z_size, .int z_outSize, .int z_soughtSize, .int z_documents, .int z_indexed, .int z_suffixes, .int z_rows, .ref h_start, .ref h_documentOf, .ref h_order, .ref h_rankOf, .ref h_same, .ref h_work, .ref h_next, .ref h_often, .ref h_has, .int z_lesser])), (h_row, .inl (cB, 16384, .inl z_row)), (h_start, .inl (cI, 66, .inl z_start)), (h_documentOf, .inl (cI, 16384, .inl z_documentOf))] → va_S A s.heap H locs → lv_has ls 4 [(0, .ref h_t), (1, .int a_p1), (2, .int x2), (3, .int x3)] → W p l e rm_MD_phrases s m ([.ref h_t, .int a_p1] : List Value).toArray below meth c H locs 0 0 (MQ below (va_Qi (fun (r : Int32) (u : Int32 × Int32) => post r u.1 u.2) (fun u t => cAft (dC, dI) classes (TYS cI cJ cB cZ) A [(h_t, .inr (8, [.int u.1, .ref h_tape, .ref h_row, .ref h_out, .ref h_sought, .int z_size, .int z_outSize, .int z_soughtSize, .int z_documents, .int z_indexed, .int z_suffixes, .int z_rows, .ref h_start, .ref h_documentOf, .ref h_order, .ref h_rankOf, .ref h_same, .ref h_work, .ref h_next, .ref h_often, .ref h_has, .int u.2])), (h_row, .inl (cB, 16384, .inl z_row)), (h_start, .inl (cI, 66, .inl z_start)), (h_documentOf, .inl (cI, 16384, .inl z_documentOf))] t) A) ([.ref h_t, .int a_p1] : List Value).toArray s 0 0 A) (F0 m 19 ls []) := by
  obtain ⟨hx, hb, hml, hown, hw⟩ := id F
  intro k
  induction k with
  | zero =>
    intro x2 x3 z_thrown z_lesser hv
    exact False.elim hv
  | succ k ih =>
    intro x2 x3 z_thrown z_lesser hv H locs ls hP hD hS hl
    refine lv_iload_n hx hb d_MD_phrases_19 rfl (lv_at hl 3 rfl) ?_
    refine lv_aload_n hx hb d_MD_phrases_20 rfl (lv_at hl 0 rfl) ?_
    refine va_get (D := (dC, dI)) (ci := 8) (v := .ref h_start) (C := "SuffixIndexModel") (T := F_MD) (N := 22) hx hb hw i_MD hown hK hP 0 rfl rfl 12 (by decide) (hw _ m_1113) (fun _ h9 => h9) rfl d_MD_phrases_21 ?_
    refine lv_iload_n hx hb d_MD_phrases_24 rfl (lv_at hl 1 rfl) ?_
    refine lv_iconst (v := 1) hx hb d_MD_phrases_25 (by decide) ?_
    refine lv_iadd hx hb d_MD_phrases_26 ?_
    obtain ⟨hin, hv⟩ := hv
    refine va_iald hx hb hK hP 2 0 rfl rfl hin d_MD_phrases_27 ?_
    obtain ⟨hvt, hvf⟩ := hv
    refine lv_icmp_ge (tgt := 46) hx hb d_MD_phrases_28 (by decide) (fun c1 => ?_) (fun c1 => ?_)
    · have hv := hvt c1
      refine lv_iload_n hx hb d_MD_phrases_46 rfl (lv_at hl 2 rfl) ?_
      exact W.iret (v := x2) hx hb hr (fun t ht hW => ⟨⟨x2, (z_thrown, z_lesser), rfl, hv, by rw [ht]; exact hP, va_K.moved hW.alike hK, hD⟩, hS.F ht⟩) hS.2.2 d_MD_phrases_47
    · have hv := hvf c1
      refine lv_iinc (v := x2 + 1) (lv' := [(2, .int (x2 + 1)), (0, .ref h_t), (1, .int a_p1), (3, .int x3)]) hx hb d_MD_phrases_31 hl (k := 2) rfl (iinc_v (by decide)) (by decide) rfl (fun ls hl => ?_)
      refine lv_iload_n hx hb d_MD_phrases_34 rfl (lv_at hl 3 rfl) ?_
      refine lv_aload_n hx hb d_MD_phrases_35 rfl (lv_at hl 1 rfl) ?_
      refine lv_iload_n hx hb d_MD_phrases_36 rfl (lv_at hl 2 rfl) ?_
      refine lv_iload_n hx hb d_MD_phrases_37 rfl (lv_at hl 3 rfl) ?_
      refine cV_i (wr := []) (rest := [.int x3]) (c_MD_phraseAt l dC dI cI cJ cB cZ h_t h_tape h_row h_out h_sought h_start h_documentOf h_order h_rankOf h_same h_work h_next h_often h_has H.size z_thrown z_size z_outSize z_soughtSize z_documents z_indexed z_suffixes z_rows z_lesser z_row z_start z_documentOf a_p1 x3 _ hv) F (cw_V (fun _ h => h) 2 hw m_1297 m_1299 ms_40 m_9 m_1300 rfl rfl (by decide +kernel) ⟨by decide, by decide⟩) hK hP hD hS hA [0, 1, 2, 3] [] rfl rfl rfl rfl (by decide) 0 8 rfl rfl rfl hl.1 rfl (Nat.le_of_ble_eq_true rfl) d_MD_phrases_38 ⟨Nat.le_of_ble_eq_true rfl, Nat.le_of_ble_eq_true rfl⟩ (fun r2 u H locs hv hP hD hS => ?_)
      obtain ⟨u2_0, rfl⟩ : ∃ z, z = u := ⟨_, rfl⟩
      have hP : va_P (dC, dI) classes [(h_t, .inr (8, [.int z_thrown, .ref h_tape, .ref h_row, .ref h_out, .ref h_sought, .int z_size, .int z_outSize, .int z_soughtSize, .int z_documents, .int z_indexed, .int z_suffixes, .int z_rows, .ref h_start, .ref h_documentOf, .ref h_order, .ref h_rankOf, .ref h_same, .ref h_work, .ref h_next, .ref h_often, .ref h_has, .int u2_0])), (h_row, .inl (cB, 16384, .inl z_row)), (h_start, .inl (cI, 66, .inl z_start)), (h_documentOf, .inl (cI, 16384, .inl z_documentOf))] H := P_sub hP [0, 1, 2, 3] rfl
      have hD : va_D A [(h_t, .inr (8, [.int z_thrown, .ref h_tape, .ref h_row, .ref h_out, .ref h_sought, .int z_size, .int z_outSize, .int z_soughtSize, .int z_documents, .int z_indexed, .int z_suffixes, .int z_rows, .ref h_start, .ref h_documentOf, .ref h_order, .ref h_rankOf, .ref h_same, .ref h_work, .ref h_next, .ref h_often, .ref h_has, .int u2_0])), (h_row, .inl (cB, 16384, .inl z_row)), (h_start, .inl (cI, 66, .inl z_start)), (h_documentOf, .inl (cI, 16384, .inl z_documentOf))] := hD.sub [0, 1, 2, 3] rfl rfl
      refine lv_iadd hx hb d_MD_phrases_41 ?_
      refine lv_istore_n (lv' := [(3, .int (x3 + r2)), (2, .int (x2 + 1)), (0, .ref h_t), (1, .int a_p1)]) hx hb d_MD_phrases_42 rfl hl (by decide) rfl (fun ls hl => ?_)
      refine lv_goto (tgt := 19) hx hb d_MD_phrases_43 (by decide) ?_
      exact ih (x2 + 1) (x3 + r2) z_thrown u2_0 hv _ _ _ hP hD hS (lv_sub hl [2, 3, 1, 0] rfl)

set_option maxHeartbeats 4000000 in
set_option maxRecDepth 100000 in
theorem c_MD_phrases (l : Launch) (dC : Nat → ClassId) (dI : Nat → Nat → Nat) (cI cJ cB cZ : ClassId) (h_t : Nat) (h_tape : Nat) (h_row : Nat) (h_out : Nat) (h_sought : Nat) (h_start : Nat) (h_documentOf : Nat) (h_order : Nat) (h_rankOf : Nat) (h_same : Nat) (h_work : Nat) (h_next : Nat) (h_often : Nat) (h_has : Nat) (sz : Nat) (z_thrown : Int32) (z_size : Int32) (z_outSize : Int32) (z_soughtSize : Int32) (z_documents : Int32) (z_indexed : Int32) (z_suffixes : Int32) (z_rows : Int32) (z_lesser : Int32) (z_row : Nat → Int32) (z_start : Nat → Int32) (z_documentOf : Nat → Int32) (a_p1 : Int32) (post : Int32 → Int32 → Int32 → Prop) (hv : vc_MD_phrases a_p1 z_indexed z_row z_start z_documentOf post z_thrown z_lesser) : Met l y_MD_phrases (Cond.code y_MD_phrases b_MD_phrases 4 (some .int) :: WT) rm_MD_phrases (cPre (dC, dI) classes (TYS cI cJ cB cZ) [(h_t, .inr (8, [.int z_thrown, .ref h_tape, .ref h_row, .ref h_out, .ref h_sought, .int z_size, .int z_outSize, .int z_soughtSize, .int z_documents, .int z_indexed, .int z_suffixes, .int z_rows, .ref h_start, .ref h_documentOf, .ref h_order, .ref h_rankOf, .ref h_same, .ref h_work, .ref h_next, .ref h_often, .ref h_has, .int z_lesser])), (h_row, .inl (cB, 16384, .inl z_row)), (h_start, .inl (cI, 66, .inl z_start)), (h_documentOf, .inl (cI, 16384, .inl z_documentOf))] sz [.ref h_t, .int a_p1]) (va_Qi (fun (r : Int32) (u : Int32 × Int32) => post r u.1 u.2) (fun u t => cAft (dC, dI) classes (TYS cI cJ cB cZ) (va_A [(h_t, .inr (8, [.int z_thrown, .ref h_tape, .ref h_row, .ref h_out, .ref h_sought, .int z_size, .int z_outSize, .int z_soughtSize, .int z_documents, .int z_indexed, .int z_suffixes, .int z_rows, .ref h_start, .ref h_documentOf, .ref h_order, .ref h_rankOf, .ref h_same, .ref h_work, .ref h_next, .ref h_often, .ref h_has, .int z_lesser])), (h_row, .inl (cB, 16384, .inl z_row)), (h_start, .inl (cI, 66, .inl z_start)), (h_documentOf, .inl (cI, 16384, .inl z_documentOf))] sz) [(h_t, .inr (8, [.int u.1, .ref h_tape, .ref h_row, .ref h_out, .ref h_sought, .int z_size, .int z_outSize, .int z_soughtSize, .int z_documents, .int z_indexed, .int z_suffixes, .int z_rows, .ref h_start, .ref h_documentOf, .ref h_order, .ref h_rankOf, .ref h_same, .ref h_work, .ref h_next, .ref h_often, .ref h_has, .int u.2])), (h_row, .inl (cB, 16384, .inl z_row)), (h_start, .inl (cI, 66, .inl z_start)), (h_documentOf, .inl (cI, 16384, .inl z_documentOf))] t) (va_A [(h_t, .inr (8, [.int z_thrown, .ref h_tape, .ref h_row, .ref h_out, .ref h_sought, .int z_size, .int z_outSize, .int z_soughtSize, .int z_documents, .int z_indexed, .int z_suffixes, .int z_rows, .ref h_start, .ref h_documentOf, .ref h_order, .ref h_rankOf, .ref h_same, .ref h_work, .ref h_next, .ref h_often, .ref h_has, .int z_lesser])), (h_row, .inl (cB, 16384, .inl z_row)), (h_start, .inl (cI, 66, .inl z_start)), (h_documentOf, .inl (cI, 16384, .inl z_documentOf))] sz)) 0 0 (va_A [(h_t, .inr (8, [.int z_thrown, .ref h_tape, .ref h_row, .ref h_out, .ref h_sought, .int z_size, .int z_outSize, .int z_soughtSize, .int z_documents, .int z_indexed, .int z_suffixes, .int z_rows, .ref h_start, .ref h_documentOf, .ref h_order, .ref h_rankOf, .ref h_same, .ref h_work, .ref h_next, .ref h_often, .ref h_has, .int z_lesser])), (h_row, .inl (cB, 16384, .inl z_row)), (h_start, .inl (cI, 66, .inl z_start)), (h_documentOf, .inl (cI, 16384, .inl z_documentOf))] sz) := by
  refine Met.ofW (cc := b_MD_phrases) (maxL := 4) (ret := (some .int)) (by decide) rfl ?_
  intro p e s m args below meth c s₁ B hml hq
  obtain ⟨rfl, hsz, hP, hK, hD0⟩ := hq
  have hts := atoms_spec (ws := Cond.code y_MD_phrases b_MD_phrases 4 (some .int) :: WT) B.pre
  have hw : ∀ w ∈ WT, w.before ([.ref h_t, .int a_p1] : List Value).toArray s = true := fun w h => hts w (List.mem_cons_of_mem _ h)
  have hx := B.exec
  have hb := B.bytes
  have hr := B.returns
  have hlk := B.notSynchronized
  have hown : s.vm.findClass "SuffixIndexModel" = some m.cls := findClass_of_methodNamed B.named
  have F : CallFix p m c b_MD_phrases 4 s ([.ref h_t, .int a_p1] : List Value).toArray WT "SuffixIndexModel" := ⟨hx, hb, hml, hown, hw⟩
  subst hsz
  have hD := hD0.self (sz := s.heap.size)
  generalize hAe : va_A [(h_t, .inr (8, [.int z_thrown, .ref h_tape, .ref h_row, .ref h_out, .ref h_sought, .int z_size, .int z_outSize, .int z_soughtSize, .int z_documents, .int z_indexed, .int z_suffixes, .int z_rows, .ref h_start, .ref h_documentOf, .ref h_order, .ref h_rankOf, .ref h_same, .ref h_work, .ref h_next, .ref h_often, .ref h_has, .int z_lesser])), (h_row, .inl (cB, 16384, .inl z_row)), (h_start, .inl (cI, 66, .inl z_start)), (h_documentOf, .inl (cI, 16384, .inl z_documentOf))] s.heap.size = A at hD ⊢
  have hA : ∀ q : Nat, s.heap.size ≤ q → A q := fun q h => by rw [← hAe]; exact Or.inr h
  have hS : va_S A s.heap s.heap [] := va_S.rf
  have hl := lv_entry ([.ref h_t, .int a_p1]) (n := 4) (Nat.le_of_ble_eq_true rfl)
  rw [lg_entry_eq]
  generalize (lg_sl ([.ref h_t, .int a_p1]) ++ List.replicate (4 - (lg_sl ([.ref h_t, .int a_p1])).length) Slot.unset).toArray = ls at hl ⊢
  have hl : lv_has ls 4 [(0, .ref h_t), (1, .int a_p1)] := hl
  show W p l e rm_MD_phrases s m _ below meth c s.heap [] 0 0 _ _
  have hP : va_P (dC, dI) classes [(h_t, .inr (8, [.int z_thrown, .ref h_tape, .ref h_row, .ref h_out, .ref h_sought, .int z_size, .int z_outSize, .int z_soughtSize, .int z_documents, .int z_indexed, .int z_suffixes, .int z_rows, .ref h_start, .ref h_documentOf, .ref h_order, .ref h_rankOf, .ref h_same, .ref h_work, .ref h_next, .ref h_often, .ref h_has, .int z_lesser])), (h_row, .inl (cB, 16384, .inl z_row)), (h_start, .inl (cI, 66, .inl z_start)), (h_documentOf, .inl (cI, 16384, .inl z_documentOf))] s.heap := hP
  obtain ⟨H, hHe⟩ : ∃ H, H = s.heap := ⟨_, rfl⟩
  have hS : va_S A s.heap H [] := by rw [hHe]; exact hS
  rw [← hHe] at hP
  suffices hgoal : W p l e rm_MD_phrases s m ([.ref h_t, .int a_p1] : List Value).toArray below meth c H [] 0 0 (MQ below (va_Qi (fun (r : Int32) (u : Int32 × Int32) => post r u.1 u.2) (fun u t => cAft (dC, dI) classes (TYS cI cJ cB cZ) A [(h_t, .inr (8, [.int u.1, .ref h_tape, .ref h_row, .ref h_out, .ref h_sought, .int z_size, .int z_outSize, .int z_soughtSize, .int z_documents, .int z_indexed, .int z_suffixes, .int z_rows, .ref h_start, .ref h_documentOf, .ref h_order, .ref h_rankOf, .ref h_same, .ref h_work, .ref h_next, .ref h_often, .ref h_has, .int u.2])), (h_row, .inl (cB, 16384, .inl z_row)), (h_start, .inl (cI, 66, .inl z_start)), (h_documentOf, .inl (cI, 16384, .inl z_documentOf))] t) A) ([.ref h_t, .int a_p1] : List Value).toArray s 0 0 A) (F0 m 0 ls []) by rw [hHe] at hgoal; exact hgoal
  refine lv_aload_n hx hb d_MD_phrases_0 rfl (lv_at hl 0 rfl) ?_
  refine lv_iload_n hx hb d_MD_phrases_1 rfl (lv_at hl 1 rfl) ?_
  refine cV_i (wr := [(h_row, .inl (cB, 16384, .inl z_row)), (h_start, .inl (cI, 66, .inl z_start)), (h_documentOf, .inl (cI, 16384, .inl z_documentOf))]) (rest := []) (c_MD_noDocument l dC dI cI cJ cB cZ h_t h_tape h_row h_out h_sought h_start h_documentOf h_order h_rankOf h_same h_work h_next h_often h_has H.size z_thrown z_size z_outSize z_soughtSize z_documents z_indexed z_suffixes z_rows z_lesser a_p1 _ hv) F (cw_V (fun _ h => h) 1 hw m_1289 m_1291 ms_39 m_9 m_1292 rfl rfl (by decide +kernel) ⟨by decide, by decide⟩) hK hP hD hS hA [0] [1, 2, 3] rfl rfl rfl rfl (by decide) 0 8 rfl rfl rfl hl.1 rfl (Nat.le_of_ble_eq_true rfl) d_MD_phrases_2 ⟨Nat.le_of_ble_eq_true rfl, Nat.le_of_ble_eq_true rfl⟩ (fun r3 u H locs hv hP hD hS => ?_)
  obtain ⟨u3_0, rfl⟩ : ∃ z, z = u := ⟨_, rfl⟩
  have hP : va_P (dC, dI) classes [(h_t, .inr (8, [.int u3_0, .ref h_tape, .ref h_row, .ref h_out, .ref h_sought, .int z_size, .int z_outSize, .int z_soughtSize, .int z_documents, .int z_indexed, .int z_suffixes, .int z_rows, .ref h_start, .ref h_documentOf, .ref h_order, .ref h_rankOf, .ref h_same, .ref h_work, .ref h_next, .ref h_often, .ref h_has, .int z_lesser])), (h_row, .inl (cB, 16384, .inl z_row)), (h_start, .inl (cI, 66, .inl z_start)), (h_documentOf, .inl (cI, 16384, .inl z_documentOf))] H := P_sub hP [3, 0, 1, 2] rfl
  have hD : va_D A [(h_t, .inr (8, [.int u3_0, .ref h_tape, .ref h_row, .ref h_out, .ref h_sought, .int z_size, .int z_outSize, .int z_soughtSize, .int z_documents, .int z_indexed, .int z_suffixes, .int z_rows, .ref h_start, .ref h_documentOf, .ref h_order, .ref h_rankOf, .ref h_same, .ref h_work, .ref h_next, .ref h_often, .ref h_has, .int z_lesser])), (h_row, .inl (cB, 16384, .inl z_row)), (h_start, .inl (cI, 66, .inl z_start)), (h_documentOf, .inl (cI, 16384, .inl z_documentOf))] := hD.sub [3, 0, 1, 2] rfl rfl
  obtain ⟨hvt, hvf⟩ := hv
  refine lv_if_eq (tgt := 10) hx hb d_MD_phrases_5 (by decide) (fun c4 => ?_) (fun c4 => ?_)
  · have hv := hvt c4
    refine lv_iconst (v := 0) hx hb d_MD_phrases_10 (by decide) ?_
    refine lv_istore_n (lv' := [(2, .int 0), (0, .ref h_t), (1, .int a_p1)]) hx hb d_MD_phrases_11 rfl hl (by decide) rfl (fun ls hl => ?_)
    refine lv_aload_n hx hb d_MD_phrases_12 rfl (lv_at hl 1 rfl) ?_
    refine va_get (D := (dC, dI)) (ci := 8) (v := .ref h_start) (C := "SuffixIndexModel") (T := F_MD) (N := 22) hx hb hw i_MD hown hK hP 0 rfl rfl 12 (by decide) (hw _ m_1113) (fun _ h9 => h9) rfl d_MD_phrases_13 ?_
    refine lv_iload_n hx hb d_MD_phrases_16 rfl (lv_at hl 2 rfl) ?_
    obtain ⟨hin, hv⟩ := hv
    refine va_iald hx hb hK hP 2 0 rfl rfl hin d_MD_phrases_17 ?_
    refine lv_istore_n (lv' := [(3, .int (z_start a_p1.toNatClampNeg)), (2, .int 0), (0, .ref h_t), (1, .int a_p1)]) hx hb d_MD_phrases_18 rfl hl (by decide) rfl (fun ls hl => ?_)
    obtain ⟨j, hv⟩ := hv
    exact wk_MD_phrases_19 F hr hlk hK hA j 0 (z_start a_p1.toNatClampNeg) u3_0 z_lesser hv _ _ _ hP hD hS (lv_sub hl [2, 3, 1, 0] rfl)
  · have hv := hvf c4
    refine lv_iconst (v := 0) hx hb d_MD_phrases_8 (by decide) ?_
    exact W.iret (v := 0) hx hb hr (fun t ht hW => ⟨⟨0, (u3_0, z_lesser), rfl, hv, by rw [ht]; exact hP, va_K.moved hW.alike hK, hD⟩, hS.F ht⟩) hS.2.2 d_MD_phrases_9

set_option maxHeartbeats 4000000 in
set_option maxRecDepth 100000 in
theorem wk_MD_phrase_37 {p : Program} {l : Launch} {e : Env} {s : State} {m : MethodId} {below : List Frame} {meth : Method} {c : Code} {A : Nat → Prop} {dC : Nat → ClassId} {dI : Nat → Nat → Nat} {cI cJ cB cZ : ClassId} {h_t : Nat} {h_tape : Nat} {h_row : Nat} {h_out : Nat} {h_sought : Nat} {h_start : Nat} {h_documentOf : Nat} {h_order : Nat} {h_rankOf : Nat} {h_same : Nat} {h_work : Nat} {h_next : Nat} {h_often : Nat} {h_has : Nat} {a_p1 : Int32} {a_p2 : Int32} {z_indexed : Int32} {z_row : Nat → Int32} {z_start : Nat → Int32} {z_documentOf : Nat → Int32} {z_size : Int32} {z_outSize : Int32} {z_soughtSize : Int32} {z_documents : Int32} {z_suffixes : Int32} {z_rows : Int32} {post : Int64 → Int32 → Int32 → Prop} (F : CallFix p m c b_MD_phrase 6 s ([.ref h_t, .int a_p1, .int a_p2] : List Value).toArray WT "SuffixIndexModel") (hr : meth.sig.returnType = (some .long)) (hlk : meth.locks = false) (hK : va_K (dC, dI) classes (TYS cI cJ cB cZ) s) (hA : ∀ q, s.heap.size ≤ q → A q) : ∀ (k : Nat) (x3 : Int32) (x4 : Int32) (z_thrown : Int32) (z_lesser : Int32), vc_MD_phrase_37 a_p1 a_p2 z_indexed z_row z_start z_documentOf post k x3 x4 z_thrown z_lesser → ∀ (H : Heap) (locs : List Loc) (ls : Array Slot), va_P (dC, dI) classes [(h_t, .inr (8, [.int z_thrown, .ref h_tape, .ref h_row, .ref h_out, .ref h_sought, .int z_size, .int z_outSize, .int z_soughtSize, .int z_documents, .int z_indexed, .int z_suffixes, .int z_rows, .ref h_start, .ref h_documentOf, .ref h_order, .ref h_rankOf, .ref h_same, .ref h_work, .ref h_next, .ref h_often, .ref h_has, .int z_lesser])), (h_row, .inl (cB, 16384, .inl z_row)), (h_start, .inl (cI, 66, .inl z_start)), (h_documentOf, .inl (cI, 16384, .inl z_documentOf))] H → va_D A [(h_t, .inr (8, [.int z_thrown, .ref h_tape, .ref h_row, .ref h_out, .ref h_sought, .int z_size, .int z_outSize, .int z_soughtSize, .int z_documents, .int z_indexed, .int z_suffixes, .int z_rows, .ref h_start, .ref h_documentOf, .ref h_order, .ref h_rankOf, .ref h_same, .ref h_work, .ref h_next, .ref h_often, .ref h_has, .int z_lesser])), (h_row, .inl (cB, 16384, .inl z_row)), (h_start, .inl (cI, 66, .inl z_start)), (h_documentOf, .inl (cI, 16384, .inl z_documentOf))] → va_S A s.heap H locs → lv_has ls 6 [(0, .ref h_t), (1, .int a_p1), (2, .int a_p2), (3, .int x3), (4, .int x4)] → W p l e rm_MD_phrase s m ([.ref h_t, .int a_p1, .int a_p2] : List Value).toArray below meth c H locs 0 0 (MQ below (va_Ql (fun (r : Int64) (u : Int32 × Int32) => post r u.1 u.2) (fun u t => cAft (dC, dI) classes (TYS cI cJ cB cZ) A [(h_t, .inr (8, [.int u.1, .ref h_tape, .ref h_row, .ref h_out, .ref h_sought, .int z_size, .int z_outSize, .int z_soughtSize, .int z_documents, .int z_indexed, .int z_suffixes, .int z_rows, .ref h_start, .ref h_documentOf, .ref h_order, .ref h_rankOf, .ref h_same, .ref h_work, .ref h_next, .ref h_often, .ref h_has, .int u.2])), (h_row, .inl (cB, 16384, .inl z_row)), (h_start, .inl (cI, 66, .inl z_start)), (h_documentOf, .inl (cI, 16384, .inl z_documentOf))] t) A) ([.ref h_t, .int a_p1, .int a_p2] : List Value).toArray s 0 0 A) (F0 m 37 ls []) := by
  obtain ⟨hx, hb, hml, hown, hw⟩ := id F
  intro k
  induction k with
  | zero =>
    intro x3 x4 z_thrown z_lesser hv
    exact False.elim hv
  | succ k ih =>
    intro x3 x4 z_thrown z_lesser hv H locs ls hP hD hS hl
    refine lv_iload hx hb d_MD_phrase_37 (lv_at hl 4 rfl) ?_
    refine lv_aload_n hx hb d_MD_phrase_39 rfl (lv_at hl 0 rfl) ?_
    refine va_get (D := (dC, dI)) (ci := 8) (v := .ref h_start) (C := "SuffixIndexModel") (T := F_MD) (N := 22) hx hb hw i_MD hown hK hP 0 rfl rfl 12 (by decide) (hw _ m_1113) (fun _ h9 => h9) rfl d_MD_phrase_40 ?_
    refine lv_iload_n hx hb d_MD_phrase_43 rfl (lv_at hl 1 rfl) ?_
    refine lv_iconst (v := 1) hx hb d_MD_phrase_44 (by decide) ?_
    refine lv_iadd hx hb d_MD_phrase_45 ?_
    obtain ⟨hin, hv⟩ := hv
    refine va_iald hx hb hK hP 2 0 rfl rfl hin d_MD_phrase_46 ?_
    obtain ⟨hvt, hvf⟩ := hv
    refine lv_icmp_ge (tgt := 110) hx hb d_MD_phrase_47 (by decide) (fun c1 => ?_) (fun c1 => ?_)
    · have hv := hvt c1
      refine lv_aload_n hx hb d_MD_phrase_110 rfl (lv_at hl 0 rfl) ?_
      refine lv_iconst (v := 1) hx hb d_MD_phrase_111 (by decide) ?_
      refine lv_iconst (v := 1) hx hb d_MD_phrase_112 (by decide) ?_
      refine cV_i (wr := [(h_row, .inl (cB, 16384, .inl z_row)), (h_start, .inl (cI, 66, .inl z_start)), (h_documentOf, .inl (cI, 16384, .inl z_documentOf))]) (rest := []) (c_MD_refuse l dC dI cI cJ cB cZ h_t h_tape h_row h_out h_sought h_start h_documentOf h_order h_rankOf h_same h_work h_next h_often h_has H.size z_thrown z_size z_outSize z_soughtSize z_documents z_indexed z_suffixes z_rows z_lesser 1 1 _ hv) F (cw_V (fun _ h => h) 2 hw m_1177 m_1179 ms_29 m_9 m_1180 rfl rfl (by decide +kernel) ⟨by decide, by decide⟩) hK hP hD hS hA [0] [1, 2, 3] rfl rfl rfl rfl (by decide) 0 8 rfl rfl rfl hl.1 rfl (Nat.le_of_ble_eq_true rfl) d_MD_phrase_113 ⟨Nat.le_of_ble_eq_true rfl, Nat.le_of_ble_eq_true rfl⟩ (fun r2 u H locs hv hP hD hS => ?_)
      obtain ⟨u2_0, rfl⟩ : ∃ z, z = u := ⟨_, rfl⟩
      have hP : va_P (dC, dI) classes [(h_t, .inr (8, [.int u2_0, .ref h_tape, .ref h_row, .ref h_out, .ref h_sought, .int z_size, .int z_outSize, .int z_soughtSize, .int z_documents, .int z_indexed, .int z_suffixes, .int z_rows, .ref h_start, .ref h_documentOf, .ref h_order, .ref h_rankOf, .ref h_same, .ref h_work, .ref h_next, .ref h_often, .ref h_has, .int z_lesser])), (h_row, .inl (cB, 16384, .inl z_row)), (h_start, .inl (cI, 66, .inl z_start)), (h_documentOf, .inl (cI, 16384, .inl z_documentOf))] H := P_sub hP [3, 0, 1, 2] rfl
      have hD : va_D A [(h_t, .inr (8, [.int u2_0, .ref h_tape, .ref h_row, .ref h_out, .ref h_sought, .int z_size, .int z_outSize, .int z_soughtSize, .int z_documents, .int z_indexed, .int z_suffixes, .int z_rows, .ref h_start, .ref h_documentOf, .ref h_order, .ref h_rankOf, .ref h_same, .ref h_work, .ref h_next, .ref h_often, .ref h_has, .int z_lesser])), (h_row, .inl (cB, 16384, .inl z_row)), (h_start, .inl (cI, 66, .inl z_start)), (h_documentOf, .inl (cI, 16384, .inl z_documentOf))] := hD.sub [3, 0, 1, 2] rfl rfl
      refine lv_pop hx hb d_MD_phrase_116 rfl ?_
      refine lv_lconst (v := 0) hx hb d_MD_phrase_117 (by decide) ?_
      exact W.lret (v := 0) hx hb hr (fun t ht hW => ⟨⟨0, (u2_0, z_lesser), rfl, hv, by rw [ht]; exact hP, va_K.moved hW.alike hK, hD⟩, hS.F ht⟩) hS.2.2 d_MD_phrase_118
    · have hv := hvf c1
      refine lv_aload_n hx hb d_MD_phrase_50 rfl (lv_at hl 0 rfl) ?_
      refine lv_iload_n hx hb d_MD_phrase_51 rfl (lv_at hl 1 rfl) ?_
      refine lv_iload hx hb d_MD_phrase_52 (lv_at hl 4 rfl) ?_
      refine cV_i (wr := []) (rest := []) (c_MD_phraseAt l dC dI cI cJ cB cZ h_t h_tape h_row h_out h_sought h_start h_documentOf h_order h_rankOf h_same h_work h_next h_often h_has H.size z_thrown z_size z_outSize z_soughtSize z_documents z_indexed z_suffixes z_rows z_lesser z_row z_start z_documentOf a_p1 x4 _ hv) F (cw_V (fun _ h => h) 2 hw m_1297 m_1299 ms_40 m_9 m_1300 rfl rfl (by decide +kernel) ⟨by decide, by decide⟩) hK hP hD hS hA [0, 1, 2, 3] [] rfl rfl rfl rfl (by decide) 0 8 rfl rfl rfl hl.1 rfl (Nat.le_of_ble_eq_true rfl) d_MD_phrase_54 ⟨Nat.le_of_ble_eq_true rfl, Nat.le_of_ble_eq_true rfl⟩ (fun r3 u H locs hv hP hD hS => ?_)
      obtain ⟨u3_0, rfl⟩ : ∃ z, z = u := ⟨_, rfl⟩
      have hP : va_P (dC, dI) classes [(h_t, .inr (8, [.int z_thrown, .ref h_tape, .ref h_row, .ref h_out, .ref h_sought, .int z_size, .int z_outSize, .int z_soughtSize, .int z_documents, .int z_indexed, .int z_suffixes, .int z_rows, .ref h_start, .ref h_documentOf, .ref h_order, .ref h_rankOf, .ref h_same, .ref h_work, .ref h_next, .ref h_often, .ref h_has, .int u3_0])), (h_row, .inl (cB, 16384, .inl z_row)), (h_start, .inl (cI, 66, .inl z_start)), (h_documentOf, .inl (cI, 16384, .inl z_documentOf))] H := P_sub hP [0, 1, 2, 3] rfl
      have hD : va_D A [(h_t, .inr (8, [.int z_thrown, .ref h_tape, .ref h_row, .ref h_out, .ref h_sought, .int z_size, .int z_outSize, .int z_soughtSize, .int z_documents, .int z_indexed, .int z_suffixes, .int z_rows, .ref h_start, .ref h_documentOf, .ref h_order, .ref h_rankOf, .ref h_same, .ref h_work, .ref h_next, .ref h_often, .ref h_has, .int u3_0])), (h_row, .inl (cB, 16384, .inl z_row)), (h_start, .inl (cI, 66, .inl z_start)), (h_documentOf, .inl (cI, 16384, .inl z_documentOf))] := hD.sub [0, 1, 2, 3] rfl rfl
      refine lv_istore (lv' := [(5, .int r3), (0, .ref h_t), (1, .int a_p1), (2, .int a_p2), (3, .int x3), (4, .int x4)]) hx hb d_MD_phrase_57 hl (by decide) rfl (fun ls hl => ?_)
      refine lv_iload_n hx hb d_MD_phrase_59 rfl (lv_at hl 4 rfl) ?_
      refine lv_iload_n hx hb d_MD_phrase_60 rfl (lv_at hl 3 rfl) ?_
      obtain ⟨hvt, hvf⟩ := hv
      refine lv_icmp_ne (tgt := 97) hx hb d_MD_phrase_61 (by decide) (fun c4 => ?_) (fun c4 => ?_)
      · have hv := hvt c4
        refine lv_iinc (v := x3 + 1) (lv' := [(3, .int (x3 + 1)), (5, .int r3), (0, .ref h_t), (1, .int a_p1), (2, .int a_p2), (4, .int x4)]) hx hb d_MD_phrase_97 hl (k := 4) rfl (iinc_v (by decide)) (by decide) rfl (fun ls hl => ?_)
        refine lv_iload hx hb d_MD_phrase_100 (lv_at hl 5 rfl) ?_
        refine lv_iload hx hb d_MD_phrase_102 (lv_at hl 1 rfl) ?_
        refine lv_iadd hx hb d_MD_phrase_104 ?_
        refine lv_istore (lv' := [(4, .int (x4 + r3)), (3, .int (x3 + 1)), (5, .int r3), (0, .ref h_t), (1, .int a_p1), (2, .int a_p2)]) hx hb d_MD_phrase_105 hl (by decide) rfl (fun ls hl => ?_)
        refine lv_goto (tgt := 37) hx hb d_MD_phrase_107 (by decide) ?_
        exact ih (x3 + 1) (x4 + r3) z_thrown u3_0 hv _ _ _ hP hD hS (lv_sub hl [3, 4, 5, 1, 0] rfl)
      · have hv := hvf c4
        refine lv_ldc2 (v := 65536) hx hb hown (hw _ m_1305) d_MD_phrase_64 ?_
        refine lv_iload hx hb d_MD_phrase_67 (lv_at hl 0 rfl) ?_
        refine lv_i2l hx hb d_MD_phrase_69 rfl ?_
        refine lv_lmul hx hb d_MD_phrase_70 ?_
        refine lv_aload_n hx hb d_MD_phrase_71 rfl (lv_at hl 1 rfl) ?_
        refine va_get (D := (dC, dI)) (ci := 8) (v := .int u3_0) (C := "SuffixIndexModel") (T := F_MD) (N := 22) hx hb hw i_MD hown hK hP 0 rfl rfl 21 (by decide) (hw _ m_1122) (fun _ h9 => h9) rfl d_MD_phrase_72 ?_
        obtain ⟨hvt, hvf⟩ := hv
        refine lv_if_ge (tgt := 83) hx hb d_MD_phrase_75 (by decide) (fun c5 => ?_) (fun c5 => ?_)
        · have hv := hvt c5
          refine lv_aload_n hx hb d_MD_phrase_83 rfl (lv_at hl 1 rfl) ?_
          refine va_get (D := (dC, dI)) (ci := 8) (v := .int u3_0) (C := "SuffixIndexModel") (T := F_MD) (N := 22) hx hb hw i_MD hown hK hP 0 rfl rfl 21 (by decide) (hw _ m_1122) (fun _ h9 => h9) rfl d_MD_phrase_84 ?_
          refine lv_aload_n hx hb d_MD_phrase_87 rfl (lv_at hl 1 rfl) ?_
          refine va_get (D := (dC, dI)) (ci := 8) (v := .ref h_start) (C := "SuffixIndexModel") (T := F_MD) (N := 22) hx hb hw i_MD hown hK hP 0 rfl rfl 12 (by decide) (hw _ m_1113) (fun _ h9 => h9) rfl d_MD_phrase_88 ?_
          refine lv_iload_n hx hb d_MD_phrase_91 rfl (lv_at hl 2 rfl) ?_
          obtain ⟨hin, hv⟩ := hv
          refine va_iald hx hb hK hP 2 0 rfl rfl hin d_MD_phrase_92 ?_
          refine lv_isub hx hb d_MD_phrase_93 ?_
          refine lv_i2l hx hb d_MD_phrase_94 rfl ?_
          refine lv_ladd hx hb d_MD_phrase_95 ?_
          exact W.lret (v := (65536 * r3.toInt64) + ((u3_0 - (z_start a_p1.toNatClampNeg)).toInt64)) hx hb hr (fun t ht hW => ⟨⟨(65536 * r3.toInt64) + ((u3_0 - (z_start a_p1.toNatClampNeg)).toInt64), (z_thrown, u3_0), rfl, hv, by rw [ht]; exact hP, va_K.moved hW.alike hK, hD⟩, hS.F ht⟩) hS.2.2 d_MD_phrase_96
        · have hv := hvf c5
          refine lv_ldc (v := 65535) hx hb hown (hw _ m_1263) d_MD_phrase_78 ?_
          refine lv_goto (tgt := 94) hx hb d_MD_phrase_80 (by decide) ?_
          refine lv_i2l hx hb d_MD_phrase_94 rfl ?_
          refine lv_ladd hx hb d_MD_phrase_95 ?_
          exact W.lret (v := (65536 * r3.toInt64) + ((65535 : Int32).toInt64)) hx hb hr (fun t ht hW => ⟨⟨(65536 * r3.toInt64) + ((65535 : Int32).toInt64), (z_thrown, u3_0), rfl, hv, by rw [ht]; exact hP, va_K.moved hW.alike hK, hD⟩, hS.F ht⟩) hS.2.2 d_MD_phrase_96

set_option maxHeartbeats 4000000 in
set_option maxRecDepth 100000 in
theorem wk_MD_phrase_19 {p : Program} {l : Launch} {e : Env} {s : State} {m : MethodId} {below : List Frame} {meth : Method} {c : Code} {A : Nat → Prop} {dC : Nat → ClassId} {dI : Nat → Nat → Nat} {cI cJ cB cZ : ClassId} {h_t : Nat} {h_tape : Nat} {h_row : Nat} {h_out : Nat} {h_sought : Nat} {h_start : Nat} {h_documentOf : Nat} {h_order : Nat} {h_rankOf : Nat} {h_same : Nat} {h_work : Nat} {h_next : Nat} {h_often : Nat} {h_has : Nat} {a_p1 : Int32} {a_p2 : Int32} {z_indexed : Int32} {z_row : Nat → Int32} {z_start : Nat → Int32} {z_documentOf : Nat → Int32} {z_size : Int32} {z_outSize : Int32} {z_soughtSize : Int32} {z_documents : Int32} {z_suffixes : Int32} {z_rows : Int32} {post : Int64 → Int32 → Int32 → Prop} (F : CallFix p m c b_MD_phrase 6 s ([.ref h_t, .int a_p1, .int a_p2] : List Value).toArray WT "SuffixIndexModel") (hr : meth.sig.returnType = (some .long)) (hlk : meth.locks = false) (hK : va_K (dC, dI) classes (TYS cI cJ cB cZ) s) (hA : ∀ q, s.heap.size ≤ q → A q) : ∀ (k1 : Int32) (k2 : Int32) (z_thrown : Int32) (z_lesser : Int32), vc_MD_phrase_19 a_p1 a_p2 z_indexed z_row z_start z_documentOf post k1 k2 z_thrown z_lesser → ∀ (H : Heap) (locs : List Loc) (ls : Array Slot), va_P (dC, dI) classes [(h_t, .inr (8, [.int z_thrown, .ref h_tape, .ref h_row, .ref h_out, .ref h_sought, .int z_size, .int z_outSize, .int z_soughtSize, .int z_documents, .int z_indexed, .int z_suffixes, .int z_rows, .ref h_start, .ref h_documentOf, .ref h_order, .ref h_rankOf, .ref h_same, .ref h_work, .ref h_next, .ref h_often, .ref h_has, .int z_lesser])), (h_row, .inl (cB, 16384, .inl z_row)), (h_start, .inl (cI, 66, .inl z_start)), (h_documentOf, .inl (cI, 16384, .inl z_documentOf))] H → va_D A [(h_t, .inr (8, [.int z_thrown, .ref h_tape, .ref h_row, .ref h_out, .ref h_sought, .int z_size, .int z_outSize, .int z_soughtSize, .int z_documents, .int z_indexed, .int z_suffixes, .int z_rows, .ref h_start, .ref h_documentOf, .ref h_order, .ref h_rankOf, .ref h_same, .ref h_work, .ref h_next, .ref h_often, .ref h_has, .int z_lesser])), (h_row, .inl (cB, 16384, .inl z_row)), (h_start, .inl (cI, 66, .inl z_start)), (h_documentOf, .inl (cI, 16384, .inl z_documentOf))] → va_S A s.heap H locs → lv_has ls 6 [(0, .ref h_t), (1, .int a_p1), (2, .int a_p2)] → W p l e rm_MD_phrase s m ([.ref h_t, .int a_p1, .int a_p2] : List Value).toArray below meth c H locs 0 0 (MQ below (va_Ql (fun (r : Int64) (u : Int32 × Int32) => post r u.1 u.2) (fun u t => cAft (dC, dI) classes (TYS cI cJ cB cZ) A [(h_t, .inr (8, [.int u.1, .ref h_tape, .ref h_row, .ref h_out, .ref h_sought, .int z_size, .int z_outSize, .int z_soughtSize, .int z_documents, .int z_indexed, .int z_suffixes, .int z_rows, .ref h_start, .ref h_documentOf, .ref h_order, .ref h_rankOf, .ref h_same, .ref h_work, .ref h_next, .ref h_often, .ref h_has, .int u.2])), (h_row, .inl (cB, 16384, .inl z_row)), (h_start, .inl (cI, 66, .inl z_start)), (h_documentOf, .inl (cI, 16384, .inl z_documentOf))] t) A) ([.ref h_t, .int a_p1, .int a_p2] : List Value).toArray s 0 0 A) (F0 m 19 ls [.int k2, .int k1, .ref h_t]) := by
  obtain ⟨hx, hb, hml, hown, hw⟩ := id F
  intro k1 k2 z_thrown z_lesser hv H locs ls hP hD hS hl
  refine cV_i (wr := [(h_row, .inl (cB, 16384, .inl z_row)), (h_start, .inl (cI, 66, .inl z_start)), (h_documentOf, .inl (cI, 16384, .inl z_documentOf))]) (rest := []) (c_MD_refuse l dC dI cI cJ cB cZ h_t h_tape h_row h_out h_sought h_start h_documentOf h_order h_rankOf h_same h_work h_next h_often h_has H.size z_thrown z_size z_outSize z_soughtSize z_documents z_indexed z_suffixes z_rows z_lesser k1 k2 _ hv) F (cw_V (fun _ h => h) 2 hw m_1177 m_1179 ms_29 m_9 m_1180 rfl rfl (by decide +kernel) ⟨by decide, by decide⟩) hK hP hD hS hA [0] [1, 2, 3] rfl rfl rfl rfl (by decide) 0 8 rfl rfl rfl hl.1 rfl (Nat.le_of_ble_eq_true rfl) d_MD_phrase_19 ⟨Nat.le_of_ble_eq_true rfl, Nat.le_of_ble_eq_true rfl⟩ (fun r6 u H locs hv hP hD hS => ?_)
  obtain ⟨u6_0, rfl⟩ : ∃ z, z = u := ⟨_, rfl⟩
  have hP : va_P (dC, dI) classes [(h_t, .inr (8, [.int u6_0, .ref h_tape, .ref h_row, .ref h_out, .ref h_sought, .int z_size, .int z_outSize, .int z_soughtSize, .int z_documents, .int z_indexed, .int z_suffixes, .int z_rows, .ref h_start, .ref h_documentOf, .ref h_order, .ref h_rankOf, .ref h_same, .ref h_work, .ref h_next, .ref h_often, .ref h_has, .int z_lesser])), (h_row, .inl (cB, 16384, .inl z_row)), (h_start, .inl (cI, 66, .inl z_start)), (h_documentOf, .inl (cI, 16384, .inl z_documentOf))] H := P_sub hP [3, 0, 1, 2] rfl
  have hD : va_D A [(h_t, .inr (8, [.int u6_0, .ref h_tape, .ref h_row, .ref h_out, .ref h_sought, .int z_size, .int z_outSize, .int z_soughtSize, .int z_documents, .int z_indexed, .int z_suffixes, .int z_rows, .ref h_start, .ref h_documentOf, .ref h_order, .ref h_rankOf, .ref h_same, .ref h_work, .ref h_next, .ref h_often, .ref h_has, .int z_lesser])), (h_row, .inl (cB, 16384, .inl z_row)), (h_start, .inl (cI, 66, .inl z_start)), (h_documentOf, .inl (cI, 16384, .inl z_documentOf))] := hD.sub [3, 0, 1, 2] rfl rfl
  obtain ⟨hvt, hvf⟩ := hv
  refine lv_if_eq (tgt := 27) hx hb d_MD_phrase_22 (by decide) (fun c7 => ?_) (fun c7 => ?_)
  · have hv := hvt c7
    refine lv_iconst (v := 0) hx hb d_MD_phrase_27 (by decide) ?_
    refine lv_istore_n (lv' := [(3, .int 0), (0, .ref h_t), (1, .int a_p1), (2, .int a_p2)]) hx hb d_MD_phrase_28 rfl hl (by decide) rfl (fun ls hl => ?_)
    refine lv_aload_n hx hb d_MD_phrase_29 rfl (lv_at hl 1 rfl) ?_
    refine va_get (D := (dC, dI)) (ci := 8) (v := .ref h_start) (C := "SuffixIndexModel") (T := F_MD) (N := 22) hx hb hw i_MD hown hK hP 0 rfl rfl 12 (by decide) (hw _ m_1113) (fun _ h9 => h9) rfl d_MD_phrase_30 ?_
    refine lv_iload_n hx hb d_MD_phrase_33 rfl (lv_at hl 2 rfl) ?_
    obtain ⟨hin, hv⟩ := hv
    refine va_iald hx hb hK hP 2 0 rfl rfl hin d_MD_phrase_34 ?_
    refine lv_istore (lv' := [(4, .int (z_start a_p1.toNatClampNeg)), (3, .int 0), (0, .ref h_t), (1, .int a_p1), (2, .int a_p2)]) hx hb d_MD_phrase_35 hl (by decide) rfl (fun ls hl => ?_)
    obtain ⟨j, hv⟩ := hv
    exact wk_MD_phrase_37 F hr hlk hK hA j 0 (z_start a_p1.toNatClampNeg) u6_0 z_lesser hv _ _ _ hP hD hS (lv_sub hl [2, 3, 4, 1, 0] rfl)
  · have hv := hvf c7
    refine lv_lconst (v := 0) hx hb d_MD_phrase_25 (by decide) ?_
    exact W.lret (v := 0) hx hb hr (fun t ht hW => ⟨⟨0, (u6_0, z_lesser), rfl, hv, by rw [ht]; exact hP, va_K.moved hW.alike hK, hD⟩, hS.F ht⟩) hS.2.2 d_MD_phrase_26

set_option maxHeartbeats 4000000 in
set_option maxRecDepth 100000 in
theorem c_MD_phrase (l : Launch) (dC : Nat → ClassId) (dI : Nat → Nat → Nat) (cI cJ cB cZ : ClassId) (h_t : Nat) (h_tape : Nat) (h_row : Nat) (h_out : Nat) (h_sought : Nat) (h_start : Nat) (h_documentOf : Nat) (h_order : Nat) (h_rankOf : Nat) (h_same : Nat) (h_work : Nat) (h_next : Nat) (h_often : Nat) (h_has : Nat) (sz : Nat) (z_thrown : Int32) (z_size : Int32) (z_outSize : Int32) (z_soughtSize : Int32) (z_documents : Int32) (z_indexed : Int32) (z_suffixes : Int32) (z_rows : Int32) (z_lesser : Int32) (z_row : Nat → Int32) (z_start : Nat → Int32) (z_documentOf : Nat → Int32) (a_p1 : Int32) (a_p2 : Int32) (post : Int64 → Int32 → Int32 → Prop) (hv : vc_MD_phrase a_p1 a_p2 z_indexed z_row z_start z_documentOf post z_thrown z_lesser) : Met l y_MD_phrase (Cond.code y_MD_phrase b_MD_phrase 6 (some .long) :: WT) rm_MD_phrase (cPre (dC, dI) classes (TYS cI cJ cB cZ) [(h_t, .inr (8, [.int z_thrown, .ref h_tape, .ref h_row, .ref h_out, .ref h_sought, .int z_size, .int z_outSize, .int z_soughtSize, .int z_documents, .int z_indexed, .int z_suffixes, .int z_rows, .ref h_start, .ref h_documentOf, .ref h_order, .ref h_rankOf, .ref h_same, .ref h_work, .ref h_next, .ref h_often, .ref h_has, .int z_lesser])), (h_row, .inl (cB, 16384, .inl z_row)), (h_start, .inl (cI, 66, .inl z_start)), (h_documentOf, .inl (cI, 16384, .inl z_documentOf))] sz [.ref h_t, .int a_p1, .int a_p2]) (va_Ql (fun (r : Int64) (u : Int32 × Int32) => post r u.1 u.2) (fun u t => cAft (dC, dI) classes (TYS cI cJ cB cZ) (va_A [(h_t, .inr (8, [.int z_thrown, .ref h_tape, .ref h_row, .ref h_out, .ref h_sought, .int z_size, .int z_outSize, .int z_soughtSize, .int z_documents, .int z_indexed, .int z_suffixes, .int z_rows, .ref h_start, .ref h_documentOf, .ref h_order, .ref h_rankOf, .ref h_same, .ref h_work, .ref h_next, .ref h_often, .ref h_has, .int z_lesser])), (h_row, .inl (cB, 16384, .inl z_row)), (h_start, .inl (cI, 66, .inl z_start)), (h_documentOf, .inl (cI, 16384, .inl z_documentOf))] sz) [(h_t, .inr (8, [.int u.1, .ref h_tape, .ref h_row, .ref h_out, .ref h_sought, .int z_size, .int z_outSize, .int z_soughtSize, .int z_documents, .int z_indexed, .int z_suffixes, .int z_rows, .ref h_start, .ref h_documentOf, .ref h_order, .ref h_rankOf, .ref h_same, .ref h_work, .ref h_next, .ref h_often, .ref h_has, .int u.2])), (h_row, .inl (cB, 16384, .inl z_row)), (h_start, .inl (cI, 66, .inl z_start)), (h_documentOf, .inl (cI, 16384, .inl z_documentOf))] t) (va_A [(h_t, .inr (8, [.int z_thrown, .ref h_tape, .ref h_row, .ref h_out, .ref h_sought, .int z_size, .int z_outSize, .int z_soughtSize, .int z_documents, .int z_indexed, .int z_suffixes, .int z_rows, .ref h_start, .ref h_documentOf, .ref h_order, .ref h_rankOf, .ref h_same, .ref h_work, .ref h_next, .ref h_often, .ref h_has, .int z_lesser])), (h_row, .inl (cB, 16384, .inl z_row)), (h_start, .inl (cI, 66, .inl z_start)), (h_documentOf, .inl (cI, 16384, .inl z_documentOf))] sz)) 0 0 (va_A [(h_t, .inr (8, [.int z_thrown, .ref h_tape, .ref h_row, .ref h_out, .ref h_sought, .int z_size, .int z_outSize, .int z_soughtSize, .int z_documents, .int z_indexed, .int z_suffixes, .int z_rows, .ref h_start, .ref h_documentOf, .ref h_order, .ref h_rankOf, .ref h_same, .ref h_work, .ref h_next, .ref h_often, .ref h_has, .int z_lesser])), (h_row, .inl (cB, 16384, .inl z_row)), (h_start, .inl (cI, 66, .inl z_start)), (h_documentOf, .inl (cI, 16384, .inl z_documentOf))] sz) := by
  refine Met.ofW (cc := b_MD_phrase) (maxL := 6) (ret := (some .long)) (by decide) rfl ?_
  intro p e s m args below meth c s₁ B hml hq
  obtain ⟨rfl, hsz, hP, hK, hD0⟩ := hq
  have hts := atoms_spec (ws := Cond.code y_MD_phrase b_MD_phrase 6 (some .long) :: WT) B.pre
  have hw : ∀ w ∈ WT, w.before ([.ref h_t, .int a_p1, .int a_p2] : List Value).toArray s = true := fun w h => hts w (List.mem_cons_of_mem _ h)
  have hx := B.exec
  have hb := B.bytes
  have hr := B.returns
  have hlk := B.notSynchronized
  have hown : s.vm.findClass "SuffixIndexModel" = some m.cls := findClass_of_methodNamed B.named
  have F : CallFix p m c b_MD_phrase 6 s ([.ref h_t, .int a_p1, .int a_p2] : List Value).toArray WT "SuffixIndexModel" := ⟨hx, hb, hml, hown, hw⟩
  subst hsz
  have hD := hD0.self (sz := s.heap.size)
  generalize hAe : va_A [(h_t, .inr (8, [.int z_thrown, .ref h_tape, .ref h_row, .ref h_out, .ref h_sought, .int z_size, .int z_outSize, .int z_soughtSize, .int z_documents, .int z_indexed, .int z_suffixes, .int z_rows, .ref h_start, .ref h_documentOf, .ref h_order, .ref h_rankOf, .ref h_same, .ref h_work, .ref h_next, .ref h_often, .ref h_has, .int z_lesser])), (h_row, .inl (cB, 16384, .inl z_row)), (h_start, .inl (cI, 66, .inl z_start)), (h_documentOf, .inl (cI, 16384, .inl z_documentOf))] s.heap.size = A at hD ⊢
  have hA : ∀ q : Nat, s.heap.size ≤ q → A q := fun q h => by rw [← hAe]; exact Or.inr h
  have hS : va_S A s.heap s.heap [] := va_S.rf
  have hl := lv_entry ([.ref h_t, .int a_p1, .int a_p2]) (n := 6) (Nat.le_of_ble_eq_true rfl)
  rw [lg_entry_eq]
  generalize (lg_sl ([.ref h_t, .int a_p1, .int a_p2]) ++ List.replicate (6 - (lg_sl ([.ref h_t, .int a_p1, .int a_p2])).length) Slot.unset).toArray = ls at hl ⊢
  have hl : lv_has ls 6 [(0, .ref h_t), (1, .int a_p1), (2, .int a_p2)] := hl
  show W p l e rm_MD_phrase s m _ below meth c s.heap [] 0 0 _ _
  have hP : va_P (dC, dI) classes [(h_t, .inr (8, [.int z_thrown, .ref h_tape, .ref h_row, .ref h_out, .ref h_sought, .int z_size, .int z_outSize, .int z_soughtSize, .int z_documents, .int z_indexed, .int z_suffixes, .int z_rows, .ref h_start, .ref h_documentOf, .ref h_order, .ref h_rankOf, .ref h_same, .ref h_work, .ref h_next, .ref h_often, .ref h_has, .int z_lesser])), (h_row, .inl (cB, 16384, .inl z_row)), (h_start, .inl (cI, 66, .inl z_start)), (h_documentOf, .inl (cI, 16384, .inl z_documentOf))] s.heap := hP
  obtain ⟨H, hHe⟩ : ∃ H, H = s.heap := ⟨_, rfl⟩
  have hS : va_S A s.heap H [] := by rw [hHe]; exact hS
  rw [← hHe] at hP
  suffices hgoal : W p l e rm_MD_phrase s m ([.ref h_t, .int a_p1, .int a_p2] : List Value).toArray below meth c H [] 0 0 (MQ below (va_Ql (fun (r : Int64) (u : Int32 × Int32) => post r u.1 u.2) (fun u t => cAft (dC, dI) classes (TYS cI cJ cB cZ) A [(h_t, .inr (8, [.int u.1, .ref h_tape, .ref h_row, .ref h_out, .ref h_sought, .int z_size, .int z_outSize, .int z_soughtSize, .int z_documents, .int z_indexed, .int z_suffixes, .int z_rows, .ref h_start, .ref h_documentOf, .ref h_order, .ref h_rankOf, .ref h_same, .ref h_work, .ref h_next, .ref h_often, .ref h_has, .int u.2])), (h_row, .inl (cB, 16384, .inl z_row)), (h_start, .inl (cI, 66, .inl z_start)), (h_documentOf, .inl (cI, 16384, .inl z_documentOf))] t) A) ([.ref h_t, .int a_p1, .int a_p2] : List Value).toArray s 0 0 A) (F0 m 0 ls []) by rw [hHe] at hgoal; exact hgoal
  refine lv_aload_n hx hb d_MD_phrase_0 rfl (lv_at hl 0 rfl) ?_
  refine lv_iload_n hx hb d_MD_phrase_1 rfl (lv_at hl 1 rfl) ?_
  refine cV_i (wr := [(h_row, .inl (cB, 16384, .inl z_row)), (h_start, .inl (cI, 66, .inl z_start)), (h_documentOf, .inl (cI, 16384, .inl z_documentOf))]) (rest := []) (c_MD_noDocument l dC dI cI cJ cB cZ h_t h_tape h_row h_out h_sought h_start h_documentOf h_order h_rankOf h_same h_work h_next h_often h_has H.size z_thrown z_size z_outSize z_soughtSize z_documents z_indexed z_suffixes z_rows z_lesser a_p1 _ hv) F (cw_V (fun _ h => h) 1 hw m_1289 m_1291 ms_39 m_9 m_1292 rfl rfl (by decide +kernel) ⟨by decide, by decide⟩) hK hP hD hS hA [0] [1, 2, 3] rfl rfl rfl rfl (by decide) 0 8 rfl rfl rfl hl.1 rfl (Nat.le_of_ble_eq_true rfl) d_MD_phrase_2 ⟨Nat.le_of_ble_eq_true rfl, Nat.le_of_ble_eq_true rfl⟩ (fun r8 u H locs hv hP hD hS => ?_)
  obtain ⟨u8_0, rfl⟩ : ∃ z, z = u := ⟨_, rfl⟩
  have hP : va_P (dC, dI) classes [(h_t, .inr (8, [.int u8_0, .ref h_tape, .ref h_row, .ref h_out, .ref h_sought, .int z_size, .int z_outSize, .int z_soughtSize, .int z_documents, .int z_indexed, .int z_suffixes, .int z_rows, .ref h_start, .ref h_documentOf, .ref h_order, .ref h_rankOf, .ref h_same, .ref h_work, .ref h_next, .ref h_often, .ref h_has, .int z_lesser])), (h_row, .inl (cB, 16384, .inl z_row)), (h_start, .inl (cI, 66, .inl z_start)), (h_documentOf, .inl (cI, 16384, .inl z_documentOf))] H := P_sub hP [3, 0, 1, 2] rfl
  have hD : va_D A [(h_t, .inr (8, [.int u8_0, .ref h_tape, .ref h_row, .ref h_out, .ref h_sought, .int z_size, .int z_outSize, .int z_soughtSize, .int z_documents, .int z_indexed, .int z_suffixes, .int z_rows, .ref h_start, .ref h_documentOf, .ref h_order, .ref h_rankOf, .ref h_same, .ref h_work, .ref h_next, .ref h_often, .ref h_has, .int z_lesser])), (h_row, .inl (cB, 16384, .inl z_row)), (h_start, .inl (cI, 66, .inl z_start)), (h_documentOf, .inl (cI, 16384, .inl z_documentOf))] := hD.sub [3, 0, 1, 2] rfl rfl
  obtain ⟨hvt, hvf⟩ := hv
  refine lv_if_ne (tgt := 25) hx hb d_MD_phrase_5 (by decide) (fun c9 => ?_) (fun c9 => ?_)
  · have hv := hvt c9
    refine lv_lconst (v := 0) hx hb d_MD_phrase_25 (by decide) ?_
    exact W.lret (v := 0) hx hb hr (fun t ht hW => ⟨⟨0, (u8_0, z_lesser), rfl, hv, by rw [ht]; exact hP, va_K.moved hW.alike hK, hD⟩, hS.F ht⟩) hS.2.2 d_MD_phrase_26
  · have hv := hvf c9
    refine lv_aload_n hx hb d_MD_phrase_8 rfl (lv_at hl 0 rfl) ?_
    refine lv_iconst (v := 1) hx hb d_MD_phrase_9 (by decide) ?_
    refine lv_iload_n hx hb d_MD_phrase_10 rfl (lv_at hl 2 rfl) ?_
    obtain ⟨hvt, hvf⟩ := hv
    refine lv_if_ge (tgt := 18) hx hb d_MD_phrase_11 (by decide) (fun c10 => ?_) (fun c10 => ?_)
    · have hv := hvt c10
      refine lv_iconst (v := 0) hx hb d_MD_phrase_18 (by decide) ?_
      exact wk_MD_phrase_19 F hr hlk hK hA 1 0 u8_0 z_lesser hv _ _ _ hP hD hS (lv_sub hl [0, 1, 2] rfl)
    · have hv := hvf c10
      refine lv_iconst (v := 1) hx hb d_MD_phrase_14 (by decide) ?_
      refine lv_goto (tgt := 19) hx hb d_MD_phrase_15 (by decide) ?_
      exact wk_MD_phrase_19 F hr hlk hK hA 1 1 u8_0 z_lesser hv _ _ _ hP hD hS (lv_sub hl [0, 1, 2] rfl)

set_option maxHeartbeats 4000000 in
set_option maxRecDepth 100000 in
theorem wk_MD_out_24 {p : Program} {l : Launch} {e : Env} {s : State} {m : MethodId} {below : List Frame} {meth : Method} {c : Code} {A : Nat → Prop} {dC : Nat → ClassId} {dI : Nat → Nat → Nat} {cI cJ cB cZ : ClassId} {h_t : Nat} {h_tape : Nat} {h_row : Nat} {h_out : Nat} {h_sought : Nat} {h_start : Nat} {h_documentOf : Nat} {h_order : Nat} {h_rankOf : Nat} {h_same : Nat} {h_work : Nat} {h_next : Nat} {h_often : Nat} {h_has : Nat} {a_p1 : Int32} {z_outSize : Int32} {z_out : Nat → Int32} {z_size : Int32} {z_soughtSize : Int32} {z_documents : Int32} {z_indexed : Int32} {z_suffixes : Int32} {z_rows : Int32} {z_lesser : Int32} {post : Int32 → Int32 → Prop} (F : CallFix p m c b_MD_out 2 s ([.ref h_t, .int a_p1] : List Value).toArray WT "SuffixIndexModel") (hr : meth.sig.returnType = (some .int)) (hlk : meth.locks = false) (hK : va_K (dC, dI) classes (TYS cI cJ cB cZ) s) (hA : ∀ q, s.heap.size ≤ q → A q) : ∀ (k1 : Int32) (k2 : Int32) (z_thrown : Int32), vc_MD_out_24 a_p1 z_outSize z_out post k1 k2 z_thrown → ∀ (H : Heap) (locs : List Loc) (ls : Array Slot), va_P (dC, dI) classes [(h_t, .inr (8, [.int z_thrown, .ref h_tape, .ref h_row, .ref h_out, .ref h_sought, .int z_size, .int z_outSize, .int z_soughtSize, .int z_documents, .int z_indexed, .int z_suffixes, .int z_rows, .ref h_start, .ref h_documentOf, .ref h_order, .ref h_rankOf, .ref h_same, .ref h_work, .ref h_next, .ref h_often, .ref h_has, .int z_lesser])), (h_out, .inl (cB, 16384, .inl z_out))] H → va_D A [(h_t, .inr (8, [.int z_thrown, .ref h_tape, .ref h_row, .ref h_out, .ref h_sought, .int z_size, .int z_outSize, .int z_soughtSize, .int z_documents, .int z_indexed, .int z_suffixes, .int z_rows, .ref h_start, .ref h_documentOf, .ref h_order, .ref h_rankOf, .ref h_same, .ref h_work, .ref h_next, .ref h_often, .ref h_has, .int z_lesser])), (h_out, .inl (cB, 16384, .inl z_out))] → va_S A s.heap H locs → lv_has ls 2 [(0, .ref h_t), (1, .int a_p1)] → W p l e rm_MD_out s m ([.ref h_t, .int a_p1] : List Value).toArray below meth c H locs 0 0 (MQ below (va_Qi (fun (r : Int32) (u : Int32) => post r u) (fun u t => cAft (dC, dI) classes (TYS cI cJ cB cZ) A [(h_t, .inr (8, [.int u, .ref h_tape, .ref h_row, .ref h_out, .ref h_sought, .int z_size, .int z_outSize, .int z_soughtSize, .int z_documents, .int z_indexed, .int z_suffixes, .int z_rows, .ref h_start, .ref h_documentOf, .ref h_order, .ref h_rankOf, .ref h_same, .ref h_work, .ref h_next, .ref h_often, .ref h_has, .int z_lesser])), (h_out, .inl (cB, 16384, .inl z_out))] t) A) ([.ref h_t, .int a_p1] : List Value).toArray s 0 0 A) (F0 m 24 ls [.int k2, .int k1, .ref h_t]) := by
  obtain ⟨hx, hb, hml, hown, hw⟩ := id F
  intro k1 k2 z_thrown hv H locs ls hP hD hS hl
  refine cV_i (wr := [(h_out, .inl (cB, 16384, .inl z_out))]) (rest := []) (c_MD_refuse l dC dI cI cJ cB cZ h_t h_tape h_row h_out h_sought h_start h_documentOf h_order h_rankOf h_same h_work h_next h_often h_has H.size z_thrown z_size z_outSize z_soughtSize z_documents z_indexed z_suffixes z_rows z_lesser k1 k2 _ hv) F (cw_V (fun _ h => h) 2 hw m_1177 m_1179 ms_29 m_9 m_1180 rfl rfl (by decide +kernel) ⟨by decide, by decide⟩) hK hP hD hS hA [0] [1] rfl rfl rfl rfl (by decide) 0 8 rfl rfl rfl hl.1 rfl (Nat.le_of_ble_eq_true rfl) d_MD_out_24 ⟨Nat.le_of_ble_eq_true rfl, Nat.le_of_ble_eq_true rfl⟩ (fun r1 u H locs hv hP hD hS => ?_)
  obtain ⟨u1_0, rfl⟩ : ∃ z, z = u := ⟨_, rfl⟩
  have hP : va_P (dC, dI) classes [(h_t, .inr (8, [.int u1_0, .ref h_tape, .ref h_row, .ref h_out, .ref h_sought, .int z_size, .int z_outSize, .int z_soughtSize, .int z_documents, .int z_indexed, .int z_suffixes, .int z_rows, .ref h_start, .ref h_documentOf, .ref h_order, .ref h_rankOf, .ref h_same, .ref h_work, .ref h_next, .ref h_often, .ref h_has, .int z_lesser])), (h_out, .inl (cB, 16384, .inl z_out))] H := P_sub hP [1, 0] rfl
  have hD : va_D A [(h_t, .inr (8, [.int u1_0, .ref h_tape, .ref h_row, .ref h_out, .ref h_sought, .int z_size, .int z_outSize, .int z_soughtSize, .int z_documents, .int z_indexed, .int z_suffixes, .int z_rows, .ref h_start, .ref h_documentOf, .ref h_order, .ref h_rankOf, .ref h_same, .ref h_work, .ref h_next, .ref h_often, .ref h_has, .int z_lesser])), (h_out, .inl (cB, 16384, .inl z_out))] := hD.sub [1, 0] rfl rfl
  obtain ⟨hvt, hvf⟩ := hv
  refine lv_if_eq (tgt := 32) hx hb d_MD_out_27 (by decide) (fun c2 => ?_) (fun c2 => ?_)
  · have hv := hvt c2
    refine lv_aload_n hx hb d_MD_out_32 rfl (lv_at hl 0 rfl) ?_
    refine va_get (D := (dC, dI)) (ci := 8) (v := .ref h_out) (C := "SuffixIndexModel") (T := F_MD) (N := 22) hx hb hw i_MD hown hK hP 0 rfl rfl 3 (by decide) (hw _ m_1104) (fun _ h9 => h9) rfl d_MD_out_33 ?_
    refine lv_iload_n hx hb d_MD_out_36 rfl (lv_at hl 1 rfl) ?_
    obtain ⟨hin, hv⟩ := hv
    refine va_bald hx hb hK hP 1 2 rfl rfl hin d_MD_out_37 ?_
    refine lv_sipush (v := 255) hx hb d_MD_out_38 (by decide) ?_
    refine lv_iand hx hb d_MD_out_41 ?_
    exact W.iret (v := (z_out a_p1.toNatClampNeg) &&& 255) hx hb hr (fun t ht hW => ⟨⟨(z_out a_p1.toNatClampNeg) &&& 255, u1_0, rfl, hv, by rw [ht]; exact hP, va_K.moved hW.alike hK, hD⟩, hS.F ht⟩) hS.2.2 d_MD_out_42
  · have hv := hvf c2
    refine lv_iconst (v := 0) hx hb d_MD_out_30 (by decide) ?_
    exact W.iret (v := 0) hx hb hr (fun t ht hW => ⟨⟨0, u1_0, rfl, hv, by rw [ht]; exact hP, va_K.moved hW.alike hK, hD⟩, hS.F ht⟩) hS.2.2 d_MD_out_31

set_option maxHeartbeats 4000000 in
set_option maxRecDepth 100000 in
theorem wk_MD_out_19 {p : Program} {l : Launch} {e : Env} {s : State} {m : MethodId} {below : List Frame} {meth : Method} {c : Code} {A : Nat → Prop} {dC : Nat → ClassId} {dI : Nat → Nat → Nat} {cI cJ cB cZ : ClassId} {h_t : Nat} {h_tape : Nat} {h_row : Nat} {h_out : Nat} {h_sought : Nat} {h_start : Nat} {h_documentOf : Nat} {h_order : Nat} {h_rankOf : Nat} {h_same : Nat} {h_work : Nat} {h_next : Nat} {h_often : Nat} {h_has : Nat} {a_p1 : Int32} {z_outSize : Int32} {z_out : Nat → Int32} {z_size : Int32} {z_soughtSize : Int32} {z_documents : Int32} {z_indexed : Int32} {z_suffixes : Int32} {z_rows : Int32} {z_lesser : Int32} {post : Int32 → Int32 → Prop} (F : CallFix p m c b_MD_out 2 s ([.ref h_t, .int a_p1] : List Value).toArray WT "SuffixIndexModel") (hr : meth.sig.returnType = (some .int)) (hlk : meth.locks = false) (hK : va_K (dC, dI) classes (TYS cI cJ cB cZ) s) (hA : ∀ q, s.heap.size ≤ q → A q) : ∀ (k1 : Int32) (z_thrown : Int32), vc_MD_out_19 a_p1 z_outSize z_out post k1 z_thrown → ∀ (H : Heap) (locs : List Loc) (ls : Array Slot), va_P (dC, dI) classes [(h_t, .inr (8, [.int z_thrown, .ref h_tape, .ref h_row, .ref h_out, .ref h_sought, .int z_size, .int z_outSize, .int z_soughtSize, .int z_documents, .int z_indexed, .int z_suffixes, .int z_rows, .ref h_start, .ref h_documentOf, .ref h_order, .ref h_rankOf, .ref h_same, .ref h_work, .ref h_next, .ref h_often, .ref h_has, .int z_lesser])), (h_out, .inl (cB, 16384, .inl z_out))] H → va_D A [(h_t, .inr (8, [.int z_thrown, .ref h_tape, .ref h_row, .ref h_out, .ref h_sought, .int z_size, .int z_outSize, .int z_soughtSize, .int z_documents, .int z_indexed, .int z_suffixes, .int z_rows, .ref h_start, .ref h_documentOf, .ref h_order, .ref h_rankOf, .ref h_same, .ref h_work, .ref h_next, .ref h_often, .ref h_has, .int z_lesser])), (h_out, .inl (cB, 16384, .inl z_out))] → va_S A s.heap H locs → lv_has ls 2 [(0, .ref h_t), (1, .int a_p1)] → W p l e rm_MD_out s m ([.ref h_t, .int a_p1] : List Value).toArray below meth c H locs 0 0 (MQ below (va_Qi (fun (r : Int32) (u : Int32) => post r u) (fun u t => cAft (dC, dI) classes (TYS cI cJ cB cZ) A [(h_t, .inr (8, [.int u, .ref h_tape, .ref h_row, .ref h_out, .ref h_sought, .int z_size, .int z_outSize, .int z_soughtSize, .int z_documents, .int z_indexed, .int z_suffixes, .int z_rows, .ref h_start, .ref h_documentOf, .ref h_order, .ref h_rankOf, .ref h_same, .ref h_work, .ref h_next, .ref h_often, .ref h_has, .int z_lesser])), (h_out, .inl (cB, 16384, .inl z_out))] t) A) ([.ref h_t, .int a_p1] : List Value).toArray s 0 0 A) (F0 m 19 ls [.int k1, .ref h_t]) := by
  obtain ⟨hx, hb, hml, hown, hw⟩ := id F
  intro k1 z_thrown hv H locs ls hP hD hS hl
  refine lv_iconst (v := 1) hx hb d_MD_out_19 (by decide) ?_
  refine lv_goto (tgt := 24) hx hb d_MD_out_20 (by decide) ?_
  exact wk_MD_out_24 F hr hlk hK hA k1 1 z_thrown hv _ _ _ hP hD hS (lv_sub hl [0, 1] rfl)

set_option maxHeartbeats 4000000 in
set_option maxRecDepth 100000 in
theorem c_MD_out (l : Launch) (dC : Nat → ClassId) (dI : Nat → Nat → Nat) (cI cJ cB cZ : ClassId) (h_t : Nat) (h_tape : Nat) (h_row : Nat) (h_out : Nat) (h_sought : Nat) (h_start : Nat) (h_documentOf : Nat) (h_order : Nat) (h_rankOf : Nat) (h_same : Nat) (h_work : Nat) (h_next : Nat) (h_often : Nat) (h_has : Nat) (sz : Nat) (z_thrown : Int32) (z_size : Int32) (z_outSize : Int32) (z_soughtSize : Int32) (z_documents : Int32) (z_indexed : Int32) (z_suffixes : Int32) (z_rows : Int32) (z_lesser : Int32) (z_out : Nat → Int32) (a_p1 : Int32) (post : Int32 → Int32 → Prop) (hv : vc_MD_out a_p1 z_outSize z_out post z_thrown) : Met l y_MD_out (Cond.code y_MD_out b_MD_out 2 (some .int) :: WT) rm_MD_out (cPre (dC, dI) classes (TYS cI cJ cB cZ) [(h_t, .inr (8, [.int z_thrown, .ref h_tape, .ref h_row, .ref h_out, .ref h_sought, .int z_size, .int z_outSize, .int z_soughtSize, .int z_documents, .int z_indexed, .int z_suffixes, .int z_rows, .ref h_start, .ref h_documentOf, .ref h_order, .ref h_rankOf, .ref h_same, .ref h_work, .ref h_next, .ref h_often, .ref h_has, .int z_lesser])), (h_out, .inl (cB, 16384, .inl z_out))] sz [.ref h_t, .int a_p1]) (va_Qi (fun (r : Int32) (u : Int32) => post r u) (fun u t => cAft (dC, dI) classes (TYS cI cJ cB cZ) (va_A [(h_t, .inr (8, [.int z_thrown, .ref h_tape, .ref h_row, .ref h_out, .ref h_sought, .int z_size, .int z_outSize, .int z_soughtSize, .int z_documents, .int z_indexed, .int z_suffixes, .int z_rows, .ref h_start, .ref h_documentOf, .ref h_order, .ref h_rankOf, .ref h_same, .ref h_work, .ref h_next, .ref h_often, .ref h_has, .int z_lesser])), (h_out, .inl (cB, 16384, .inl z_out))] sz) [(h_t, .inr (8, [.int u, .ref h_tape, .ref h_row, .ref h_out, .ref h_sought, .int z_size, .int z_outSize, .int z_soughtSize, .int z_documents, .int z_indexed, .int z_suffixes, .int z_rows, .ref h_start, .ref h_documentOf, .ref h_order, .ref h_rankOf, .ref h_same, .ref h_work, .ref h_next, .ref h_often, .ref h_has, .int z_lesser])), (h_out, .inl (cB, 16384, .inl z_out))] t) (va_A [(h_t, .inr (8, [.int z_thrown, .ref h_tape, .ref h_row, .ref h_out, .ref h_sought, .int z_size, .int z_outSize, .int z_soughtSize, .int z_documents, .int z_indexed, .int z_suffixes, .int z_rows, .ref h_start, .ref h_documentOf, .ref h_order, .ref h_rankOf, .ref h_same, .ref h_work, .ref h_next, .ref h_often, .ref h_has, .int z_lesser])), (h_out, .inl (cB, 16384, .inl z_out))] sz)) 0 0 (va_A [(h_t, .inr (8, [.int z_thrown, .ref h_tape, .ref h_row, .ref h_out, .ref h_sought, .int z_size, .int z_outSize, .int z_soughtSize, .int z_documents, .int z_indexed, .int z_suffixes, .int z_rows, .ref h_start, .ref h_documentOf, .ref h_order, .ref h_rankOf, .ref h_same, .ref h_work, .ref h_next, .ref h_often, .ref h_has, .int z_lesser])), (h_out, .inl (cB, 16384, .inl z_out))] sz) := by
  refine Met.ofW (cc := b_MD_out) (maxL := 2) (ret := (some .int)) (by decide) rfl ?_
  intro p e s m args below meth c s₁ B hml hq
  obtain ⟨rfl, hsz, hP, hK, hD0⟩ := hq
  have hts := atoms_spec (ws := Cond.code y_MD_out b_MD_out 2 (some .int) :: WT) B.pre
  have hw : ∀ w ∈ WT, w.before ([.ref h_t, .int a_p1] : List Value).toArray s = true := fun w h => hts w (List.mem_cons_of_mem _ h)
  have hx := B.exec
  have hb := B.bytes
  have hr := B.returns
  have hlk := B.notSynchronized
  have hown : s.vm.findClass "SuffixIndexModel" = some m.cls := findClass_of_methodNamed B.named
  have F : CallFix p m c b_MD_out 2 s ([.ref h_t, .int a_p1] : List Value).toArray WT "SuffixIndexModel" := ⟨hx, hb, hml, hown, hw⟩
  subst hsz
  have hD := hD0.self (sz := s.heap.size)
  generalize hAe : va_A [(h_t, .inr (8, [.int z_thrown, .ref h_tape, .ref h_row, .ref h_out, .ref h_sought, .int z_size, .int z_outSize, .int z_soughtSize, .int z_documents, .int z_indexed, .int z_suffixes, .int z_rows, .ref h_start, .ref h_documentOf, .ref h_order, .ref h_rankOf, .ref h_same, .ref h_work, .ref h_next, .ref h_often, .ref h_has, .int z_lesser])), (h_out, .inl (cB, 16384, .inl z_out))] s.heap.size = A at hD ⊢
  have hA : ∀ q : Nat, s.heap.size ≤ q → A q := fun q h => by rw [← hAe]; exact Or.inr h
  have hS : va_S A s.heap s.heap [] := va_S.rf
  have hl := lv_entry ([.ref h_t, .int a_p1]) (n := 2) (Nat.le_of_ble_eq_true rfl)
  rw [lg_entry_eq]
  generalize (lg_sl ([.ref h_t, .int a_p1]) ++ List.replicate (2 - (lg_sl ([.ref h_t, .int a_p1])).length) Slot.unset).toArray = ls at hl ⊢
  have hl : lv_has ls 2 [(0, .ref h_t), (1, .int a_p1)] := hl
  show W p l e rm_MD_out s m _ below meth c s.heap [] 0 0 _ _
  have hP : va_P (dC, dI) classes [(h_t, .inr (8, [.int z_thrown, .ref h_tape, .ref h_row, .ref h_out, .ref h_sought, .int z_size, .int z_outSize, .int z_soughtSize, .int z_documents, .int z_indexed, .int z_suffixes, .int z_rows, .ref h_start, .ref h_documentOf, .ref h_order, .ref h_rankOf, .ref h_same, .ref h_work, .ref h_next, .ref h_often, .ref h_has, .int z_lesser])), (h_out, .inl (cB, 16384, .inl z_out))] s.heap := hP
  obtain ⟨H, hHe⟩ : ∃ H, H = s.heap := ⟨_, rfl⟩
  have hS : va_S A s.heap H [] := by rw [hHe]; exact hS
  rw [← hHe] at hP
  suffices hgoal : W p l e rm_MD_out s m ([.ref h_t, .int a_p1] : List Value).toArray below meth c H [] 0 0 (MQ below (va_Qi (fun (r : Int32) (u : Int32) => post r u) (fun u t => cAft (dC, dI) classes (TYS cI cJ cB cZ) A [(h_t, .inr (8, [.int u, .ref h_tape, .ref h_row, .ref h_out, .ref h_sought, .int z_size, .int z_outSize, .int z_soughtSize, .int z_documents, .int z_indexed, .int z_suffixes, .int z_rows, .ref h_start, .ref h_documentOf, .ref h_order, .ref h_rankOf, .ref h_same, .ref h_work, .ref h_next, .ref h_often, .ref h_has, .int z_lesser])), (h_out, .inl (cB, 16384, .inl z_out))] t) A) ([.ref h_t, .int a_p1] : List Value).toArray s 0 0 A) (F0 m 0 ls []) by rw [hHe] at hgoal; exact hgoal
  refine lv_aload_n hx hb d_MD_out_0 rfl (lv_at hl 0 rfl) ?_
  refine lv_iconst (v := 0) hx hb d_MD_out_1 (by decide) ?_
  refine va_put (D := (dC, dI)) (ci := 8) (v := .int 0) (ty := .int) (C := "SuffixIndexModel") (T := F_MD) (N := 22) hx hb hw i_MD t_MD t_MD_ok n_MD hown hK hP hD hS 0 rfl rfl 0 (by decide) (hw _ m_1101) (fun _ h9 => h9) rfl (by decide +kernel) rfl rfl (Nat.le_of_ble_eq_true rfl) d_MD_out_2 (fun H locs hP hD hS => ?_)
  have hP : va_P (dC, dI) classes [(h_t, .inr (8, [.int 0, .ref h_tape, .ref h_row, .ref h_out, .ref h_sought, .int z_size, .int z_outSize, .int z_soughtSize, .int z_documents, .int z_indexed, .int z_suffixes, .int z_rows, .ref h_start, .ref h_documentOf, .ref h_order, .ref h_rankOf, .ref h_same, .ref h_work, .ref h_next, .ref h_often, .ref h_has, .int z_lesser])), (h_out, .inl (cB, 16384, .inl z_out))] H := hP
  have hD : va_D A [(h_t, .inr (8, [.int 0, .ref h_tape, .ref h_row, .ref h_out, .ref h_sought, .int z_size, .int z_outSize, .int z_soughtSize, .int z_documents, .int z_indexed, .int z_suffixes, .int z_rows, .ref h_start, .ref h_documentOf, .ref h_order, .ref h_rankOf, .ref h_same, .ref h_work, .ref h_next, .ref h_often, .ref h_has, .int z_lesser])), (h_out, .inl (cB, 16384, .inl z_out))] := hD
  refine lv_aload_n hx hb d_MD_out_5 rfl (lv_at hl 0 rfl) ?_
  refine lv_iconst (v := 1) hx hb d_MD_out_6 (by decide) ?_
  refine lv_iload_n hx hb d_MD_out_7 rfl (lv_at hl 1 rfl) ?_
  obtain ⟨hvt, hvf⟩ := hv
  refine lv_if_lt (tgt := 19) hx hb d_MD_out_8 (by decide) (fun c3 => ?_) (fun c3 => ?_)
  · have hv := hvt c3
    exact wk_MD_out_19 F hr hlk hK hA 1 0 hv _ _ _ hP hD hS (lv_sub hl [0, 1] rfl)
  · have hv := hvf c3
    refine lv_iload_n hx hb d_MD_out_11 rfl (lv_at hl 1 rfl) ?_
    refine lv_aload_n hx hb d_MD_out_12 rfl (lv_at hl 0 rfl) ?_
    refine va_get (D := (dC, dI)) (ci := 8) (v := .int z_outSize) (C := "SuffixIndexModel") (T := F_MD) (N := 22) hx hb hw i_MD hown hK hP 0 rfl rfl 6 (by decide) (hw _ m_1107) (fun _ h9 => h9) rfl d_MD_out_13 ?_
    obtain ⟨hvt, hvf⟩ := hv
    refine lv_icmp_lt (tgt := 23) hx hb d_MD_out_16 (by decide) (fun c4 => ?_) (fun c4 => ?_)
    · have hv := hvt c4
      refine lv_iconst (v := 0) hx hb d_MD_out_23 (by decide) ?_
      exact wk_MD_out_24 F hr hlk hK hA 1 0 0 hv _ _ _ hP hD hS (lv_sub hl [0, 1] rfl)
    · have hv := hvf c4
      exact wk_MD_out_19 F hr hlk hK hA 1 0 hv _ _ _ hP hD hS (lv_sub hl [0, 1] rfl)

set_option maxHeartbeats 4000000 in
set_option maxRecDepth 100000 in
theorem wk_MD_at_22 {p : Program} {l : Launch} {e : Env} {s : State} {m : MethodId} {below : List Frame} {meth : Method} {c : Code} {A : Nat → Prop} {dC : Nat → ClassId} {dI : Nat → Nat → Nat} {cI cJ cB cZ : ClassId} {h_t : Nat} {h_tape : Nat} {h_row : Nat} {h_out : Nat} {h_sought : Nat} {h_start : Nat} {h_documentOf : Nat} {h_order : Nat} {h_rankOf : Nat} {h_same : Nat} {h_work : Nat} {h_next : Nat} {h_often : Nat} {h_has : Nat} {a_p1 : Int32} {z_indexed : Int32} {z_row : Nat → Int32} {z_start : Nat → Int32} {z_size : Int32} {z_outSize : Int32} {z_soughtSize : Int32} {z_documents : Int32} {z_suffixes : Int32} {z_rows : Int32} {z_lesser : Int32} {post : Int32 → Int32 → Prop} (F : CallFix p m c b_MD_at 3 s ([.ref h_t, .int a_p1] : List Value).toArray WT "SuffixIndexModel") (hr : meth.sig.returnType = (some .int)) (hlk : meth.locks = false) (hK : va_K (dC, dI) classes (TYS cI cJ cB cZ) s) (hA : ∀ q, s.heap.size ≤ q → A q) : ∀ (x2 : Int32) (k1 : Int32) (k2 : Int32) (z_thrown : Int32), vc_MD_at_22 a_p1 z_indexed z_row z_start post x2 k1 k2 z_thrown → ∀ (H : Heap) (locs : List Loc) (ls : Array Slot), va_P (dC, dI) classes [(h_t, .inr (8, [.int z_thrown, .ref h_tape, .ref h_row, .ref h_out, .ref h_sought, .int z_size, .int z_outSize, .int z_soughtSize, .int z_documents, .int z_indexed, .int z_suffixes, .int z_rows, .ref h_start, .ref h_documentOf, .ref h_order, .ref h_rankOf, .ref h_same, .ref h_work, .ref h_next, .ref h_often, .ref h_has, .int z_lesser])), (h_row, .inl (cB, 16384, .inl z_row)), (h_start, .inl (cI, 66, .inl z_start))] H → va_D A [(h_t, .inr (8, [.int z_thrown, .ref h_tape, .ref h_row, .ref h_out, .ref h_sought, .int z_size, .int z_outSize, .int z_soughtSize, .int z_documents, .int z_indexed, .int z_suffixes, .int z_rows, .ref h_start, .ref h_documentOf, .ref h_order, .ref h_rankOf, .ref h_same, .ref h_work, .ref h_next, .ref h_often, .ref h_has, .int z_lesser])), (h_row, .inl (cB, 16384, .inl z_row)), (h_start, .inl (cI, 66, .inl z_start))] → va_S A s.heap H locs → lv_has ls 3 [(0, .ref h_t), (2, .int x2)] → W p l e rm_MD_at s m ([.ref h_t, .int a_p1] : List Value).toArray below meth c H locs 0 0 (MQ below (va_Qi (fun (r : Int32) (u : Int32) => post r u) (fun u t => cAft (dC, dI) classes (TYS cI cJ cB cZ) A [(h_t, .inr (8, [.int u, .ref h_tape, .ref h_row, .ref h_out, .ref h_sought, .int z_size, .int z_outSize, .int z_soughtSize, .int z_documents, .int z_indexed, .int z_suffixes, .int z_rows, .ref h_start, .ref h_documentOf, .ref h_order, .ref h_rankOf, .ref h_same, .ref h_work, .ref h_next, .ref h_often, .ref h_has, .int z_lesser])), (h_row, .inl (cB, 16384, .inl z_row)), (h_start, .inl (cI, 66, .inl z_start))] t) A) ([.ref h_t, .int a_p1] : List Value).toArray s 0 0 A) (F0 m 22 ls [.int k2, .int k1, .ref h_t]) := by
  obtain ⟨hx, hb, hml, hown, hw⟩ := id F
  intro x2 k1 k2 z_thrown hv H locs ls hP hD hS hl
  refine cV_i (wr := [(h_row, .inl (cB, 16384, .inl z_row)), (h_start, .inl (cI, 66, .inl z_start))]) (rest := []) (c_MD_refuse l dC dI cI cJ cB cZ h_t h_tape h_row h_out h_sought h_start h_documentOf h_order h_rankOf h_same h_work h_next h_often h_has H.size z_thrown z_size z_outSize z_soughtSize z_documents z_indexed z_suffixes z_rows z_lesser k1 k2 _ hv) F (cw_V (fun _ h => h) 2 hw m_1177 m_1179 ms_29 m_9 m_1180 rfl rfl (by decide +kernel) ⟨by decide, by decide⟩) hK hP hD hS hA [0] [1, 2] rfl rfl rfl rfl (by decide) 0 8 rfl rfl rfl hl.1 rfl (Nat.le_of_ble_eq_true rfl) d_MD_at_22 ⟨Nat.le_of_ble_eq_true rfl, Nat.le_of_ble_eq_true rfl⟩ (fun r1 u H locs hv hP hD hS => ?_)
  obtain ⟨u1_0, rfl⟩ : ∃ z, z = u := ⟨_, rfl⟩
  have hP : va_P (dC, dI) classes [(h_t, .inr (8, [.int u1_0, .ref h_tape, .ref h_row, .ref h_out, .ref h_sought, .int z_size, .int z_outSize, .int z_soughtSize, .int z_documents, .int z_indexed, .int z_suffixes, .int z_rows, .ref h_start, .ref h_documentOf, .ref h_order, .ref h_rankOf, .ref h_same, .ref h_work, .ref h_next, .ref h_often, .ref h_has, .int z_lesser])), (h_row, .inl (cB, 16384, .inl z_row)), (h_start, .inl (cI, 66, .inl z_start))] H := P_sub hP [2, 0, 1] rfl
  have hD : va_D A [(h_t, .inr (8, [.int u1_0, .ref h_tape, .ref h_row, .ref h_out, .ref h_sought, .int z_size, .int z_outSize, .int z_soughtSize, .int z_documents, .int z_indexed, .int z_suffixes, .int z_rows, .ref h_start, .ref h_documentOf, .ref h_order, .ref h_rankOf, .ref h_same, .ref h_work, .ref h_next, .ref h_often, .ref h_has, .int z_lesser])), (h_row, .inl (cB, 16384, .inl z_row)), (h_start, .inl (cI, 66, .inl z_start))] := hD.sub [2, 0, 1] rfl rfl
  obtain ⟨hvt, hvf⟩ := hv
  refine lv_if_eq (tgt := 30) hx hb d_MD_at_25 (by decide) (fun c2 => ?_) (fun c2 => ?_)
  · have hv := hvt c2
    refine lv_aload_n hx hb d_MD_at_30 rfl (lv_at hl 0 rfl) ?_
    refine va_get (D := (dC, dI)) (ci := 8) (v := .ref h_row) (C := "SuffixIndexModel") (T := F_MD) (N := 22) hx hb hw i_MD hown hK hP 0 rfl rfl 2 (by decide) (hw _ m_1103) (fun _ h9 => h9) rfl d_MD_at_31 ?_
    refine lv_iload_n hx hb d_MD_at_34 rfl (lv_at hl 1 rfl) ?_
    obtain ⟨hin, hv⟩ := hv
    refine va_bald hx hb hK hP 1 2 rfl rfl hin d_MD_at_35 ?_
    refine lv_sipush (v := 255) hx hb d_MD_at_36 (by decide) ?_
    refine lv_iand hx hb d_MD_at_39 ?_
    exact W.iret (v := (z_row x2.toNatClampNeg) &&& 255) hx hb hr (fun t ht hW => ⟨⟨(z_row x2.toNatClampNeg) &&& 255, u1_0, rfl, hv, by rw [ht]; exact hP, va_K.moved hW.alike hK, hD⟩, hS.F ht⟩) hS.2.2 d_MD_at_40
  · have hv := hvf c2
    refine lv_iconst (v := 0) hx hb d_MD_at_28 (by decide) ?_
    exact W.iret (v := 0) hx hb hr (fun t ht hW => ⟨⟨0, u1_0, rfl, hv, by rw [ht]; exact hP, va_K.moved hW.alike hK, hD⟩, hS.F ht⟩) hS.2.2 d_MD_at_29

set_option maxHeartbeats 4000000 in
set_option maxRecDepth 100000 in
theorem c_MD_at (l : Launch) (dC : Nat → ClassId) (dI : Nat → Nat → Nat) (cI cJ cB cZ : ClassId) (h_t : Nat) (h_tape : Nat) (h_row : Nat) (h_out : Nat) (h_sought : Nat) (h_start : Nat) (h_documentOf : Nat) (h_order : Nat) (h_rankOf : Nat) (h_same : Nat) (h_work : Nat) (h_next : Nat) (h_often : Nat) (h_has : Nat) (sz : Nat) (z_thrown : Int32) (z_size : Int32) (z_outSize : Int32) (z_soughtSize : Int32) (z_documents : Int32) (z_indexed : Int32) (z_suffixes : Int32) (z_rows : Int32) (z_lesser : Int32) (z_row : Nat → Int32) (z_start : Nat → Int32) (a_p1 : Int32) (post : Int32 → Int32 → Prop) (hv : vc_MD_at a_p1 z_indexed z_row z_start post z_thrown) : Met l y_MD_at (Cond.code y_MD_at b_MD_at 3 (some .int) :: WT) rm_MD_at (cPre (dC, dI) classes (TYS cI cJ cB cZ) [(h_t, .inr (8, [.int z_thrown, .ref h_tape, .ref h_row, .ref h_out, .ref h_sought, .int z_size, .int z_outSize, .int z_soughtSize, .int z_documents, .int z_indexed, .int z_suffixes, .int z_rows, .ref h_start, .ref h_documentOf, .ref h_order, .ref h_rankOf, .ref h_same, .ref h_work, .ref h_next, .ref h_often, .ref h_has, .int z_lesser])), (h_row, .inl (cB, 16384, .inl z_row)), (h_start, .inl (cI, 66, .inl z_start))] sz [.ref h_t, .int a_p1]) (va_Qi (fun (r : Int32) (u : Int32) => post r u) (fun u t => cAft (dC, dI) classes (TYS cI cJ cB cZ) (va_A [(h_t, .inr (8, [.int z_thrown, .ref h_tape, .ref h_row, .ref h_out, .ref h_sought, .int z_size, .int z_outSize, .int z_soughtSize, .int z_documents, .int z_indexed, .int z_suffixes, .int z_rows, .ref h_start, .ref h_documentOf, .ref h_order, .ref h_rankOf, .ref h_same, .ref h_work, .ref h_next, .ref h_often, .ref h_has, .int z_lesser])), (h_row, .inl (cB, 16384, .inl z_row)), (h_start, .inl (cI, 66, .inl z_start))] sz) [(h_t, .inr (8, [.int u, .ref h_tape, .ref h_row, .ref h_out, .ref h_sought, .int z_size, .int z_outSize, .int z_soughtSize, .int z_documents, .int z_indexed, .int z_suffixes, .int z_rows, .ref h_start, .ref h_documentOf, .ref h_order, .ref h_rankOf, .ref h_same, .ref h_work, .ref h_next, .ref h_often, .ref h_has, .int z_lesser])), (h_row, .inl (cB, 16384, .inl z_row)), (h_start, .inl (cI, 66, .inl z_start))] t) (va_A [(h_t, .inr (8, [.int z_thrown, .ref h_tape, .ref h_row, .ref h_out, .ref h_sought, .int z_size, .int z_outSize, .int z_soughtSize, .int z_documents, .int z_indexed, .int z_suffixes, .int z_rows, .ref h_start, .ref h_documentOf, .ref h_order, .ref h_rankOf, .ref h_same, .ref h_work, .ref h_next, .ref h_often, .ref h_has, .int z_lesser])), (h_row, .inl (cB, 16384, .inl z_row)), (h_start, .inl (cI, 66, .inl z_start))] sz)) 0 0 (va_A [(h_t, .inr (8, [.int z_thrown, .ref h_tape, .ref h_row, .ref h_out, .ref h_sought, .int z_size, .int z_outSize, .int z_soughtSize, .int z_documents, .int z_indexed, .int z_suffixes, .int z_rows, .ref h_start, .ref h_documentOf, .ref h_order, .ref h_rankOf, .ref h_same, .ref h_work, .ref h_next, .ref h_often, .ref h_has, .int z_lesser])), (h_row, .inl (cB, 16384, .inl z_row)), (h_start, .inl (cI, 66, .inl z_start))] sz) := by
  refine Met.ofW (cc := b_MD_at) (maxL := 3) (ret := (some .int)) (by decide) rfl ?_
  intro p e s m args below meth c s₁ B hml hq
  obtain ⟨rfl, hsz, hP, hK, hD0⟩ := hq
  have hts := atoms_spec (ws := Cond.code y_MD_at b_MD_at 3 (some .int) :: WT) B.pre
  have hw : ∀ w ∈ WT, w.before ([.ref h_t, .int a_p1] : List Value).toArray s = true := fun w h => hts w (List.mem_cons_of_mem _ h)
  have hx := B.exec
  have hb := B.bytes
  have hr := B.returns
  have hlk := B.notSynchronized
  have hown : s.vm.findClass "SuffixIndexModel" = some m.cls := findClass_of_methodNamed B.named
  have F : CallFix p m c b_MD_at 3 s ([.ref h_t, .int a_p1] : List Value).toArray WT "SuffixIndexModel" := ⟨hx, hb, hml, hown, hw⟩
  subst hsz
  have hD := hD0.self (sz := s.heap.size)
  generalize hAe : va_A [(h_t, .inr (8, [.int z_thrown, .ref h_tape, .ref h_row, .ref h_out, .ref h_sought, .int z_size, .int z_outSize, .int z_soughtSize, .int z_documents, .int z_indexed, .int z_suffixes, .int z_rows, .ref h_start, .ref h_documentOf, .ref h_order, .ref h_rankOf, .ref h_same, .ref h_work, .ref h_next, .ref h_often, .ref h_has, .int z_lesser])), (h_row, .inl (cB, 16384, .inl z_row)), (h_start, .inl (cI, 66, .inl z_start))] s.heap.size = A at hD ⊢
  have hA : ∀ q : Nat, s.heap.size ≤ q → A q := fun q h => by rw [← hAe]; exact Or.inr h
  have hS : va_S A s.heap s.heap [] := va_S.rf
  have hl := lv_entry ([.ref h_t, .int a_p1]) (n := 3) (Nat.le_of_ble_eq_true rfl)
  rw [lg_entry_eq]
  generalize (lg_sl ([.ref h_t, .int a_p1]) ++ List.replicate (3 - (lg_sl ([.ref h_t, .int a_p1])).length) Slot.unset).toArray = ls at hl ⊢
  have hl : lv_has ls 3 [(0, .ref h_t), (1, .int a_p1)] := hl
  show W p l e rm_MD_at s m _ below meth c s.heap [] 0 0 _ _
  have hP : va_P (dC, dI) classes [(h_t, .inr (8, [.int z_thrown, .ref h_tape, .ref h_row, .ref h_out, .ref h_sought, .int z_size, .int z_outSize, .int z_soughtSize, .int z_documents, .int z_indexed, .int z_suffixes, .int z_rows, .ref h_start, .ref h_documentOf, .ref h_order, .ref h_rankOf, .ref h_same, .ref h_work, .ref h_next, .ref h_often, .ref h_has, .int z_lesser])), (h_row, .inl (cB, 16384, .inl z_row)), (h_start, .inl (cI, 66, .inl z_start))] s.heap := hP
  obtain ⟨H, hHe⟩ : ∃ H, H = s.heap := ⟨_, rfl⟩
  have hS : va_S A s.heap H [] := by rw [hHe]; exact hS
  rw [← hHe] at hP
  suffices hgoal : W p l e rm_MD_at s m ([.ref h_t, .int a_p1] : List Value).toArray below meth c H [] 0 0 (MQ below (va_Qi (fun (r : Int32) (u : Int32) => post r u) (fun u t => cAft (dC, dI) classes (TYS cI cJ cB cZ) A [(h_t, .inr (8, [.int u, .ref h_tape, .ref h_row, .ref h_out, .ref h_sought, .int z_size, .int z_outSize, .int z_soughtSize, .int z_documents, .int z_indexed, .int z_suffixes, .int z_rows, .ref h_start, .ref h_documentOf, .ref h_order, .ref h_rankOf, .ref h_same, .ref h_work, .ref h_next, .ref h_often, .ref h_has, .int z_lesser])), (h_row, .inl (cB, 16384, .inl z_row)), (h_start, .inl (cI, 66, .inl z_start))] t) A) ([.ref h_t, .int a_p1] : List Value).toArray s 0 0 A) (F0 m 0 ls []) by rw [hHe] at hgoal; exact hgoal
  refine lv_aload_n hx hb d_MD_at_0 rfl (lv_at hl 0 rfl) ?_
  refine lv_iconst (v := 0) hx hb d_MD_at_1 (by decide) ?_
  refine va_put (D := (dC, dI)) (ci := 8) (v := .int 0) (ty := .int) (C := "SuffixIndexModel") (T := F_MD) (N := 22) hx hb hw i_MD t_MD t_MD_ok n_MD hown hK hP hD hS 0 rfl rfl 0 (by decide) (hw _ m_1101) (fun _ h9 => h9) rfl (by decide +kernel) rfl rfl (Nat.le_of_ble_eq_true rfl) d_MD_at_2 (fun H locs hP hD hS => ?_)
  have hP : va_P (dC, dI) classes [(h_t, .inr (8, [.int 0, .ref h_tape, .ref h_row, .ref h_out, .ref h_sought, .int z_size, .int z_outSize, .int z_soughtSize, .int z_documents, .int z_indexed, .int z_suffixes, .int z_rows, .ref h_start, .ref h_documentOf, .ref h_order, .ref h_rankOf, .ref h_same, .ref h_work, .ref h_next, .ref h_often, .ref h_has, .int z_lesser])), (h_row, .inl (cB, 16384, .inl z_row)), (h_start, .inl (cI, 66, .inl z_start))] H := hP
  have hD : va_D A [(h_t, .inr (8, [.int 0, .ref h_tape, .ref h_row, .ref h_out, .ref h_sought, .int z_size, .int z_outSize, .int z_soughtSize, .int z_documents, .int z_indexed, .int z_suffixes, .int z_rows, .ref h_start, .ref h_documentOf, .ref h_order, .ref h_rankOf, .ref h_same, .ref h_work, .ref h_next, .ref h_often, .ref h_has, .int z_lesser])), (h_row, .inl (cB, 16384, .inl z_row)), (h_start, .inl (cI, 66, .inl z_start))] := hD
  refine lv_aload_n hx hb d_MD_at_5 rfl (lv_at hl 0 rfl) ?_
  refine lv_iload_n hx hb d_MD_at_6 rfl (lv_at hl 1 rfl) ?_
  refine cV_i (wr := [(h_row, .inl (cB, 16384, .inl z_row))]) (rest := []) (c_MD_placeOf l dC dI cI cJ cB cZ h_t h_tape h_row h_out h_sought h_start h_documentOf h_order h_rankOf h_same h_work h_next h_often h_has H.size 0 z_size z_outSize z_soughtSize z_documents z_indexed z_suffixes z_rows z_lesser z_start a_p1 _ hv) F (cw_V (fun _ h => h) 1 hw m_1259 m_1261 ms_38 m_9 m_1262 rfl rfl (by decide +kernel) ⟨by decide, by decide⟩) hK hP hD hS hA [0, 2] [1] rfl rfl rfl rfl (by decide) 0 8 rfl rfl rfl hl.1 rfl (Nat.le_of_ble_eq_true rfl) d_MD_at_7 ⟨Nat.le_of_ble_eq_true rfl, Nat.le_of_ble_eq_true rfl⟩ (fun r3 u H locs hv hP hD hS => ?_)
  have hP : va_P (dC, dI) classes [(h_t, .inr (8, [.int 0, .ref h_tape, .ref h_row, .ref h_out, .ref h_sought, .int z_size, .int z_outSize, .int z_soughtSize, .int z_documents, .int z_indexed, .int z_suffixes, .int z_rows, .ref h_start, .ref h_documentOf, .ref h_order, .ref h_rankOf, .ref h_same, .ref h_work, .ref h_next, .ref h_often, .ref h_has, .int z_lesser])), (h_row, .inl (cB, 16384, .inl z_row)), (h_start, .inl (cI, 66, .inl z_start))] H := P_sub hP [1, 0, 2] rfl
  have hD : va_D A [(h_t, .inr (8, [.int 0, .ref h_tape, .ref h_row, .ref h_out, .ref h_sought, .int z_size, .int z_outSize, .int z_soughtSize, .int z_documents, .int z_indexed, .int z_suffixes, .int z_rows, .ref h_start, .ref h_documentOf, .ref h_order, .ref h_rankOf, .ref h_same, .ref h_work, .ref h_next, .ref h_often, .ref h_has, .int z_lesser])), (h_row, .inl (cB, 16384, .inl z_row)), (h_start, .inl (cI, 66, .inl z_start))] := hD.sub [1, 0, 2] rfl rfl
  refine lv_istore_n (lv' := [(2, .int r3), (0, .ref h_t), (1, .int a_p1)]) hx hb d_MD_at_10 rfl hl (by decide) rfl (fun ls hl => ?_)
  refine lv_aload_n hx hb d_MD_at_11 rfl (lv_at hl 1 rfl) ?_
  refine lv_iconst (v := 1) hx hb d_MD_at_12 (by decide) ?_
  refine lv_iload_n hx hb d_MD_at_13 rfl (lv_at hl 0 rfl) ?_
  obtain ⟨hvt, hvf⟩ := hv
  refine lv_if_ge (tgt := 21) hx hb d_MD_at_14 (by decide) (fun c4 => ?_) (fun c4 => ?_)
  · have hv := hvt c4
    refine lv_iconst (v := 0) hx hb d_MD_at_21 (by decide) ?_
    exact wk_MD_at_22 F hr hlk hK hA r3 1 0 0 hv _ _ _ hP hD hS (lv_sub hl [1, 0] rfl)
  · have hv := hvf c4
    refine lv_iconst (v := 1) hx hb d_MD_at_17 (by decide) ?_
    refine lv_goto (tgt := 22) hx hb d_MD_at_18 (by decide) ?_
    exact wk_MD_at_22 F hr hlk hK hA r3 1 1 0 hv _ _ _ hP hD hS (lv_sub hl [1, 0] rfl)

set_option maxHeartbeats 4000000 in
set_option maxRecDepth 100000 in
theorem c_MD_count (l : Launch) (dC : Nat → ClassId) (dI : Nat → Nat → Nat) (cI cJ cB cZ : ClassId) (h_t : Nat) (h_tape : Nat) (h_row : Nat) (h_out : Nat) (h_sought : Nat) (h_start : Nat) (h_documentOf : Nat) (h_order : Nat) (h_rankOf : Nat) (h_same : Nat) (h_work : Nat) (h_next : Nat) (h_often : Nat) (h_has : Nat) (sz : Nat) (z_thrown : Int32) (z_size : Int32) (z_outSize : Int32) (z_soughtSize : Int32) (z_documents : Int32) (z_indexed : Int32) (z_suffixes : Int32) (z_rows : Int32) (z_lesser : Int32) (a_p1 : Int32) (post : Int32 → Int32 → Prop) (hv : vc_MD_count a_p1 z_size z_outSize z_soughtSize z_documents z_indexed z_suffixes post z_thrown) : Met l y_MD_count (Cond.code y_MD_count b_MD_count 2 (some .int) :: WT) rm_MD_count (cPre (dC, dI) classes (TYS cI cJ cB cZ) [(h_t, .inr (8, [.int z_thrown, .ref h_tape, .ref h_row, .ref h_out, .ref h_sought, .int z_size, .int z_outSize, .int z_soughtSize, .int z_documents, .int z_indexed, .int z_suffixes, .int z_rows, .ref h_start, .ref h_documentOf, .ref h_order, .ref h_rankOf, .ref h_same, .ref h_work, .ref h_next, .ref h_often, .ref h_has, .int z_lesser]))] sz [.ref h_t, .int a_p1]) (va_Qi (fun (r : Int32) (u : Int32) => post r u) (fun u t => cAft (dC, dI) classes (TYS cI cJ cB cZ) (va_A [(h_t, .inr (8, [.int z_thrown, .ref h_tape, .ref h_row, .ref h_out, .ref h_sought, .int z_size, .int z_outSize, .int z_soughtSize, .int z_documents, .int z_indexed, .int z_suffixes, .int z_rows, .ref h_start, .ref h_documentOf, .ref h_order, .ref h_rankOf, .ref h_same, .ref h_work, .ref h_next, .ref h_often, .ref h_has, .int z_lesser]))] sz) [(h_t, .inr (8, [.int u, .ref h_tape, .ref h_row, .ref h_out, .ref h_sought, .int z_size, .int z_outSize, .int z_soughtSize, .int z_documents, .int z_indexed, .int z_suffixes, .int z_rows, .ref h_start, .ref h_documentOf, .ref h_order, .ref h_rankOf, .ref h_same, .ref h_work, .ref h_next, .ref h_often, .ref h_has, .int z_lesser]))] t) (va_A [(h_t, .inr (8, [.int z_thrown, .ref h_tape, .ref h_row, .ref h_out, .ref h_sought, .int z_size, .int z_outSize, .int z_soughtSize, .int z_documents, .int z_indexed, .int z_suffixes, .int z_rows, .ref h_start, .ref h_documentOf, .ref h_order, .ref h_rankOf, .ref h_same, .ref h_work, .ref h_next, .ref h_often, .ref h_has, .int z_lesser]))] sz)) 0 0 (va_A [(h_t, .inr (8, [.int z_thrown, .ref h_tape, .ref h_row, .ref h_out, .ref h_sought, .int z_size, .int z_outSize, .int z_soughtSize, .int z_documents, .int z_indexed, .int z_suffixes, .int z_rows, .ref h_start, .ref h_documentOf, .ref h_order, .ref h_rankOf, .ref h_same, .ref h_work, .ref h_next, .ref h_often, .ref h_has, .int z_lesser]))] sz) := by
  refine Met.ofW (cc := b_MD_count) (maxL := 2) (ret := (some .int)) (by decide) rfl ?_
  intro p e s m args below meth c s₁ B hml hq
  obtain ⟨rfl, hsz, hP, hK, hD0⟩ := hq
  have hts := atoms_spec (ws := Cond.code y_MD_count b_MD_count 2 (some .int) :: WT) B.pre
  have hw : ∀ w ∈ WT, w.before ([.ref h_t, .int a_p1] : List Value).toArray s = true := fun w h => hts w (List.mem_cons_of_mem _ h)
  have hx := B.exec
  have hb := B.bytes
  have hr := B.returns
  have hlk := B.notSynchronized
  have hown : s.vm.findClass "SuffixIndexModel" = some m.cls := findClass_of_methodNamed B.named
  have F : CallFix p m c b_MD_count 2 s ([.ref h_t, .int a_p1] : List Value).toArray WT "SuffixIndexModel" := ⟨hx, hb, hml, hown, hw⟩
  subst hsz
  have hD := hD0.self (sz := s.heap.size)
  generalize hAe : va_A [(h_t, .inr (8, [.int z_thrown, .ref h_tape, .ref h_row, .ref h_out, .ref h_sought, .int z_size, .int z_outSize, .int z_soughtSize, .int z_documents, .int z_indexed, .int z_suffixes, .int z_rows, .ref h_start, .ref h_documentOf, .ref h_order, .ref h_rankOf, .ref h_same, .ref h_work, .ref h_next, .ref h_often, .ref h_has, .int z_lesser]))] s.heap.size = A at hD ⊢
  have hA : ∀ q : Nat, s.heap.size ≤ q → A q := fun q h => by rw [← hAe]; exact Or.inr h
  have hS : va_S A s.heap s.heap [] := va_S.rf
  have hl := lv_entry ([.ref h_t, .int a_p1]) (n := 2) (Nat.le_of_ble_eq_true rfl)
  rw [lg_entry_eq]
  generalize (lg_sl ([.ref h_t, .int a_p1]) ++ List.replicate (2 - (lg_sl ([.ref h_t, .int a_p1])).length) Slot.unset).toArray = ls at hl ⊢
  have hl : lv_has ls 2 [(0, .ref h_t), (1, .int a_p1)] := hl
  show W p l e rm_MD_count s m _ below meth c s.heap [] 0 0 _ _
  have hP : va_P (dC, dI) classes [(h_t, .inr (8, [.int z_thrown, .ref h_tape, .ref h_row, .ref h_out, .ref h_sought, .int z_size, .int z_outSize, .int z_soughtSize, .int z_documents, .int z_indexed, .int z_suffixes, .int z_rows, .ref h_start, .ref h_documentOf, .ref h_order, .ref h_rankOf, .ref h_same, .ref h_work, .ref h_next, .ref h_often, .ref h_has, .int z_lesser]))] s.heap := hP
  obtain ⟨H, hHe⟩ : ∃ H, H = s.heap := ⟨_, rfl⟩
  have hS : va_S A s.heap H [] := by rw [hHe]; exact hS
  rw [← hHe] at hP
  suffices hgoal : W p l e rm_MD_count s m ([.ref h_t, .int a_p1] : List Value).toArray below meth c H [] 0 0 (MQ below (va_Qi (fun (r : Int32) (u : Int32) => post r u) (fun u t => cAft (dC, dI) classes (TYS cI cJ cB cZ) A [(h_t, .inr (8, [.int u, .ref h_tape, .ref h_row, .ref h_out, .ref h_sought, .int z_size, .int z_outSize, .int z_soughtSize, .int z_documents, .int z_indexed, .int z_suffixes, .int z_rows, .ref h_start, .ref h_documentOf, .ref h_order, .ref h_rankOf, .ref h_same, .ref h_work, .ref h_next, .ref h_often, .ref h_has, .int z_lesser]))] t) A) ([.ref h_t, .int a_p1] : List Value).toArray s 0 0 A) (F0 m 0 ls []) by rw [hHe] at hgoal; exact hgoal
  refine lv_aload_n hx hb d_MD_count_0 rfl (lv_at hl 0 rfl) ?_
  refine lv_iconst (v := 0) hx hb d_MD_count_1 (by decide) ?_
  refine va_put (D := (dC, dI)) (ci := 8) (v := .int 0) (ty := .int) (C := "SuffixIndexModel") (T := F_MD) (N := 22) hx hb hw i_MD t_MD t_MD_ok n_MD hown hK hP hD hS 0 rfl rfl 0 (by decide) (hw _ m_1101) (fun _ h9 => h9) rfl (by decide +kernel) rfl rfl (Nat.le_of_ble_eq_true rfl) d_MD_count_2 (fun H locs hP hD hS => ?_)
  have hP : va_P (dC, dI) classes [(h_t, .inr (8, [.int 0, .ref h_tape, .ref h_row, .ref h_out, .ref h_sought, .int z_size, .int z_outSize, .int z_soughtSize, .int z_documents, .int z_indexed, .int z_suffixes, .int z_rows, .ref h_start, .ref h_documentOf, .ref h_order, .ref h_rankOf, .ref h_same, .ref h_work, .ref h_next, .ref h_often, .ref h_has, .int z_lesser]))] H := hP
  have hD : va_D A [(h_t, .inr (8, [.int 0, .ref h_tape, .ref h_row, .ref h_out, .ref h_sought, .int z_size, .int z_outSize, .int z_soughtSize, .int z_documents, .int z_indexed, .int z_suffixes, .int z_rows, .ref h_start, .ref h_documentOf, .ref h_order, .ref h_rankOf, .ref h_same, .ref h_work, .ref h_next, .ref h_often, .ref h_has, .int z_lesser]))] := hD
  refine lv_iload_n hx hb d_MD_count_5 rfl (lv_at hl 1 rfl) ?_
  obtain ⟨hvt, hvf⟩ := hv
  by_cases c1 : a_p1 = 0
  · have hv := hvt c1
    refine lv_tableIn (tgt := 44) hx hb d_MD_count_6 (by rw [c1]; decide) (by rw [c1]; decide) (by rw [c1]; rfl) (by decide) ?_
    refine lv_aload_n hx hb d_MD_count_44 rfl (lv_at hl 0 rfl) ?_
    refine va_get (D := (dC, dI)) (ci := 8) (v := .int z_documents) (C := "SuffixIndexModel") (T := F_MD) (N := 22) hx hb hw i_MD hown hK hP 0 rfl rfl 8 (by decide) (hw _ m_1109) (fun _ h9 => h9) rfl d_MD_count_45 ?_
    exact W.iret (v := z_documents) hx hb hr (fun t ht hW => ⟨⟨z_documents, 0, rfl, hv, by rw [ht]; exact hP, va_K.moved hW.alike hK, hD⟩, hS.F ht⟩) hS.2.2 d_MD_count_48
  · have hv := hvf c1
    obtain ⟨hvt, hvf⟩ := hv
    by_cases c2 : a_p1 = 1
    · have hv := hvt c2
      refine lv_tableIn (tgt := 49) hx hb d_MD_count_6 (by rw [c2]; decide) (by rw [c2]; decide) (by rw [c2]; rfl) (by decide) ?_
      refine lv_aload_n hx hb d_MD_count_49 rfl (lv_at hl 0 rfl) ?_
      refine va_get (D := (dC, dI)) (ci := 8) (v := .int z_indexed) (C := "SuffixIndexModel") (T := F_MD) (N := 22) hx hb hw i_MD hown hK hP 0 rfl rfl 9 (by decide) (hw _ m_1110) (fun _ h9 => h9) rfl d_MD_count_50 ?_
      exact W.iret (v := z_indexed) hx hb hr (fun t ht hW => ⟨⟨z_indexed, 0, rfl, hv, by rw [ht]; exact hP, va_K.moved hW.alike hK, hD⟩, hS.F ht⟩) hS.2.2 d_MD_count_53
    · have hv := hvf c2
      obtain ⟨hvt, hvf⟩ := hv
      by_cases c3 : a_p1 = 2
      · have hv := hvt c3
        refine lv_tableIn (tgt := 54) hx hb d_MD_count_6 (by rw [c3]; decide) (by rw [c3]; decide) (by rw [c3]; rfl) (by decide) ?_
        refine lv_aload_n hx hb d_MD_count_54 rfl (lv_at hl 0 rfl) ?_
        refine va_get (D := (dC, dI)) (ci := 8) (v := .int z_suffixes) (C := "SuffixIndexModel") (T := F_MD) (N := 22) hx hb hw i_MD hown hK hP 0 rfl rfl 10 (by decide) (hw _ m_1111) (fun _ h9 => h9) rfl d_MD_count_55 ?_
        exact W.iret (v := z_suffixes) hx hb hr (fun t ht hW => ⟨⟨z_suffixes, 0, rfl, hv, by rw [ht]; exact hP, va_K.moved hW.alike hK, hD⟩, hS.F ht⟩) hS.2.2 d_MD_count_58
      · have hv := hvf c3
        obtain ⟨hvt, hvf⟩ := hv
        by_cases c4 : a_p1 = 3
        · have hv := hvt c4
          refine lv_tableIn (tgt := 59) hx hb d_MD_count_6 (by rw [c4]; decide) (by rw [c4]; decide) (by rw [c4]; rfl) (by decide) ?_
          refine lv_aload_n hx hb d_MD_count_59 rfl (lv_at hl 0 rfl) ?_
          refine va_get (D := (dC, dI)) (ci := 8) (v := .int z_size) (C := "SuffixIndexModel") (T := F_MD) (N := 22) hx hb hw i_MD hown hK hP 0 rfl rfl 5 (by decide) (hw _ m_1106) (fun _ h9 => h9) rfl d_MD_count_60 ?_
          exact W.iret (v := z_size) hx hb hr (fun t ht hW => ⟨⟨z_size, 0, rfl, hv, by rw [ht]; exact hP, va_K.moved hW.alike hK, hD⟩, hS.F ht⟩) hS.2.2 d_MD_count_63
        · have hv := hvf c4
          obtain ⟨hvt, hvf⟩ := hv
          by_cases c5 : a_p1 = 4
          · have hv := hvt c5
            refine lv_tableIn (tgt := 64) hx hb d_MD_count_6 (by rw [c5]; decide) (by rw [c5]; decide) (by rw [c5]; rfl) (by decide) ?_
            refine lv_aload_n hx hb d_MD_count_64 rfl (lv_at hl 0 rfl) ?_
            refine va_get (D := (dC, dI)) (ci := 8) (v := .int z_outSize) (C := "SuffixIndexModel") (T := F_MD) (N := 22) hx hb hw i_MD hown hK hP 0 rfl rfl 6 (by decide) (hw _ m_1107) (fun _ h9 => h9) rfl d_MD_count_65 ?_
            exact W.iret (v := z_outSize) hx hb hr (fun t ht hW => ⟨⟨z_outSize, 0, rfl, hv, by rw [ht]; exact hP, va_K.moved hW.alike hK, hD⟩, hS.F ht⟩) hS.2.2 d_MD_count_68
          · have hv := hvf c5
            obtain ⟨hvt, hvf⟩ := hv
            by_cases c6 : a_p1 = 5
            · have hv := hvt c6
              refine lv_tableIn (tgt := 69) hx hb d_MD_count_6 (by rw [c6]; decide) (by rw [c6]; decide) (by rw [c6]; rfl) (by decide) ?_
              refine lv_aload_n hx hb d_MD_count_69 rfl (lv_at hl 0 rfl) ?_
              refine va_get (D := (dC, dI)) (ci := 8) (v := .int z_soughtSize) (C := "SuffixIndexModel") (T := F_MD) (N := 22) hx hb hw i_MD hown hK hP 0 rfl rfl 7 (by decide) (hw _ m_1108) (fun _ h9 => h9) rfl d_MD_count_70 ?_
              exact W.iret (v := z_soughtSize) hx hb hr (fun t ht hW => ⟨⟨z_soughtSize, 0, rfl, hv, by rw [ht]; exact hP, va_K.moved hW.alike hK, hD⟩, hS.F ht⟩) hS.2.2 d_MD_count_73
            · have hv := hvf c6
              refine lv_tableOut (tgt := 74) hx hb d_MD_count_6 (sw_out5 c1 c2 c3 c4 c5 c6) (by decide) ?_
              refine lv_iconst (v := (-1)) hx hb d_MD_count_74 (by decide) ?_
              exact W.iret (v := (-1)) hx hb hr (fun t ht hW => ⟨⟨(-1), 0, rfl, hv, by rw [ht]; exact hP, va_K.moved hW.alike hK, hD⟩, hS.F ht⟩) hS.2.2 d_MD_count_75

