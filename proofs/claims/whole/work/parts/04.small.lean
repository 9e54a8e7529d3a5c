theorem d_AR_rangeCheck_0 : decode b_AR_rangeCheck 0 = .ok (.iload_n 1, 1) := by decide +kernel
theorem d_AR_rangeCheck_1 : decode b_AR_rangeCheck 1 = .ok (.iload_n 2, 1) := by decide +kernel
theorem d_AR_rangeCheck_2 : decode b_AR_rangeCheck 2 = .ok (.if_icmp .le 44, 3) := by decide +kernel
theorem d_AR_rangeCheck_5 : decode b_AR_rangeCheck 5 = .ok (.new 43, 3) := by decide +kernel
theorem d_AR_rangeCheck_46 : decode b_AR_rangeCheck 46 = .ok (.iload_n 1, 1) := by decide +kernel
theorem d_AR_rangeCheck_47 : decode b_AR_rangeCheck 47 = .ok (.ifCond .ge 12, 3) := by decide +kernel
theorem d_AR_rangeCheck_50 : decode b_AR_rangeCheck 50 = .ok (.new 68, 3) := by decide +kernel
theorem d_AR_rangeCheck_59 : decode b_AR_rangeCheck 59 = .ok (.iload_n 2, 1) := by decide +kernel
theorem d_AR_rangeCheck_60 : decode b_AR_rangeCheck 60 = .ok (.iload_n 0, 1) := by decide +kernel
theorem d_AR_rangeCheck_61 : decode b_AR_rangeCheck 61 = .ok (.if_icmp .le 12, 3) := by decide +kernel
theorem d_AR_rangeCheck_64 : decode b_AR_rangeCheck 64 = .ok (.new 68, 3) := by decide +kernel
theorem d_AR_rangeCheck_73 : decode b_AR_rangeCheck 73 = .ok (.return_, 1) := by decide +kernel
theorem d_AR_fill1_0 : decode b_AR_fill1 0 = .ok (.aload_n 0, 1) := by decide +kernel
theorem d_AR_fill1_1 : decode b_AR_fill1 1 = .ok (.arraylength, 1) := by decide +kernel
theorem d_AR_fill1_2 : decode b_AR_fill1 2 = .ok (.iload_n 1, 1) := by decide +kernel
theorem d_AR_fill1_3 : decode b_AR_fill1 3 = .ok (.iload_n 2, 1) := by decide +kernel
theorem d_AR_fill1_4 : decode b_AR_fill1 4 = .ok (.invokestatic 13, 3) := by decide +kernel
theorem d_AR_fill1_7 : decode b_AR_fill1 7 = .ok (.iload_n 1, 1) := by decide +kernel
theorem d_AR_fill1_8 : decode b_AR_fill1 8 = .ok (.istore 4, 2) := by decide +kernel
theorem d_AR_fill1_10 : decode b_AR_fill1 10 = .ok (.iload 4, 2) := by decide +kernel
theorem d_AR_fill1_12 : decode b_AR_fill1 12 = .ok (.iload_n 2, 1) := by decide +kernel
theorem d_AR_fill1_13 : decode b_AR_fill1 13 = .ok (.if_icmp .ge 14, 3) := by decide +kernel
theorem d_AR_fill1_16 : decode b_AR_fill1 16 = .ok (.aload_n 0, 1) := by decide +kernel
theorem d_AR_fill1_17 : decode b_AR_fill1 17 = .ok (.iload 4, 2) := by decide +kernel
theorem d_AR_fill1_19 : decode b_AR_fill1 19 = .ok (.iload_n 3, 1) := by decide +kernel
theorem d_AR_fill1_20 : decode b_AR_fill1 20 = .ok (.iastore, 1) := by decide +kernel
theorem d_AR_fill1_21 : decode b_AR_fill1 21 = .ok (.iinc 4 1, 3) := by decide +kernel
theorem d_AR_fill1_24 : decode b_AR_fill1 24 = .ok (.goto (-14), 3) := by decide +kernel
theorem d_AR_fill1_27 : decode b_AR_fill1 27 = .ok (.return_, 1) := by decide +kernel
theorem d_AR_fill0_0 : decode b_AR_fill0 0 = .ok (.iconst 0, 1) := by decide +kernel
theorem d_AR_fill0_1 : decode b_AR_fill0 1 = .ok (.istore_n 2, 1) := by decide +kernel
theorem d_AR_fill0_2 : decode b_AR_fill0 2 = .ok (.aload_n 0, 1) := by decide +kernel
theorem d_AR_fill0_3 : decode b_AR_fill0 3 = .ok (.arraylength, 1) := by decide +kernel
theorem d_AR_fill0_4 : decode b_AR_fill0 4 = .ok (.istore_n 3, 1) := by decide +kernel
theorem d_AR_fill0_5 : decode b_AR_fill0 5 = .ok (.iload_n 2, 1) := by decide +kernel
theorem d_AR_fill0_6 : decode b_AR_fill0 6 = .ok (.iload_n 3, 1) := by decide +kernel
theorem d_AR_fill0_7 : decode b_AR_fill0 7 = .ok (.if_icmp .ge 13, 3) := by decide +kernel
theorem d_AR_fill0_10 : decode b_AR_fill0 10 = .ok (.aload_n 0, 1) := by decide +kernel
theorem d_AR_fill0_11 : decode b_AR_fill0 11 = .ok (.iload_n 2, 1) := by decide +kernel
theorem d_AR_fill0_12 : decode b_AR_fill0 12 = .ok (.iload_n 1, 1) := by decide +kernel
theorem d_AR_fill0_13 : decode b_AR_fill0 13 = .ok (.iastore, 1) := by decide +kernel
theorem d_AR_fill0_14 : decode b_AR_fill0 14 = .ok (.iinc 2 1, 3) := by decide +kernel
theorem d_AR_fill0_17 : decode b_AR_fill0 17 = .ok (.goto (-12), 3) := by decide +kernel
theorem d_AR_fill0_20 : decode b_AR_fill0 20 = .ok (.return_, 1) := by decide +kernel
theorem d_BR_hasRoom_0 : decode b_BR_hasRoom 0 = .ok (.iload_n 1, 1) := by decide +kernel
theorem d_BR_hasRoom_1 : decode b_BR_hasRoom 1 = .ok (.aload_n 0, 1) := by decide +kernel
theorem d_BR_hasRoom_2 : decode b_BR_hasRoom 2 = .ok (.getfield 7, 3) := by decide +kernel
theorem d_BR_hasRoom_5 : decode b_BR_hasRoom 5 = .ok (.arraylength, 1) := by decide +kernel
theorem d_BR_hasRoom_6 : decode b_BR_hasRoom 6 = .ok (.aload_n 0, 1) := by decide +kernel
theorem d_BR_hasRoom_7 : decode b_BR_hasRoom 7 = .ok (.getfield 13, 3) := by decide +kernel
theorem d_BR_hasRoom_10 : decode b_BR_hasRoom 10 = .ok (.isub, 1) := by decide +kernel
theorem d_BR_hasRoom_11 : decode b_BR_hasRoom 11 = .ok (.if_icmp .gt 7, 3) := by decide +kernel
theorem d_BR_hasRoom_14 : decode b_BR_hasRoom 14 = .ok (.iconst 1, 1) := by decide +kernel
theorem d_BR_hasRoom_15 : decode b_BR_hasRoom 15 = .ok (.goto 4, 3) := by decide +kernel
theorem d_BR_hasRoom_18 : decode b_BR_hasRoom 18 = .ok (.iconst 0, 1) := by decide +kernel
theorem d_BR_hasRoom_19 : decode b_BR_hasRoom 19 = .ok (.ireturn, 1) := by decide +kernel
theorem d_BR_putFour_0 : decode b_BR_putFour 0 = .ok (.aload_n 0, 1) := by decide +kernel
theorem d_BR_putFour_1 : decode b_BR_putFour 1 = .ok (.iconst 4, 1) := by decide +kernel
theorem d_BR_putFour_2 : decode b_BR_putFour 2 = .ok (.invokevirtual 17, 3) := by decide +kernel
theorem d_BR_putFour_5 : decode b_BR_putFour 5 = .ok (.ifCond .ne 4, 3) := by decide +kernel
theorem d_BR_putFour_8 : decode b_BR_putFour 8 = .ok (.return_, 1) := by decide +kernel
theorem d_BR_putFour_9 : decode b_BR_putFour 9 = .ok (.bipush 24, 2) := by decide +kernel
theorem d_BR_putFour_11 : decode b_BR_putFour 11 = .ok (.istore_n 2, 1) := by decide +kernel
theorem d_BR_putFour_12 : decode b_BR_putFour 12 = .ok (.iload_n 2, 1) := by decide +kernel
theorem d_BR_putFour_13 : decode b_BR_putFour 13 = .ok (.ifCond .lt 35, 3) := by decide +kernel
theorem d_BR_putFour_16 : decode b_BR_putFour 16 = .ok (.aload_n 0, 1) := by decide +kernel
theorem d_BR_putFour_17 : decode b_BR_putFour 17 = .ok (.getfield 7, 3) := by decide +kernel
theorem d_BR_putFour_20 : decode b_BR_putFour 20 = .ok (.aload_n 0, 1) := by decide +kernel
theorem d_BR_putFour_21 : decode b_BR_putFour 21 = .ok (.getfield 13, 3) := by decide +kernel
theorem d_BR_putFour_24 : decode b_BR_putFour 24 = .ok (.iload_n 1, 1) := by decide +kernel
theorem d_BR_putFour_25 : decode b_BR_putFour 25 = .ok (.iload_n 2, 1) := by decide +kernel
theorem d_BR_putFour_26 : decode b_BR_putFour 26 = .ok (.iushr, 1) := by decide +kernel
theorem d_BR_putFour_27 : decode b_BR_putFour 27 = .ok (.sipush 255, 3) := by decide +kernel
theorem d_BR_putFour_30 : decode b_BR_putFour 30 = .ok (.iand, 1) := by decide +kernel
theorem d_BR_putFour_31 : decode b_BR_putFour 31 = .ok (.iastore, 1) := by decide +kernel
theorem d_BR_putFour_32 : decode b_BR_putFour 32 = .ok (.aload_n 0, 1) := by decide +kernel
theorem d_BR_putFour_33 : decode b_BR_putFour 33 = .ok (.dup, 1) := by decide +kernel
theorem d_BR_putFour_34 : decode b_BR_putFour 34 = .ok (.getfield 13, 3) := by decide +kernel
theorem d_BR_putFour_37 : decode b_BR_putFour 37 = .ok (.iconst 1, 1) := by decide +kernel
theorem d_BR_putFour_38 : decode b_BR_putFour 38 = .ok (.iadd, 1) := by decide +kernel
theorem d_BR_putFour_39 : decode b_BR_putFour 39 = .ok (.putfield 13, 3) := by decide +kernel
theorem d_BR_putFour_42 : decode b_BR_putFour 42 = .ok (.iinc 2 (-8), 3) := by decide +kernel
theorem d_BR_putFour_45 : decode b_BR_putFour 45 = .ok (.goto (-33), 3) := by decide +kernel
theorem d_BR_putFour_48 : decode b_BR_putFour 48 = .ok (.return_, 1) := by decide +kernel
theorem d_BR_copy_0 : decode b_BR_copy 0 = .ok (.aload_n 1, 1) := by decide +kernel
theorem d_BR_copy_1 : decode b_BR_copy 1 = .ok (.iload_n 2, 1) := by decide +kernel
theorem d_BR_copy_2 : decode b_BR_copy 2 = .ok (.aload_n 0, 1) := by decide +kernel
theorem d_BR_copy_3 : decode b_BR_copy 3 = .ok (.getfield 7, 3) := by decide +kernel
theorem d_BR_copy_6 : decode b_BR_copy 6 = .ok (.iconst 0, 1) := by decide +kernel
theorem d_BR_copy_7 : decode b_BR_copy 7 = .ok (.iload_n 3, 1) := by decide +kernel
theorem d_BR_copy_8 : decode b_BR_copy 8 = .ok (.invokestatic 21, 3) := by decide +kernel
theorem d_BR_copy_11 : decode b_BR_copy 11 = .ok (.aload_n 0, 1) := by decide +kernel
theorem d_BR_copy_12 : decode b_BR_copy 12 = .ok (.iload_n 3, 1) := by decide +kernel
theorem d_BR_copy_13 : decode b_BR_copy 13 = .ok (.putfield 13, 3) := by decide +kernel
theorem d_BR_copy_16 : decode b_BR_copy 16 = .ok (.return_, 1) := by decide +kernel
theorem d_LB_hasRoom_0 : decode b_LB_hasRoom 0 = .ok (.aload_n 0, 1) := by decide +kernel
theorem d_LB_hasRoom_1 : decode b_LB_hasRoom 1 = .ok (.getfield 18, 3) := by decide +kernel
theorem d_LB_hasRoom_4 : decode b_LB_hasRoom 4 = .ok (.aload_n 0, 1) := by decide +kernel
theorem d_LB_hasRoom_5 : decode b_LB_hasRoom 5 = .ok (.getfield 21, 3) := by decide +kernel
theorem d_LB_hasRoom_8 : decode b_LB_hasRoom 8 = .ok (.iaload, 1) := by decide +kernel
theorem d_LB_hasRoom_9 : decode b_LB_hasRoom 9 = .ok (.aload_n 0, 1) := by decide +kernel
theorem d_LB_hasRoom_10 : decode b_LB_hasRoom 10 = .ok (.getfield 21, 3) := by decide +kernel
theorem d_LB_hasRoom_13 : decode b_LB_hasRoom 13 = .ok (.isub, 1) := by decide +kernel
theorem d_LB_hasRoom_14 : decode b_LB_hasRoom 14 = .ok (.istore_n 2, 1) := by decide +kernel
theorem d_LB_hasRoom_15 : decode b_LB_hasRoom 15 = .ok (.aload_n 0, 1) := by decide +kernel
theorem d_LB_hasRoom_16 : decode b_LB_hasRoom 16 = .ok (.getfield 21, 3) := by decide +kernel
theorem d_LB_hasRoom_19 : decode b_LB_hasRoom 19 = .ok (.bipush 64, 2) := by decide +kernel
theorem d_LB_hasRoom_21 : decode b_LB_hasRoom 21 = .ok (.if_icmp .ge 16, 3) := by decide +kernel
theorem d_LB_hasRoom_24 : decode b_LB_hasRoom 24 = .ok (.iload_n 1, 1) := by decide +kernel
theorem d_LB_hasRoom_25 : decode b_LB_hasRoom 25 = .ok (.sipush 16384, 3) := by decide +kernel
theorem d_LB_hasRoom_28 : decode b_LB_hasRoom 28 = .ok (.iload_n 2, 1) := by decide +kernel
theorem d_LB_hasRoom_29 : decode b_LB_hasRoom 29 = .ok (.isub, 1) := by decide +kernel
theorem d_LB_hasRoom_30 : decode b_LB_hasRoom 30 = .ok (.if_icmp .gt 7, 3) := by decide +kernel
theorem d_LB_hasRoom_33 : decode b_LB_hasRoom 33 = .ok (.iconst 1, 1) := by decide +kernel
theorem d_LB_hasRoom_34 : decode b_LB_hasRoom 34 = .ok (.goto 4, 3) := by decide +kernel
theorem d_LB_hasRoom_37 : decode b_LB_hasRoom 37 = .ok (.iconst 0, 1) := by decide +kernel
theorem d_LB_hasRoom_38 : decode b_LB_hasRoom 38 = .ok (.ireturn, 1) := by decide +kernel
theorem d_LB_append_0 : decode b_LB_append 0 = .ok (.aload_n 0, 1) := by decide +kernel
theorem d_LB_append_1 : decode b_LB_append 1 = .ok (.getfield 21, 3) := by decide +kernel
theorem d_LB_append_4 : decode b_LB_append 4 = .ok (.istore_n 2, 1) := by decide +kernel
theorem d_LB_append_5 : decode b_LB_append 5 = .ok (.aload_n 0, 1) := by decide +kernel
theorem d_LB_append_6 : decode b_LB_append 6 = .ok (.getfield 18, 3) := by decide +kernel
theorem d_LB_append_9 : decode b_LB_append 9 = .ok (.iload_n 2, 1) := by decide +kernel
theorem d_LB_append_10 : decode b_LB_append 10 = .ok (.iaload, 1) := by decide +kernel
theorem d_LB_append_11 : decode b_LB_append 11 = .ok (.istore_n 3, 1) := by decide +kernel
theorem d_LB_append_12 : decode b_LB_append 12 = .ok (.iload_n 3, 1) := by decide +kernel
theorem d_LB_append_13 : decode b_LB_append 13 = .ok (.aload_n 1, 1) := by decide +kernel
theorem d_LB_append_14 : decode b_LB_append 14 = .ok (.getfield 25, 3) := by decide +kernel
theorem d_LB_append_17 : decode b_LB_append 17 = .ok (.iadd, 1) := by decide +kernel
theorem d_LB_append_18 : decode b_LB_append 18 = .ok (.istore 4, 2) := by decide +kernel
theorem d_LB_append_20 : decode b_LB_append 20 = .ok (.aload_n 1, 1) := by decide +kernel
theorem d_LB_append_21 : decode b_LB_append 21 = .ok (.getfield 30, 3) := by decide +kernel
theorem d_LB_append_24 : decode b_LB_append 24 = .ok (.iconst 0, 1) := by decide +kernel
theorem d_LB_append_25 : decode b_LB_append 25 = .ok (.aload_n 0, 1) := by decide +kernel
theorem d_LB_append_26 : decode b_LB_append 26 = .ok (.getfield 9, 3) := by decide +kernel
theorem d_LB_append_29 : decode b_LB_append 29 = .ok (.iload_n 3, 1) := by decide +kernel
theorem d_LB_append_30 : decode b_LB_append 30 = .ok (.aload_n 1, 1) := by decide +kernel
theorem d_LB_append_31 : decode b_LB_append 31 = .ok (.getfield 25, 3) := by decide +kernel
theorem d_LB_append_34 : decode b_LB_append 34 = .ok (.invokestatic 33, 3) := by decide +kernel
theorem d_LB_append_37 : decode b_LB_append 37 = .ok (.aload_n 0, 1) := by decide +kernel
theorem d_LB_append_38 : decode b_LB_append 38 = .ok (.getfield 9, 3) := by decide +kernel
theorem d_LB_append_41 : decode b_LB_append 41 = .ok (.iload 4, 2) := by decide +kernel
theorem d_LB_append_43 : decode b_LB_append 43 = .ok (.iload_n 2, 1) := by decide +kernel
theorem d_LB_append_44 : decode b_LB_append 44 = .ok (.bipush 64, 2) := by decide +kernel
theorem d_LB_append_46 : decode b_LB_append 46 = .ok (.isub, 1) := by decide +kernel
theorem d_LB_append_47 : decode b_LB_append 47 = .ok (.iastore, 1) := by decide +kernel
theorem d_LB_append_48 : decode b_LB_append 48 = .ok (.aload_n 0, 1) := by decide +kernel
theorem d_LB_append_49 : decode b_LB_append 49 = .ok (.getfield 15, 3) := by decide +kernel
theorem d_LB_append_52 : decode b_LB_append 52 = .ok (.iload_n 3, 1) := by decide +kernel
theorem d_LB_append_53 : decode b_LB_append 53 = .ok (.iload 4, 2) := by decide +kernel
theorem d_LB_append_55 : decode b_LB_append 55 = .ok (.iconst 1, 1) := by decide +kernel
theorem d_LB_append_56 : decode b_LB_append 56 = .ok (.iadd, 1) := by decide +kernel
theorem d_LB_append_57 : decode b_LB_append 57 = .ok (.iload_n 2, 1) := by decide +kernel
theorem d_LB_append_58 : decode b_LB_append 58 = .ok (.invokestatic 39, 3) := by decide +kernel
theorem d_LB_append_61 : decode b_LB_append 61 = .ok (.aload_n 0, 1) := by decide +kernel
theorem d_LB_append_62 : decode b_LB_append 62 = .ok (.getfield 18, 3) := by decide +kernel
theorem d_LB_append_65 : decode b_LB_append 65 = .ok (.iload_n 2, 1) := by decide +kernel
theorem d_LB_append_66 : decode b_LB_append 66 = .ok (.iconst 1, 1) := by decide +kernel
theorem d_LB_append_67 : decode b_LB_append 67 = .ok (.iadd, 1) := by decide +kernel
theorem d_LB_append_68 : decode b_LB_append 68 = .ok (.iload 4, 2) := by decide +kernel
theorem d_LB_append_70 : decode b_LB_append 70 = .ok (.iconst 1, 1) := by decide +kernel
theorem d_LB_append_71 : decode b_LB_append 71 = .ok (.iadd, 1) := by decide +kernel
theorem d_LB_append_72 : decode b_LB_append 72 = .ok (.iastore, 1) := by decide +kernel
theorem d_LB_append_73 : decode b_LB_append 73 = .ok (.aload_n 0, 1) := by decide +kernel
theorem d_LB_append_74 : decode b_LB_append 74 = .ok (.dup, 1) := by decide +kernel
theorem d_LB_append_75 : decode b_LB_append 75 = .ok (.getfield 21, 3) := by decide +kernel
theorem d_LB_append_78 : decode b_LB_append 78 = .ok (.iconst 1, 1) := by decide +kernel
theorem d_LB_append_79 : decode b_LB_append 79 = .ok (.iadd, 1) := by decide +kernel
theorem d_LB_append_80 : decode b_LB_append 80 = .ok (.putfield 21, 3) := by decide +kernel
theorem d_LB_append_83 : decode b_LB_append 83 = .ok (.iload_n 2, 1) := by decide +kernel
theorem d_LB_append_84 : decode b_LB_append 84 = .ok (.ireturn, 1) := by decide +kernel
theorem d_LB_indexedText_0 : decode b_LB_indexedText 0 = .ok (.aload_n 0, 1) := by decide +kernel
theorem d_LB_indexedText_1 : decode b_LB_indexedText 1 = .ok (.getfield 18, 3) := by decide +kernel
theorem d_LB_indexedText_4 : decode b_LB_indexedText 4 = .ok (.aload_n 0, 1) := by decide +kernel
theorem d_LB_indexedText_5 : decode b_LB_indexedText 5 = .ok (.getfield 45, 3) := by decide +kernel
theorem d_LB_indexedText_8 : decode b_LB_indexedText 8 = .ok (.iaload, 1) := by decide +kernel
theorem d_LB_indexedText_9 : decode b_LB_indexedText 9 = .ok (.ireturn, 1) := by decide +kernel
theorem d_LB_suffixes_0 : decode b_LB_suffixes 0 = .ok (.aload_n 0, 1) := by decide +kernel
theorem d_LB_suffixes_1 : decode b_LB_suffixes 1 = .ok (.getfield 18, 3) := by decide +kernel
theorem d_LB_suffixes_4 : decode b_LB_suffixes 4 = .ok (.aload_n 0, 1) := by decide +kernel
theorem d_LB_suffixes_5 : decode b_LB_suffixes 5 = .ok (.getfield 45, 3) := by decide +kernel
theorem d_LB_suffixes_8 : decode b_LB_suffixes 8 = .ok (.iaload, 1) := by decide +kernel
theorem d_LB_suffixes_9 : decode b_LB_suffixes 9 = .ok (.aload_n 0, 1) := by decide +kernel
theorem d_LB_suffixes_10 : decode b_LB_suffixes 10 = .ok (.getfield 45, 3) := by decide +kernel
theorem d_LB_suffixes_13 : decode b_LB_suffixes 13 = .ok (.isub, 1) := by decide +kernel
theorem d_LB_suffixes_14 : decode b_LB_suffixes 14 = .ok (.ireturn, 1) := by decide +kernel
theorem d_LB_endOf_0 : decode b_LB_endOf 0 = .ok (.aload_n 0, 1) := by decide +kernel
theorem d_LB_endOf_1 : decode b_LB_endOf 1 = .ok (.getfield 18, 3) := by decide +kernel
theorem d_LB_endOf_4 : decode b_LB_endOf 4 = .ok (.iload_n 1, 1) := by decide +kernel
theorem d_LB_endOf_5 : decode b_LB_endOf 5 = .ok (.iconst 1, 1) := by decide +kernel
theorem d_LB_endOf_6 : decode b_LB_endOf 6 = .ok (.iadd, 1) := by decide +kernel
theorem d_LB_endOf_7 : decode b_LB_endOf 7 = .ok (.iaload, 1) := by decide +kernel
theorem d_LB_endOf_8 : decode b_LB_endOf 8 = .ok (.iconst 1, 1) := by decide +kernel
theorem d_LB_endOf_9 : decode b_LB_endOf 9 = .ok (.isub, 1) := by decide +kernel
theorem d_LB_endOf_10 : decode b_LB_endOf 10 = .ok (.ireturn, 1) := by decide +kernel
theorem d_LB_lengthFrom_0 : decode b_LB_lengthFrom 0 = .ok (.aload_n 0, 1) := by decide +kernel
theorem d_LB_lengthFrom_1 : decode b_LB_lengthFrom 1 = .ok (.aload_n 0, 1) := by decide +kernel
theorem d_LB_lengthFrom_2 : decode b_LB_lengthFrom 2 = .ok (.getfield 15, 3) := by decide +kernel
theorem d_LB_lengthFrom_5 : decode b_LB_lengthFrom 5 = .ok (.iload_n 1, 1) := by decide +kernel
theorem d_LB_lengthFrom_6 : decode b_LB_lengthFrom 6 = .ok (.iaload, 1) := by decide +kernel
theorem d_LB_lengthFrom_7 : decode b_LB_lengthFrom 7 = .ok (.invokevirtual 48, 3) := by decide +kernel
theorem d_LB_lengthFrom_10 : decode b_LB_lengthFrom 10 = .ok (.iload_n 1, 1) := by decide +kernel
theorem d_LB_lengthFrom_11 : decode b_LB_lengthFrom 11 = .ok (.isub, 1) := by decide +kernel
theorem d_LB_lengthFrom_12 : decode b_LB_lengthFrom 12 = .ok (.ireturn, 1) := by decide +kernel
theorem d_LB_whereOf_0 : decode b_LB_whereOf 0 = .ok (.aload_n 0, 1) := by decide +kernel
theorem d_LB_whereOf_1 : decode b_LB_whereOf 1 = .ok (.getfield 15, 3) := by decide +kernel
theorem d_LB_whereOf_4 : decode b_LB_whereOf 4 = .ok (.iload_n 1, 1) := by decide +kernel
theorem d_LB_whereOf_5 : decode b_LB_whereOf 5 = .ok (.iaload, 1) := by decide +kernel
theorem d_LB_whereOf_6 : decode b_LB_whereOf 6 = .ok (.istore_n 2, 1) := by decide +kernel
theorem d_LB_whereOf_7 : decode b_LB_whereOf 7 = .ok (.iload_n 2, 1) := by decide +kernel
theorem d_LB_whereOf_8 : decode b_LB_whereOf 8 = .ok (.ldc 52, 2) := by decide +kernel
theorem d_LB_whereOf_10 : decode b_LB_whereOf 10 = .ok (.imul, 1) := by decide +kernel
theorem d_LB_whereOf_11 : decode b_LB_whereOf 11 = .ok (.iload_n 1, 1) := by decide +kernel
theorem d_LB_whereOf_12 : decode b_LB_whereOf 12 = .ok (.iadd, 1) := by decide +kernel
theorem d_LB_whereOf_13 : decode b_LB_whereOf 13 = .ok (.aload_n 0, 1) := by decide +kernel
theorem d_LB_whereOf_14 : decode b_LB_whereOf 14 = .ok (.getfield 18, 3) := by decide +kernel
theorem d_LB_whereOf_17 : decode b_LB_whereOf 17 = .ok (.iload_n 2, 1) := by decide +kernel
theorem d_LB_whereOf_18 : decode b_LB_whereOf 18 = .ok (.iaload, 1) := by decide +kernel
theorem d_LB_whereOf_19 : decode b_LB_whereOf 19 = .ok (.isub, 1) := by decide +kernel
theorem d_LB_whereOf_20 : decode b_LB_whereOf 20 = .ok (.ireturn, 1) := by decide +kernel
theorem d_LB_positionOf_0 : decode b_LB_positionOf 0 = .ok (.iload_n 1, 1) := by decide +kernel
theorem d_LB_positionOf_1 : decode b_LB_positionOf 1 = .ok (.ifCond .ge 5, 3) := by decide +kernel
theorem d_LB_positionOf_4 : decode b_LB_positionOf 4 = .ok (.iconst (-1), 1) := by decide +kernel
theorem d_LB_positionOf_5 : decode b_LB_positionOf 5 = .ok (.ireturn, 1) := by decide +kernel
theorem d_LB_positionOf_6 : decode b_LB_positionOf 6 = .ok (.iload_n 1, 1) := by decide +kernel
theorem d_LB_positionOf_7 : decode b_LB_positionOf 7 = .ok (.ldc 52, 2) := by decide +kernel
theorem d_LB_positionOf_9 : decode b_LB_positionOf 9 = .ok (.idiv, 1) := by decide +kernel
theorem d_LB_positionOf_10 : decode b_LB_positionOf 10 = .ok (.istore_n 2, 1) := by decide +kernel
theorem d_LB_positionOf_11 : decode b_LB_positionOf 11 = .ok (.iload_n 1, 1) := by decide +kernel
theorem d_LB_positionOf_12 : decode b_LB_positionOf 12 = .ok (.ldc 52, 2) := by decide +kernel
theorem d_LB_positionOf_14 : decode b_LB_positionOf 14 = .ok (.irem, 1) := by decide +kernel
theorem d_LB_positionOf_15 : decode b_LB_positionOf 15 = .ok (.istore_n 3, 1) := by decide +kernel
theorem d_LB_positionOf_16 : decode b_LB_positionOf 16 = .ok (.iload_n 2, 1) := by decide +kernel
theorem d_LB_positionOf_17 : decode b_LB_positionOf 17 = .ok (.aload_n 0, 1) := by decide +kernel
theorem d_LB_positionOf_18 : decode b_LB_positionOf 18 = .ok (.getfield 45, 3) := by decide +kernel
theorem d_LB_positionOf_21 : decode b_LB_positionOf 21 = .ok (.if_icmp .ge 19, 3) := by decide +kernel
theorem d_LB_positionOf_24 : decode b_LB_positionOf 24 = .ok (.iload_n 3, 1) := by decide +kernel
theorem d_LB_positionOf_25 : decode b_LB_positionOf 25 = .ok (.aload_n 0, 1) := by decide +kernel
theorem d_LB_positionOf_26 : decode b_LB_positionOf 26 = .ok (.iload_n 2, 1) := by decide +kernel
theorem d_LB_positionOf_27 : decode b_LB_positionOf 27 = .ok (.invokevirtual 48, 3) := by decide +kernel
theorem d_LB_positionOf_30 : decode b_LB_positionOf 30 = .ok (.aload_n 0, 1) := by decide +kernel
theorem d_LB_positionOf_31 : decode b_LB_positionOf 31 = .ok (.getfield 18, 3) := by decide +kernel
theorem d_LB_positionOf_34 : decode b_LB_positionOf 34 = .ok (.iload_n 2, 1) := by decide +kernel
theorem d_LB_positionOf_35 : decode b_LB_positionOf 35 = .ok (.iaload, 1) := by decide +kernel
theorem d_LB_positionOf_36 : decode b_LB_positionOf 36 = .ok (.isub, 1) := by decide +kernel
theorem d_LB_positionOf_37 : decode b_LB_positionOf 37 = .ok (.if_icmp .lt 5, 3) := by decide +kernel
theorem d_LB_positionOf_40 : decode b_LB_positionOf 40 = .ok (.iconst (-1), 1) := by decide +kernel
theorem d_LB_positionOf_41 : decode b_LB_positionOf 41 = .ok (.ireturn, 1) := by decide +kernel
theorem d_LB_positionOf_42 : decode b_LB_positionOf 42 = .ok (.aload_n 0, 1) := by decide +kernel
theorem d_LB_positionOf_43 : decode b_LB_positionOf 43 = .ok (.getfield 18, 3) := by decide +kernel
theorem d_LB_positionOf_46 : decode b_LB_positionOf 46 = .ok (.iload_n 2, 1) := by decide +kernel
theorem d_LB_positionOf_47 : decode b_LB_positionOf 47 = .ok (.iaload, 1) := by decide +kernel
theorem d_LB_positionOf_48 : decode b_LB_positionOf 48 = .ok (.iload_n 3, 1) := by decide +kernel
theorem d_LB_positionOf_49 : decode b_LB_positionOf 49 = .ok (.iadd, 1) := by decide +kernel
theorem d_LB_positionOf_50 : decode b_LB_positionOf 50 = .ok (.ireturn, 1) := by decide +kernel
theorem d_LB_alike_0 : decode b_LB_alike 0 = .ok (.aload_n 0, 1) := by decide +kernel
theorem d_LB_alike_1 : decode b_LB_alike 1 = .ok (.invokevirtual 53, 3) := by decide +kernel
theorem d_LB_alike_4 : decode b_LB_alike 4 = .ok (.iload_n 1, 1) := by decide +kernel
theorem d_LB_alike_5 : decode b_LB_alike 5 = .ok (.iload_n 2, 1) := by decide +kernel
theorem d_LB_alike_6 : decode b_LB_alike 6 = .ok (.invokestatic 57, 3) := by decide +kernel
theorem d_LB_alike_9 : decode b_LB_alike 9 = .ok (.isub, 1) := by decide +kernel
theorem d_LB_alike_10 : decode b_LB_alike 10 = .ok (.istore 4, 2) := by decide +kernel
theorem d_LB_alike_12 : decode b_LB_alike 12 = .ok (.iload_n 3, 1) := by decide +kernel
theorem d_LB_alike_13 : decode b_LB_alike 13 = .ok (.istore 5, 2) := by decide +kernel
theorem d_LB_alike_15 : decode b_LB_alike 15 = .ok (.iload 5, 2) := by decide +kernel
theorem d_LB_alike_17 : decode b_LB_alike 17 = .ok (.iload 4, 2) := by decide +kernel
theorem d_LB_alike_19 : decode b_LB_alike 19 = .ok (.if_icmp .ge 30, 3) := by decide +kernel
theorem d_LB_alike_22 : decode b_LB_alike 22 = .ok (.aload_n 0, 1) := by decide +kernel
theorem d_LB_alike_23 : decode b_LB_alike 23 = .ok (.getfield 9, 3) := by decide +kernel
theorem d_LB_alike_26 : decode b_LB_alike 26 = .ok (.iload_n 1, 1) := by decide +kernel
theorem d_LB_alike_27 : decode b_LB_alike 27 = .ok (.iload 5, 2) := by decide +kernel
theorem d_LB_alike_29 : decode b_LB_alike 29 = .ok (.iadd, 1) := by decide +kernel
theorem d_LB_alike_30 : decode b_LB_alike 30 = .ok (.iaload, 1) := by decide +kernel
theorem d_LB_alike_31 : decode b_LB_alike 31 = .ok (.aload_n 0, 1) := by decide +kernel
theorem d_LB_alike_32 : decode b_LB_alike 32 = .ok (.getfield 9, 3) := by decide +kernel
theorem d_LB_alike_35 : decode b_LB_alike 35 = .ok (.iload_n 2, 1) := by decide +kernel
theorem d_LB_alike_36 : decode b_LB_alike 36 = .ok (.iload 5, 2) := by decide +kernel
theorem d_LB_alike_38 : decode b_LB_alike 38 = .ok (.iadd, 1) := by decide +kernel
theorem d_LB_alike_39 : decode b_LB_alike 39 = .ok (.iaload, 1) := by decide +kernel
theorem d_LB_alike_40 : decode b_LB_alike 40 = .ok (.if_icmp .ne 9, 3) := by decide +kernel
theorem d_LB_alike_43 : decode b_LB_alike 43 = .ok (.iinc 5 1, 3) := by decide +kernel
theorem d_LB_alike_46 : decode b_LB_alike 46 = .ok (.goto (-31), 3) := by decide +kernel
theorem d_LB_alike_49 : decode b_LB_alike 49 = .ok (.iload 5, 2) := by decide +kernel
theorem d_LB_alike_51 : decode b_LB_alike 51 = .ok (.ireturn, 1) := by decide +kernel
def vc_AR_rangeCheck (a_p0 : Int32) (a_p1 : Int32) (a_p2 : Int32) (post : Prop) : Prop :=
  ((a_p1 ≤ a_p2 → ((0 ≤ a_p1 → ((a_p2 ≤ a_p0 → post) ∧ (¬ (a_p2 ≤ a_p0) → False))) ∧ (¬ (0 ≤ a_p1) → False))) ∧ (¬ (a_p1 ≤ a_p2) → False))
def vc_AR_fill1_10 (a_p1 : Int32) (a_p2 : Int32) (a_p3 : Int32) (n_p0 : Nat) (post : (Nat → Int32) → Prop) : Nat → Int32 → (Nat → Int32) → Prop
  | 0, _, _ => False
  | k + 1, x4, z_p0 => ((a_p2 ≤ x4 → post z_p0) ∧ (¬ (a_p2 ≤ x4) → vp_in x4 n_p0 ∧ vc_AR_fill1_10 a_p1 a_p2 a_p3 n_p0 post k (x4 + 1) (upd z_p0 x4.toNatClampNeg a_p3)))
def vc_AR_fill1 (a_p1 : Int32) (a_p2 : Int32) (a_p3 : Int32) (n_p0 : Nat) (post : (Nat → Int32) → Prop) (z_p0 : Nat → Int32) : Prop :=
  vc_AR_rangeCheck (nI n_p0) a_p1 a_p2 (∃ j : Nat, vc_AR_fill1_10 a_p1 a_p2 a_p3 n_p0 post j a_p1 z_p0)
def vc_AR_fill0_5 (a_p1 : Int32) (n_p0 : Nat) (post : (Nat → Int32) → Prop) : Nat → Int32 → Int32 → (Nat → Int32) → Prop
  | 0, _, _, _ => False
  | k + 1, x2, x3, z_p0 => ((x3 ≤ x2 → post z_p0) ∧ (¬ (x3 ≤ x2) → vp_in x2 n_p0 ∧ vc_AR_fill0_5 a_p1 n_p0 post k (x2 + 1) x3 (upd z_p0 x2.toNatClampNeg a_p1)))
def vc_AR_fill0 (a_p1 : Int32) (n_p0 : Nat) (post : (Nat → Int32) → Prop) (z_p0 : Nat → Int32) : Prop :=
  ∃ j : Nat, vc_AR_fill0_5 a_p1 n_p0 post j 0 (nI n_p0) z_p0
def vc_BR_hasRoom (a_p1 : Int32) (n_bytes : Nat) (z_length : Int32) (post : Int32 → Prop) : Prop :=
  ((((nI n_bytes) - z_length) < a_p1 → post 0) ∧ (¬ (((nI n_bytes) - z_length) < a_p1) → post 1))
def vc_BR_putFour_12 (a_p1 : Int32) (n_bytes : Nat) (post : Int32 → (Nat → Int32) → Prop) : Nat → Int32 → Int32 → (Nat → Int32) → Prop
  | 0, _, _, _ => False
  | k + 1, x2, z_length, z_bytes => ((x2 < 0 → post z_length z_bytes) ∧ (¬ (x2 < 0) → vp_in z_length n_bytes ∧ vc_BR_putFour_12 a_p1 n_bytes post k (x2 + (-8)) (z_length + 1) (upd z_bytes z_length.toNatClampNeg (((a_p1.toUInt32 >>> (x2.toUInt32 &&& Int32.toUInt32 31)).toInt32) &&& 255))))
def vc_BR_putFour (a_p1 : Int32) (n_bytes : Nat) (post : Int32 → (Nat → Int32) → Prop) (z_length : Int32) (z_bytes : Nat → Int32) : Prop :=
  vc_BR_hasRoom 4 n_bytes z_length (fun r2 => ((¬ r2 = 0 → ∃ j : Nat, vc_BR_putFour_12 a_p1 n_bytes post j 24 z_length z_bytes) ∧ (r2 = 0 → post z_length z_bytes)))
def vc_BR_copy (a_p2 : Int32) (a_p3 : Int32) (n_bytes : Nat) (n_p1 : Nat) (z_p1 : Nat → Int32) (post : Int32 → (Nat → Int32) → Prop) (z_length : Int32) (z_bytes : Nat → Int32) : Prop :=
  (¬ a_p2 < 0) ∧ (¬ (0 : Int32) < 0) ∧ (¬ a_p3 < 0) ∧ (a_p2.toNatClampNeg + a_p3.toNatClampNeg ≤ n_p1) ∧ ((0 : Int32).toNatClampNeg + a_p3.toNatClampNeg ≤ n_bytes) ∧ post a_p3 (va_cpy z_p1 z_bytes a_p2.toNatClampNeg (0 : Int32).toNatClampNeg a_p3.toNatClampNeg)
def vc_LB_hasRoom (a_p1 : Int32) (z_documents : Int32) (z_starts : Nat → Int32) (post : Int32 → Prop) : Prop :=
  vp_in z_documents 65 ∧ ((64 ≤ z_documents → post 0) ∧ (¬ (64 ≤ z_documents) → (((16384 - ((z_starts z_documents.toNatClampNeg) - z_documents)) < a_p1 → post 0) ∧ (¬ ((16384 - ((z_starts z_documents.toNatClampNeg) - z_documents)) < a_p1) → post 1))))
def vc_LB_append (n_p1_bytes : Nat) (z_p1_length : Int32) (z_p1_bytes : Nat → Int32) (post : Int32 → Int32 → (Nat → Int32) → (Nat → Int32) → (Nat → Int32) → Prop) (z_documents : Int32) (z_text : Nat → Int32) (z_owners : Nat → Int32) (z_starts : Nat → Int32) : Prop :=
  vp_in z_documents 65 ∧ (¬ (0 : Int32) < 0) ∧ (¬ (z_starts z_documents.toNatClampNeg) < 0) ∧ (¬ z_p1_length < 0) ∧ ((0 : Int32).toNatClampNeg + z_p1_length.toNatClampNeg ≤ n_p1_bytes) ∧ ((z_starts z_documents.toNatClampNeg).toNatClampNeg + z_p1_length.toNatClampNeg ≤ 16448) ∧ vp_in ((z_starts z_documents.toNatClampNeg) + z_p1_length) 16448 ∧ vc_AR_fill1 (z_starts z_documents.toNatClampNeg) (((z_starts z_documents.toNatClampNeg) + z_p1_length) + 1) z_documents 16448 (fun u1_0 => vp_in (z_documents + 1) 65 ∧ post z_documents (z_documents + 1) (upd (va_cpy z_p1_bytes z_text (0 : Int32).toNatClampNeg (z_starts z_documents.toNatClampNeg).toNatClampNeg z_p1_length.toNatClampNeg) ((z_starts z_documents.toNatClampNeg) + z_p1_length).toNatClampNeg (z_documents - 64)) u1_0 (upd z_starts (z_documents + 1).toNatClampNeg (((z_starts z_documents.toNatClampNeg) + z_p1_length) + 1))) z_owners
def vc_LB_indexedText (z_indexed : Int32) (z_starts : Nat → Int32) (post : Int32 → Prop) : Prop :=
  vp_in z_indexed 65 ∧ post (z_starts z_indexed.toNatClampNeg)
def vc_LB_suffixes (z_indexed : Int32) (z_starts : Nat → Int32) (post : Int32 → Prop) : Prop :=
  vp_in z_indexed 65 ∧ post ((z_starts z_indexed.toNatClampNeg) - z_indexed)
def vc_LB_endOf (a_p1 : Int32) (z_starts : Nat → Int32) (post : Int32 → Prop) : Prop :=
  vp_in (a_p1 + 1) 65 ∧ post ((z_starts (a_p1 + 1).toNatClampNeg) - 1)
def vc_LB_lengthFrom (a_p1 : Int32) (z_owners : Nat → Int32) (z_starts : Nat → Int32) (post : Int32 → Prop) : Prop :=
  vp_in a_p1 16448 ∧ vc_LB_endOf (z_owners a_p1.toNatClampNeg) z_starts (fun r1 => post (r1 - a_p1))
def vc_LB_whereOf (a_p1 : Int32) (z_owners : Nat → Int32) (z_starts : Nat → Int32) (post : Int32 → Prop) : Prop :=
  vp_in a_p1 16448 ∧ vp_in (z_owners a_p1.toNatClampNeg) 65 ∧ post ((((z_owners a_p1.toNatClampNeg) * 65536) + a_p1) - (z_starts (z_owners a_p1.toNatClampNeg).toNatClampNeg))
def vc_LB_positionOf (a_p1 : Int32) (z_indexed : Int32) (z_starts : Nat → Int32) (post : Int32 → Prop) : Prop :=
  ((0 ≤ a_p1 → ((z_indexed ≤ (a_p1 / 65536) → post (-1)) ∧ (¬ (z_indexed ≤ (a_p1 / 65536)) → vc_LB_endOf (a_p1 / 65536) z_starts (fun r3 => vp_in (a_p1 / 65536) 65 ∧ (((a_p1 - a_p1 / 65536 * 65536) < (r3 - (z_starts (a_p1 / 65536).toNatClampNeg)) → vp_in (a_p1 / 65536) 65 ∧ post ((z_starts (a_p1 / 65536).toNatClampNeg) + (a_p1 - a_p1 / 65536 * 65536))) ∧ (¬ ((a_p1 - a_p1 / 65536 * 65536) < (r3 - (z_starts (a_p1 / 65536).toNatClampNeg))) → post (-1))))))) ∧ (¬ (0 ≤ a_p1) → post (-1)))
def vc_LB_alike_15 (a_p1 : Int32) (a_p2 : Int32) (a_p3 : Int32) (z_indexed : Int32) (z_text : Nat → Int32) (z_starts : Nat → Int32) (post : Int32 → Prop) : Nat → Int32 → Int32 → Prop
  | 0, _, _ => False
  | k + 1, x4, x5 => ((x4 ≤ x5 → post x5) ∧ (¬ (x4 ≤ x5) → vp_in (a_p1 + x5) 16448 ∧ vp_in (a_p2 + x5) 16448 ∧ ((¬ (z_text (a_p1 + x5).toNatClampNeg) = (z_text (a_p2 + x5).toNatClampNeg) → post x5) ∧ ((z_text (a_p1 + x5).toNatClampNeg) = (z_text (a_p2 + x5).toNatClampNeg) → vc_LB_alike_15 a_p1 a_p2 a_p3 z_indexed z_text z_starts post k x4 (x5 + 1)))))
def vc_LB_alike (a_p1 : Int32) (a_p2 : Int32) (a_p3 : Int32) (z_indexed : Int32) (z_text : Nat → Int32) (z_starts : Nat → Int32) (post : Int32 → Prop) : Prop :=
  vc_LB_indexedText z_indexed z_starts (fun r3 => ∃ j : Nat, vc_LB_alike_15 a_p1 a_p2 a_p3 z_indexed z_text z_starts post j (r3 - (if a_p1 < a_p2 then a_p2 else a_p1)) a_p3)
set_option maxHeartbeats 4000000 in
set_option maxRecDepth 100000 in
theorem c_AR_rangeCheck (l : Launch) (dC : Nat → ClassId) (dI : Nat → Nat → Nat) (cI cJ cB cZ : ClassId) (sz : Nat) (a_p0 : Int32) (a_p1 : Int32) (a_p2 : Int32) (post : Prop) (hv : vc_AR_rangeCheck a_p0 a_p1 a_p2 post ) : Met l y_AR_rangeCheck (Cond.code y_AR_rangeCheck b_AR_rangeCheck 3 none :: WT) rm_AR_rangeCheck (cPre (dC, dI) classes (TYS cI cJ cB cZ) [] sz [.int a_p0, .int a_p1, .int a_p2]) (va_Qv (fun u : Unit => post ) (fun u t => cAft (dC, dI) classes (TYS cI cJ cB cZ) (va_A [] sz) [] t) (va_A [] sz)) 0 0 (va_A [] sz) := by
  refine Met.ofW (cc := b_AR_rangeCheck) (maxL := 3) (ret := none) (by decide) rfl ?_
  intro p e s m args below meth c s₁ B hml hq
  obtain ⟨rfl, hsz, hP, hK, hD0⟩ := hq
  have hts := atoms_spec (ws := Cond.code y_AR_rangeCheck b_AR_rangeCheck 3 none :: WT) B.pre
  have hw : ∀ w ∈ WT, w.before ([.int a_p0, .int a_p1, .int a_p2] : List Value).toArray s = true := fun w h => hts w (List.mem_cons_of_mem _ h)
  have hx := B.exec
  have hb := B.bytes
  have hr := B.returns
  have hlk := B.notSynchronized
  have hown : s.vm.findClass "java/util/Arrays" = some m.cls := findClass_of_methodNamed B.named
  have F : CallFix p m c b_AR_rangeCheck 3 s ([.int a_p0, .int a_p1, .int a_p2] : List Value).toArray WT "java/util/Arrays" := ⟨hx, hb, hml, hown, hw⟩
  subst hsz
  have hD := hD0.self (sz := s.heap.size)
  generalize hAe : va_A [] s.heap.size = A at hD ⊢
  have hA : ∀ q : Nat, s.heap.size ≤ q → A q := fun q h => by rw [← hAe]; exact Or.inr h
  have hS : va_S A s.heap s.heap [] := va_S.rf
  have hl := lv_entry ([.int a_p0, .int a_p1, .int a_p2]) (n := 3) (Nat.le_of_ble_eq_true rfl)
  rw [lg_entry_eq]
  generalize (lg_sl ([.int a_p0, .int a_p1, .int a_p2]) ++ List.replicate (3 - (lg_sl ([.int a_p0, .int a_p1, .int a_p2])).length) Slot.unset).toArray = ls at hl ⊢
  have hl : lv_has ls 3 [(0, .int a_p0), (1, .int a_p1), (2, .int a_p2)] := hl
  show W p l e rm_AR_rangeCheck s m _ below meth c s.heap [] 0 0 _ _
  have hP : va_P (dC, dI) classes [] s.heap := hP
  obtain ⟨H, hHe⟩ : ∃ H, H = s.heap := ⟨_, rfl⟩
  have hS : va_S A s.heap H [] := by rw [hHe]; exact hS
  rw [← hHe] at hP
  suffices hgoal : W p l e rm_AR_rangeCheck s m ([.int a_p0, .int a_p1, .int a_p2] : List Value).toArray below meth c H [] 0 0 (MQ below (va_Qv (fun u : Unit => post ) (fun u t => cAft (dC, dI) classes (TYS cI cJ cB cZ) A [] t) A) ([.int a_p0, .int a_p1, .int a_p2] : List Value).toArray s 0 0 A) (F0 m 0 ls []) by rw [hHe] at hgoal; exact hgoal
  refine lv_iload_n hx hb d_AR_rangeCheck_0 rfl (lv_at hl 1 rfl) ?_
  refine lv_iload_n hx hb d_AR_rangeCheck_1 rfl (lv_at hl 2 rfl) ?_
  obtain ⟨hvt, hvf⟩ := hv
  refine lv_icmp_le (tgt := 46) hx hb d_AR_rangeCheck_2 (by decide) (fun c1 => ?_) (fun c1 => ?_)
  · have hv := hvt c1
    refine lv_iload_n hx hb d_AR_rangeCheck_46 rfl (lv_at hl 1 rfl) ?_
    obtain ⟨hvt, hvf⟩ := hv
    refine lv_if_ge (tgt := 59) hx hb d_AR_rangeCheck_47 (by decide) (fun c2 => ?_) (fun c2 => ?_)
    · have hv := hvt c2
      refine lv_iload_n hx hb d_AR_rangeCheck_59 rfl (lv_at hl 2 rfl) ?_
      refine lv_iload_n hx hb d_AR_rangeCheck_60 rfl (lv_at hl 0 rfl) ?_
      obtain ⟨hvt, hvf⟩ := hv
      refine lv_icmp_le (tgt := 73) hx hb d_AR_rangeCheck_61 (by decide) (fun c3 => ?_) (fun c3 => ?_)
      · have hv := hvt c3
        exact W.vret hx hb hr (fun t ht hW => ⟨⟨(), rfl, hv, by rw [ht]; exact hP, va_K.moved hW.alike hK, hD⟩, hS.F ht⟩) hS.2.2 d_AR_rangeCheck_73
      · have hv := hvf c3
        exact hv.elim
    · have hv := hvf c2
      exact hv.elim
  · have hv := hvf c1
    exact hv.elim

set_option maxHeartbeats 4000000 in
set_option maxRecDepth 100000 in
theorem wk_AR_fill1_10 {p : Program} {l : Launch} {e : Env} {s : State} {m : MethodId} {below : List Frame} {meth : Method} {c : Code} {A : Nat → Prop} {dC : Nat → ClassId} {dI : Nat → Nat → Nat} {cI cJ cB cZ : ClassId} {h_p0 : Nat} {a_p1 : Int32} {a_p2 : Int32} {a_p3 : Int32} {n_p0 : Nat} {post : (Nat → Int32) → Prop} (F : CallFix p m c b_AR_fill1 5 s ([.ref h_p0, .int a_p1, .int a_p2, .int a_p3] : List Value).toArray WT "java/util/Arrays") (hr : meth.sig.returnType = none) (hlk : meth.locks = false) (hK : va_K (dC, dI) classes (TYS cI cJ cB cZ) s) (hA : ∀ q, s.heap.size ≤ q → A q) : ∀ (k : Nat) (x4 : Int32) (z_p0 : Nat → Int32), vc_AR_fill1_10 a_p1 a_p2 a_p3 n_p0 post k x4 z_p0 → ∀ (H : Heap) (locs : List Loc) (ls : Array Slot), va_P (dC, dI) classes [(h_p0, .inl (cI, n_p0, .inl z_p0))] H → va_D A [(h_p0, .inl (cI, n_p0, .inl z_p0))] → va_S A s.heap H locs → lv_has ls 5 [(0, .ref h_p0), (2, .int a_p2), (3, .int a_p3), (4, .int x4)] → W p l e rm_AR_fill1 s m ([.ref h_p0, .int a_p1, .int a_p2, .int a_p3] : List Value).toArray below meth c H locs 0 0 (MQ below (va_Qv (fun u : (Nat → Int32) => post u) (fun u t => cAft (dC, dI) classes (TYS cI cJ cB cZ) A [(h_p0, .inl (cI, n_p0, .inl u))] t) A) ([.ref h_p0, .int a_p1, .int a_p2, .int a_p3] : List Value).toArray s 0 0 A) (F0 m 10 ls []) := by
  obtain ⟨hx, hb, hml, hown, hw⟩ := id F
  intro k
  induction k with
  | zero =>
    intro x4 z_p0 hv
    exact False.elim hv
  | succ k ih =>
    intro x4 z_p0 hv H locs ls hP hD hS hl
    refine lv_iload hx hb d_AR_fill1_10 (lv_at hl 3 rfl) ?_
    refine lv_iload_n hx hb d_AR_fill1_12 rfl (lv_at hl 1 rfl) ?_
    obtain ⟨hvt, hvf⟩ := hv
    refine lv_icmp_ge (tgt := 27) hx hb d_AR_fill1_13 (by decide) (fun c1 => ?_) (fun c1 => ?_)
    · have hv := hvt c1
      exact W.vret hx hb hr (fun t ht hW => ⟨⟨z_p0, rfl, hv, by rw [ht]; exact hP, va_K.moved hW.alike hK, hD⟩, hS.F ht⟩) hS.2.2 d_AR_fill1_27
    · have hv := hvf c1
      refine lv_aload_n hx hb d_AR_fill1_16 rfl (lv_at hl 0 rfl) ?_
      refine lv_iload hx hb d_AR_fill1_17 (lv_at hl 3 rfl) ?_
      refine lv_iload_n hx hb d_AR_fill1_19 rfl (lv_at hl 2 rfl) ?_
      obtain ⟨hin, hv⟩ := hv
      refine va_iast hx hb hK hP hD hS 0 0 rfl rfl hin d_AR_fill1_20 (fun H locs hP hD hS => ?_)
      have hP : va_P (dC, dI) classes [(h_p0, .inl (cI, n_p0, .inl (upd z_p0 x4.toNatClampNeg a_p3)))] H := hP
      have hD : va_D A [(h_p0, .inl (cI, n_p0, .inl (upd z_p0 x4.toNatClampNeg a_p3)))] := hD
      refine lv_iinc (v := x4 + 1) (lv' := [(4, .int (x4 + 1)), (0, .ref h_p0), (2, .int a_p2), (3, .int a_p3)]) hx hb d_AR_fill1_21 hl (k := 3) rfl (iinc_v (by decide)) (by decide) rfl (fun ls hl => ?_)
      refine lv_goto (tgt := 10) hx hb d_AR_fill1_24 (by decide) ?_
      exact ih (x4 + 1) (upd z_p0 x4.toNatClampNeg a_p3) hv _ _ _ hP hD hS (lv_sub hl [1, 2, 3, 0] rfl)

set_option maxHeartbeats 4000000 in
set_option maxRecDepth 100000 in
theorem c_AR_fill1 (l : Launch) (dC : Nat → ClassId) (dI : Nat → Nat → Nat) (cI cJ cB cZ : ClassId) (h_p0 : Nat) (n_p0 : Nat) (sz : Nat) (z_p0 : Nat → Int32) (a_p1 : Int32) (a_p2 : Int32) (a_p3 : Int32) (post : (Nat → Int32) → Prop) (hv : vc_AR_fill1 a_p1 a_p2 a_p3 n_p0 post z_p0) : Met l y_AR_fill1 (Cond.code y_AR_fill1 b_AR_fill1 5 none :: WT) rm_AR_fill1 (cPre (dC, dI) classes (TYS cI cJ cB cZ) [(h_p0, .inl (cI, n_p0, .inl z_p0))] sz [.ref h_p0, .int a_p1, .int a_p2, .int a_p3]) (va_Qv (fun u : (Nat → Int32) => post u) (fun u t => cAft (dC, dI) classes (TYS cI cJ cB cZ) (va_A [(h_p0, .inl (cI, n_p0, .inl z_p0))] sz) [(h_p0, .inl (cI, n_p0, .inl u))] t) (va_A [(h_p0, .inl (cI, n_p0, .inl z_p0))] sz)) 0 0 (va_A [(h_p0, .inl (cI, n_p0, .inl z_p0))] sz) := by
  refine Met.ofW (cc := b_AR_fill1) (maxL := 5) (ret := none) (by decide) rfl ?_
  intro p e s m args below meth c s₁ B hml hq
  obtain ⟨rfl, hsz, hP, hK, hD0⟩ := hq
  have hts := atoms_spec (ws := Cond.code y_AR_fill1 b_AR_fill1 5 none :: WT) B.pre
  have hw : ∀ w ∈ WT, w.before ([.ref h_p0, .int a_p1, .int a_p2, .int a_p3] : List Value).toArray s = true := fun w h => hts w (List.mem_cons_of_mem _ h)
  have hx := B.exec
  have hb := B.bytes
  have hr := B.returns
  have hlk := B.notSynchronized
  have hown : s.vm.findClass "java/util/Arrays" = some m.cls := findClass_of_methodNamed B.named
  have F : CallFix p m c b_AR_fill1 5 s ([.ref h_p0, .int a_p1, .int a_p2, .int a_p3] : List Value).toArray WT "java/util/Arrays" := ⟨hx, hb, hml, hown, hw⟩
  subst hsz
  have hD := hD0.self (sz := s.heap.size)
  generalize hAe : va_A [(h_p0, .inl (cI, n_p0, .inl z_p0))] s.heap.size = A at hD ⊢
  have hA : ∀ q : Nat, s.heap.size ≤ q → A q := fun q h => by rw [← hAe]; exact Or.inr h
  have hS : va_S A s.heap s.heap [] := va_S.rf
  have hl := lv_entry ([.ref h_p0, .int a_p1, .int a_p2, .int a_p3]) (n := 5) (Nat.le_of_ble_eq_true rfl)
  rw [lg_entry_eq]
  generalize (lg_sl ([.ref h_p0, .int a_p1, .int a_p2, .int a_p3]) ++ List.replicate (5 - (lg_sl ([.ref h_p0, .int a_p1, .int a_p2, .int a_p3])).length) Slot.unset).toArray = ls at hl ⊢
  have hl : lv_has ls 5 [(0, .ref h_p0), (1, .int a_p1), (2, .int a_p2), (3, .int a_p3)] := hl
  show W p l e rm_AR_fill1 s m _ below meth c s.heap [] 0 0 _ _
  have hP : va_P (dC, dI) classes [(h_p0, .inl (cI, n_p0, .inl z_p0))] s.heap := hP
  obtain ⟨H, hHe⟩ : ∃ H, H = s.heap := ⟨_, rfl⟩
  have hS : va_S A s.heap H [] := by rw [hHe]; exact hS
  rw [← hHe] at hP
  suffices hgoal : W p l e rm_AR_fill1 s m ([.ref h_p0, .int a_p1, .int a_p2, .int a_p3] : List Value).toArray below meth c H [] 0 0 (MQ below (va_Qv (fun u : (Nat → Int32) => post u) (fun u t => cAft (dC, dI) classes (TYS cI cJ cB cZ) A [(h_p0, .inl (cI, n_p0, .inl u))] t) A) ([.ref h_p0, .int a_p1, .int a_p2, .int a_p3] : List Value).toArray s 0 0 A) (F0 m 0 ls []) by rw [hHe] at hgoal; exact hgoal
  refine lv_aload_n hx hb d_AR_fill1_0 rfl (lv_at hl 0 rfl) ?_
  refine va_alen (v := nI n_p0) hx hb hK hP 0 0 rfl rfl rfl d_AR_fill1_1 ?_
  refine lv_iload_n hx hb d_AR_fill1_2 rfl (lv_at hl 1 rfl) ?_
  refine lv_iload_n hx hb d_AR_fill1_3 rfl (lv_at hl 2 rfl) ?_
  refine cS_v (wr := [(h_p0, .inl (cI, n_p0, .inl z_p0))]) (rest := []) (c_AR_rangeCheck l dC dI cI cJ cB cZ H.size (nI n_p0) a_p1 a_p2 _ hv) F (cw_S (fun _ h => h) 3 hw m_322 m_323 m_16 m_324 rfl rfl (by decide +kernel) ⟨by decide, by decide⟩) hK hP hD hS hA [] [0] rfl rfl rfl rfl (by decide) rfl hl.1 rfl (Nat.le_of_ble_eq_true rfl) d_AR_fill1_4 ⟨Nat.le_of_ble_eq_true rfl, Nat.le_of_ble_eq_true rfl⟩ (fun u H locs hv hP hD hS => ?_)
  have hP : va_P (dC, dI) classes [(h_p0, .inl (cI, n_p0, .inl z_p0))] H := P_sub hP [0] rfl
  have hD : va_D A [(h_p0, .inl (cI, n_p0, .inl z_p0))] := hD.sub [0] rfl rfl
  refine lv_iload_n hx hb d_AR_fill1_7 rfl (lv_at hl 1 rfl) ?_
  refine lv_istore (lv' := [(4, .int a_p1), (0, .ref h_p0), (1, .int a_p1), (2, .int a_p2), (3, .int a_p3)]) hx hb d_AR_fill1_8 hl (by decide) rfl (fun ls hl => ?_)
  obtain ⟨j, hv⟩ := hv
  exact wk_AR_fill1_10 F hr hlk hK hA j a_p1 z_p0 hv _ _ _ hP hD hS (lv_sub hl [1, 3, 4, 0] rfl)

set_option maxHeartbeats 4000000 in
set_option maxRecDepth 100000 in
theorem wk_AR_fill0_5 {p : Program} {l : Launch} {e : Env} {s : State} {m : MethodId} {below : List Frame} {meth : Method} {c : Code} {A : Nat → Prop} {dC : Nat → ClassId} {dI : Nat → Nat → Nat} {cI cJ cB cZ : ClassId} {h_p0 : Nat} {a_p1 : Int32} {n_p0 : Nat} {post : (Nat → Int32) → Prop} (F : CallFix p m c b_AR_fill0 4 s ([.ref h_p0, .int a_p1] : List Value).toArray WT "java/util/Arrays") (hr : meth.sig.returnType = none) (hlk : meth.locks = false) (hK : va_K (dC, dI) classes (TYS cI cJ cB cZ) s) (hA : ∀ q, s.heap.size ≤ q → A q) : ∀ (k : Nat) (x2 : Int32) (x3 : Int32) (z_p0 : Nat → Int32), vc_AR_fill0_5 a_p1 n_p0 post k x2 x3 z_p0 → ∀ (H : Heap) (locs : List Loc) (ls : Array Slot), va_P (dC, dI) classes [(h_p0, .inl (cI, n_p0, .inl z_p0))] H → va_D A [(h_p0, .inl (cI, n_p0, .inl z_p0))] → va_S A s.heap H locs → lv_has ls 4 [(0, .ref h_p0), (1, .int a_p1), (2, .int x2), (3, .int x3)] → W p l e rm_AR_fill0 s m ([.ref h_p0, .int a_p1] : List Value).toArray below meth c H locs 0 0 (MQ below (va_Qv (fun u : (Nat → Int32) => post u) (fun u t => cAft (dC, dI) classes (TYS cI cJ cB cZ) A [(h_p0, .inl (cI, n_p0, .inl u))] t) A) ([.ref h_p0, .int a_p1] : List Value).toArray s 0 0 A) (F0 m 5 ls []) := by
  obtain ⟨hx, hb, hml, hown, hw⟩ := id F
  intro k
  induction k with
  | zero =>
    intro x2 x3 z_p0 hv
    exact False.elim hv
  | succ k ih =>
    intro x2 x3 z_p0 hv H locs ls hP hD hS hl
    refine lv_iload_n hx hb d_AR_fill0_5 rfl (lv_at hl 2 rfl) ?_
    refine lv_iload_n hx hb d_AR_fill0_6 rfl (lv_at hl 3 rfl) ?_
    obtain ⟨hvt, hvf⟩ := hv
    refine lv_icmp_ge (tgt := 20) hx hb d_AR_fill0_7 (by decide) (fun c1 => ?_) (fun c1 => ?_)
    · have hv := hvt c1
      exact W.vret hx hb hr (fun t ht hW => ⟨⟨z_p0, rfl, hv, by rw [ht]; exact hP, va_K.moved hW.alike hK, hD⟩, hS.F ht⟩) hS.2.2 d_AR_fill0_20
    · have hv := hvf c1
      refine lv_aload_n hx hb d_AR_fill0_10 rfl (lv_at hl 0 rfl) ?_
      refine lv_iload_n hx hb d_AR_fill0_11 rfl (lv_at hl 2 rfl) ?_
      refine lv_iload_n hx hb d_AR_fill0_12 rfl (lv_at hl 1 rfl) ?_
      obtain ⟨hin, hv⟩ := hv
      refine va_iast hx hb hK hP hD hS 0 0 rfl rfl hin d_AR_fill0_13 (fun H locs hP hD hS => ?_)
      have hP : va_P (dC, dI) classes [(h_p0, .inl (cI, n_p0, .inl (upd z_p0 x2.toNatClampNeg a_p1)))] H := hP
      have hD : va_D A [(h_p0, .inl (cI, n_p0, .inl (upd z_p0 x2.toNatClampNeg a_p1)))] := hD
      refine lv_iinc (v := x2 + 1) (lv' := [(2, .int (x2 + 1)), (0, .ref h_p0), (1, .int a_p1), (3, .int x3)]) hx hb d_AR_fill0_14 hl (k := 2) rfl (iinc_v (by decide)) (by decide) rfl (fun ls hl => ?_)
      refine lv_goto (tgt := 5) hx hb d_AR_fill0_17 (by decide) ?_
      exact ih (x2 + 1) x3 (upd z_p0 x2.toNatClampNeg a_p1) hv _ _ _ hP hD hS (lv_sub hl [1, 2, 0, 3] rfl)

set_option maxHeartbeats 4000000 in
set_option maxRecDepth 100000 in
theorem c_AR_fill0 (l : Launch) (dC : Nat → ClassId) (dI : Nat → Nat → Nat) (cI cJ cB cZ : ClassId) (h_p0 : Nat) (n_p0 : Nat) (sz : Nat) (z_p0 : Nat → Int32) (a_p1 : Int32) (post : (Nat → Int32) → Prop) (hv : vc_AR_fill0 a_p1 n_p0 post z_p0) : Met l y_AR_fill0 (Cond.code y_AR_fill0 b_AR_fill0 4 none :: WT) rm_AR_fill0 (cPre (dC, dI) classes (TYS cI cJ cB cZ) [(h_p0, .inl (cI, n_p0, .inl z_p0))] sz [.ref h_p0, .int a_p1]) (va_Qv (fun u : (Nat → Int32) => post u) (fun u t => cAft (dC, dI) classes (TYS cI cJ cB cZ) (va_A [(h_p0, .inl (cI, n_p0, .inl z_p0))] sz) [(h_p0, .inl (cI, n_p0, .inl u))] t) (va_A [(h_p0, .inl (cI, n_p0, .inl z_p0))] sz)) 0 0 (va_A [(h_p0, .inl (cI, n_p0, .inl z_p0))] sz) := by
  refine Met.ofW (cc := b_AR_fill0) (maxL := 4) (ret := none) (by decide) rfl ?_
  intro p e s m args below meth c s₁ B hml hq
  obtain ⟨rfl, hsz, hP, hK, hD0⟩ := hq
  have hts := atoms_spec (ws := Cond.code y_AR_fill0 b_AR_fill0 4 none :: WT) B.pre
  have hw : ∀ w ∈ WT, w.before ([.ref h_p0, .int a_p1] : List Value).toArray s = true := fun w h => hts w (List.mem_cons_of_mem _ h)
  have hx := B.exec
  have hb := B.bytes
  have hr := B.returns
  have hlk := B.notSynchronized
  have hown : s.vm.findClass "java/util/Arrays" = some m.cls := findClass_of_methodNamed B.named
  have F : CallFix p m c b_AR_fill0 4 s ([.ref h_p0, .int a_p1] : List Value).toArray WT "java/util/Arrays" := ⟨hx, hb, hml, hown, hw⟩
  subst hsz
  have hD := hD0.self (sz := s.heap.size)
  generalize hAe : va_A [(h_p0, .inl (cI, n_p0, .inl z_p0))] s.heap.size = A at hD ⊢
  have hA : ∀ q : Nat, s.heap.size ≤ q → A q := fun q h => by rw [← hAe]; exact Or.inr h
  have hS : va_S A s.heap s.heap [] := va_S.rf
  have hl := lv_entry ([.ref h_p0, .int a_p1]) (n := 4) (Nat.le_of_ble_eq_true rfl)
  rw [lg_entry_eq]
  generalize (lg_sl ([.ref h_p0, .int a_p1]) ++ List.replicate (4 - (lg_sl ([.ref h_p0, .int a_p1])).length) Slot.unset).toArray = ls at hl ⊢
  have hl : lv_has ls 4 [(0, .ref h_p0), (1, .int a_p1)] := hl
  show W p l e rm_AR_fill0 s m _ below meth c s.heap [] 0 0 _ _
  have hP : va_P (dC, dI) classes [(h_p0, .inl (cI, n_p0, .inl z_p0))] s.heap := hP
  obtain ⟨H, hHe⟩ : ∃ H, H = s.heap := ⟨_, rfl⟩
  have hS : va_S A s.heap H [] := by rw [hHe]; exact hS
  rw [← hHe] at hP
  suffices hgoal : W p l e rm_AR_fill0 s m ([.ref h_p0, .int a_p1] : List Value).toArray below meth c H [] 0 0 (MQ below (va_Qv (fun u : (Nat → Int32) => post u) (fun u t => cAft (dC, dI) classes (TYS cI cJ cB cZ) A [(h_p0, .inl (cI, n_p0, .inl u))] t) A) ([.ref h_p0, .int a_p1] : List Value).toArray s 0 0 A) (F0 m 0 ls []) by rw [hHe] at hgoal; exact hgoal
  refine lv_iconst (v := 0) hx hb d_AR_fill0_0 (by decide) ?_
  refine lv_istore_n (lv' := [(2, .int 0), (0, .ref h_p0), (1, .int a_p1)]) hx hb d_AR_fill0_1 rfl hl (by decide) rfl (fun ls hl => ?_)
  refine lv_aload_n hx hb d_AR_fill0_2 rfl (lv_at hl 1 rfl) ?_
  refine va_alen (v := nI n_p0) hx hb hK hP 0 0 rfl rfl rfl d_AR_fill0_3 ?_
  refine lv_istore_n (lv' := [(3, .int (nI n_p0)), (2, .int 0), (0, .ref h_p0), (1, .int a_p1)]) hx hb d_AR_fill0_4 rfl hl (by decide) rfl (fun ls hl => ?_)
  obtain ⟨j, hv⟩ := hv
  exact wk_AR_fill0_5 F hr hlk hK hA j 0 (nI n_p0) z_p0 hv _ _ _ hP hD hS (lv_sub hl [2, 3, 1, 0] rfl)

set_option maxHeartbeats 4000000 in
set_option maxRecDepth 100000 in
theorem c_BR_hasRoom (l : Launch) (dC : Nat → ClassId) (dI : Nat → Nat → Nat) (cI cJ cB cZ : ClassId) (h_t : Nat) (h_bytes : Nat) (n_bytes : Nat) (sz : Nat) (z_length : Int32) (z_bytes : Nat → Int32) (a_p1 : Int32) (post : Int32 → Prop) (hv : vc_BR_hasRoom a_p1 n_bytes z_length post ) : Met l y_BR_hasRoom (Cond.code y_BR_hasRoom b_BR_hasRoom 2 (some .boolean) :: WT) rm_BR_hasRoom (cPre (dC, dI) classes (TYS cI cJ cB cZ) [(h_t, .inr (0, [.ref h_bytes, .int z_length])), (h_bytes, .inl (cI, n_bytes, .inl z_bytes))] sz [.ref h_t, .int a_p1]) (va_Qi (fun (r : Int32) (u : Unit) => post r ) (fun u t => cAft (dC, dI) classes (TYS cI cJ cB cZ) (va_A [(h_t, .inr (0, [.ref h_bytes, .int z_length])), (h_bytes, .inl (cI, n_bytes, .inl z_bytes))] sz) [(h_t, .inr (0, [.ref h_bytes, .int z_length])), (h_bytes, .inl (cI, n_bytes, .inl z_bytes))] t) (va_A [(h_t, .inr (0, [.ref h_bytes, .int z_length])), (h_bytes, .inl (cI, n_bytes, .inl z_bytes))] sz)) 0 0 (va_A [(h_t, .inr (0, [.ref h_bytes, .int z_length])), (h_bytes, .inl (cI, n_bytes, .inl z_bytes))] sz) := by
  refine Met.ofW (cc := b_BR_hasRoom) (maxL := 2) (ret := (some .boolean)) (by decide) rfl ?_
  intro p e s m args below meth c s₁ B hml hq
  obtain ⟨rfl, hsz, hP, hK, hD0⟩ := hq
  have hts := atoms_spec (ws := Cond.code y_BR_hasRoom b_BR_hasRoom 2 (some .boolean) :: WT) B.pre
  have hw : ∀ w ∈ WT, w.before ([.ref h_t, .int a_p1] : List Value).toArray s = true := fun w h => hts w (List.mem_cons_of_mem _ h)
  have hx := B.exec
  have hb := B.bytes
  have hr := B.returns
  have hlk := B.notSynchronized
  have hown : s.vm.findClass "SuffixIndex$ByteRow" = some m.cls := findClass_of_methodNamed B.named
  have F : CallFix p m c b_BR_hasRoom 2 s ([.ref h_t, .int a_p1] : List Value).toArray WT "SuffixIndex$ByteRow" := ⟨hx, hb, hml, hown, hw⟩
  subst hsz
  have hD := hD0.self (sz := s.heap.size)
  generalize hAe : va_A [(h_t, .inr (0, [.ref h_bytes, .int z_length])), (h_bytes, .inl (cI, n_bytes, .inl z_bytes))] s.heap.size = A at hD ⊢
  have hA : ∀ q : Nat, s.heap.size ≤ q → A q := fun q h => by rw [← hAe]; exact Or.inr h
  have hS : va_S A s.heap s.heap [] := va_S.rf
  have hl := lv_entry ([.ref h_t, .int a_p1]) (n := 2) (Nat.le_of_ble_eq_true rfl)
  rw [lg_entry_eq]
  generalize (lg_sl ([.ref h_t, .int a_p1]) ++ List.replicate (2 - (lg_sl ([.ref h_t, .int a_p1])).length) Slot.unset).toArray = ls at hl ⊢
  have hl : lv_has ls 2 [(0, .ref h_t), (1, .int a_p1)] := hl
  show W p l e rm_BR_hasRoom s m _ below meth c s.heap [] 0 0 _ _
  have hP : va_P (dC, dI) classes [(h_t, .inr (0, [.ref h_bytes, .int z_length])), (h_bytes, .inl (cI, n_bytes, .inl z_bytes))] s.heap := hP
  obtain ⟨H, hHe⟩ : ∃ H, H = s.heap := ⟨_, rfl⟩
  have hS : va_S A s.heap H [] := by rw [hHe]; exact hS
  rw [← hHe] at hP
  suffices hgoal : W p l e rm_BR_hasRoom s m ([.ref h_t, .int a_p1] : List Value).toArray below meth c H [] 0 0 (MQ below (va_Qi (fun (r : Int32) (u : Unit) => post r ) (fun u t => cAft (dC, dI) classes (TYS cI cJ cB cZ) A [(h_t, .inr (0, [.ref h_bytes, .int z_length])), (h_bytes, .inl (cI, n_bytes, .inl z_bytes))] t) A) ([.ref h_t, .int a_p1] : List Value).toArray s 0 0 A) (F0 m 0 ls []) by rw [hHe] at hgoal; exact hgoal
  refine lv_iload_n hx hb d_BR_hasRoom_0 rfl (lv_at hl 1 rfl) ?_
  refine lv_aload_n hx hb d_BR_hasRoom_1 rfl (lv_at hl 0 rfl) ?_
  refine va_get (D := (dC, dI)) (ci := 0) (v := .ref h_bytes) (C := "SuffixIndex$ByteRow") (T := F_BR) (N := 2) hx hb hw i_BR hown hK hP 0 rfl rfl 0 (by decide) (hw _ m_43) (fun _ h9 => h9) rfl d_BR_hasRoom_2 ?_
  refine va_alen (v := nI n_bytes) hx hb hK hP 1 0 rfl rfl rfl d_BR_hasRoom_5 ?_
  refine lv_aload_n hx hb d_BR_hasRoom_6 rfl (lv_at hl 0 rfl) ?_
  refine va_get (D := (dC, dI)) (ci := 0) (v := .int z_length) (C := "SuffixIndex$ByteRow") (T := F_BR) (N := 2) hx hb hw i_BR hown hK hP 0 rfl rfl 1 (by decide) (hw _ m_49) (fun _ h9 => h9) rfl d_BR_hasRoom_7 ?_
  refine lv_isub hx hb d_BR_hasRoom_10 ?_
  obtain ⟨hvt, hvf⟩ := hv
  refine lv_icmp_gt (tgt := 18) hx hb d_BR_hasRoom_11 (by decide) (fun c1 => ?_) (fun c1 => ?_)
  · have hv := hvt c1
    refine lv_iconst (v := 0) hx hb d_BR_hasRoom_18 (by decide) ?_
    exact W.zret (v := 0) hx hb hr rfl (fun t ht hW => ⟨⟨0, (), rfl, hv, by rw [ht]; exact hP, va_K.moved hW.alike hK, hD⟩, hS.F ht⟩) hS.2.2 d_BR_hasRoom_19
  · have hv := hvf c1
    refine lv_iconst (v := 1) hx hb d_BR_hasRoom_14 (by decide) ?_
    refine lv_goto (tgt := 19) hx hb d_BR_hasRoom_15 (by decide) ?_
    exact W.zret (v := 1) hx hb hr rfl (fun t ht hW => ⟨⟨1, (), rfl, hv, by rw [ht]; exact hP, va_K.moved hW.alike hK, hD⟩, hS.F ht⟩) hS.2.2 d_BR_hasRoom_19

set_option maxHeartbeats 4000000 in
set_option maxRecDepth 100000 in
theorem wk_BR_putFour_12 {p : Program} {l : Launch} {e : Env} {s : State} {m : MethodId} {below : List Frame} {meth : Method} {c : Code} {A : Nat → Prop} {dC : Nat → ClassId} {dI : Nat → Nat → Nat} {cI cJ cB cZ : ClassId} {h_t : Nat} {h_bytes : Nat} {a_p1 : Int32} {n_bytes : Nat} {post : Int32 → (Nat → Int32) → Prop} (F : CallFix p m c b_BR_putFour 3 s ([.ref h_t, .int a_p1] : List Value).toArray WT "SuffixIndex$ByteRow") (hr : meth.sig.returnType = none) (hlk : meth.locks = false) (hK : va_K (dC, dI) classes (TYS cI cJ cB cZ) s) (hA : ∀ q, s.heap.size ≤ q → A q) : ∀ (k : Nat) (x2 : Int32) (z_length : Int32) (z_bytes : Nat → Int32), vc_BR_putFour_12 a_p1 n_bytes post k x2 z_length z_bytes → ∀ (H : Heap) (locs : List Loc) (ls : Array Slot), va_P (dC, dI) classes [(h_t, .inr (0, [.ref h_bytes, .int z_length])), (h_bytes, .inl (cI, n_bytes, .inl z_bytes))] H → va_D A [(h_t, .inr (0, [.ref h_bytes, .int z_length])), (h_bytes, .inl (cI, n_bytes, .inl z_bytes))] → va_S A s.heap H locs → lv_has ls 3 [(0, .ref h_t), (1, .int a_p1), (2, .int x2)] → W p l e rm_BR_putFour s m ([.ref h_t, .int a_p1] : List Value).toArray below meth c H locs 0 0 (MQ below (va_Qv (fun u : Int32 × (Nat → Int32) => post u.1 u.2) (fun u t => cAft (dC, dI) classes (TYS cI cJ cB cZ) A [(h_t, .inr (0, [.ref h_bytes, .int u.1])), (h_bytes, .inl (cI, n_bytes, .inl u.2))] t) A) ([.ref h_t, .int a_p1] : List Value).toArray s 0 0 A) (F0 m 12 ls []) := by
  obtain ⟨hx, hb, hml, hown, hw⟩ := id F
  intro k
  induction k with
  | zero =>
    intro x2 z_length z_bytes hv
    exact False.elim hv
  | succ k ih =>
    intro x2 z_length z_bytes hv H locs ls hP hD hS hl
    refine lv_iload_n hx hb d_BR_putFour_12 rfl (lv_at hl 2 rfl) ?_
    obtain ⟨hvt, hvf⟩ := hv
    refine lv_if_lt (tgt := 48) hx hb d_BR_putFour_13 (by decide) (fun c1 => ?_) (fun c1 => ?_)
    · have hv := hvt c1
      exact W.vret hx hb hr (fun t ht hW => ⟨⟨(z_length, z_bytes), rfl, hv, by rw [ht]; exact hP, va_K.moved hW.alike hK, hD⟩, hS.F ht⟩) hS.2.2 d_BR_putFour_48
    · have hv := hvf c1
      refine lv_aload_n hx hb d_BR_putFour_16 rfl (lv_at hl 0 rfl) ?_
      refine va_get (D := (dC, dI)) (ci := 0) (v := .ref h_bytes) (C := "SuffixIndex$ByteRow") (T := F_BR) (N := 2) hx hb hw i_BR hown hK hP 0 rfl rfl 0 (by decide) (hw _ m_43) (fun _ h9 => h9) rfl d_BR_putFour_17 ?_
      refine lv_aload_n hx hb d_BR_putFour_20 rfl (lv_at hl 0 rfl) ?_
      refine va_get (D := (dC, dI)) (ci := 0) (v := .int z_length) (C := "SuffixIndex$ByteRow") (T := F_BR) (N := 2) hx hb hw i_BR hown hK hP 0 rfl rfl 1 (by decide) (hw _ m_49) (fun _ h9 => h9) rfl d_BR_putFour_21 ?_
      refine lv_iload_n hx hb d_BR_putFour_24 rfl (lv_at hl 1 rfl) ?_
      refine lv_iload_n hx hb d_BR_putFour_25 rfl (lv_at hl 2 rfl) ?_
      refine lv_iushr hx hb d_BR_putFour_26 rfl ?_
      refine lv_sipush (v := 255) hx hb d_BR_putFour_27 (by decide) ?_
      refine lv_iand hx hb d_BR_putFour_30 ?_
      obtain ⟨hin, hv⟩ := hv
      refine va_iast hx hb hK hP hD hS 1 0 rfl rfl hin d_BR_putFour_31 (fun H locs hP hD hS => ?_)
      have hP : va_P (dC, dI) classes [(h_t, .inr (0, [.ref h_bytes, .int z_length])), (h_bytes, .inl (cI, n_bytes, .inl (upd z_bytes z_length.toNatClampNeg (((a_p1.toUInt32 >>> (x2.toUInt32 &&& Int32.toUInt32 31)).toInt32) &&& 255))))] H := hP
      have hD : va_D A [(h_t, .inr (0, [.ref h_bytes, .int z_length])), (h_bytes, .inl (cI, n_bytes, .inl (upd z_bytes z_length.toNatClampNeg (((a_p1.toUInt32 >>> (x2.toUInt32 &&& Int32.toUInt32 31)).toInt32) &&& 255))))] := hD
      refine lv_aload_n hx hb d_BR_putFour_32 rfl (lv_at hl 0 rfl) ?_
      refine lv_dup hx hb d_BR_putFour_33 rfl ?_
      refine va_get (D := (dC, dI)) (ci := 0) (v := .int z_length) (C := "SuffixIndex$ByteRow") (T := F_BR) (N := 2) hx hb hw i_BR hown hK hP 0 rfl rfl 1 (by decide) (hw _ m_49) (fun _ h9 => h9) rfl d_BR_putFour_34 ?_
      refine lv_iconst (v := 1) hx hb d_BR_putFour_37 (by decide) ?_
      refine lv_iadd hx hb d_BR_putFour_38 ?_
      refine va_put (D := (dC, dI)) (ci := 0) (v := .int (z_length + 1)) (ty := .int) (C := "SuffixIndex$ByteRow") (T := F_BR) (N := 2) hx hb hw i_BR t_BR t_BR_ok n_BR hown hK hP hD hS 0 rfl rfl 1 (by decide) (hw _ m_49) (fun _ h9 => h9) rfl (by decide +kernel) rfl rfl (Nat.le_of_ble_eq_true rfl) d_BR_putFour_39 (fun H locs hP hD hS => ?_)
      have hP : va_P (dC, dI) classes [(h_t, .inr (0, [.ref h_bytes, .int (z_length + 1)])), (h_bytes, .inl (cI, n_bytes, .inl (upd z_bytes z_length.toNatClampNeg (((a_p1.toUInt32 >>> (x2.toUInt32 &&& Int32.toUInt32 31)).toInt32) &&& 255))))] H := hP
      have hD : va_D A [(h_t, .inr (0, [.ref h_bytes, .int (z_length + 1)])), (h_bytes, .inl (cI, n_bytes, .inl (upd z_bytes z_length.toNatClampNeg (((a_p1.toUInt32 >>> (x2.toUInt32 &&& Int32.toUInt32 31)).toInt32) &&& 255))))] := hD
      refine lv_iinc (v := x2 + (-8)) (lv' := [(2, .int (x2 + (-8))), (0, .ref h_t), (1, .int a_p1)]) hx hb d_BR_putFour_42 hl (k := 2) rfl (iinc_v (by decide)) (by decide) rfl (fun ls hl => ?_)
      refine lv_goto (tgt := 12) hx hb d_BR_putFour_45 (by decide) ?_
      exact ih (x2 + (-8)) (z_length + 1) (upd z_bytes z_length.toNatClampNeg (((a_p1.toUInt32 >>> (x2.toUInt32 &&& Int32.toUInt32 31)).toInt32) &&& 255)) hv _ _ _ hP hD hS (lv_sub hl [1, 2, 0] rfl)

set_option maxHeartbeats 4000000 in
set_option maxRecDepth 100000 in
theorem c_BR_putFour (l : Launch) (dC : Nat → ClassId) (dI : Nat → Nat → Nat) (cI cJ cB cZ : ClassId) (h_t : Nat) (h_bytes : Nat) (n_bytes : Nat) (sz : Nat) (z_length : Int32) (z_bytes : Nat → Int32) (a_p1 : Int32) (post : Int32 → (Nat → Int32) → Prop) (hv : vc_BR_putFour a_p1 n_bytes post z_length z_bytes) : Met l y_BR_putFour (Cond.code y_BR_putFour b_BR_putFour 3 none :: WT) rm_BR_putFour (cPre (dC, dI) classes (TYS cI cJ cB cZ) [(h_t, .inr (0, [.ref h_bytes, .int z_length])), (h_bytes, .inl (cI, n_bytes, .inl z_bytes))] sz [.ref h_t, .int a_p1]) (va_Qv (fun u : Int32 × (Nat → Int32) => post u.1 u.2) (fun u t => cAft (dC, dI) classes (TYS cI cJ cB cZ) (va_A [(h_t, .inr (0, [.ref h_bytes, .int z_length])), (h_bytes, .inl (cI, n_bytes, .inl z_bytes))] sz) [(h_t, .inr (0, [.ref h_bytes, .int u.1])), (h_bytes, .inl (cI, n_bytes, .inl u.2))] t) (va_A [(h_t, .inr (0, [.ref h_bytes, .int z_length])), (h_bytes, .inl (cI, n_bytes, .inl z_bytes))] sz)) 0 0 (va_A [(h_t, .inr (0, [.ref h_bytes, .int z_length])), (h_bytes, .inl (cI, n_bytes, .inl z_bytes))] sz) := by
  refine Met.ofW (cc := b_BR_putFour) (maxL := 3) (ret := none) (by decide) rfl ?_
  intro p e s m args below meth c s₁ B hml hq
  obtain ⟨rfl, hsz, hP, hK, hD0⟩ := hq
  have hts := atoms_spec (ws := Cond.code y_BR_putFour b_BR_putFour 3 none :: WT) B.pre
  have hw : ∀ w ∈ WT, w.before ([.ref h_t, .int a_p1] : List Value).toArray s = true := fun w h => hts w (List.mem_cons_of_mem _ h)
  have hx := B.exec
  have hb := B.bytes
  have hr := B.returns
  have hlk := B.notSynchronized
  have hown : s.vm.findClass "SuffixIndex$ByteRow" = some m.cls := findClass_of_methodNamed B.named
  have F : CallFix p m c b_BR_putFour 3 s ([.ref h_t, .int a_p1] : List Value).toArray WT "SuffixIndex$ByteRow" := ⟨hx, hb, hml, hown, hw⟩
  subst hsz
  have hD := hD0.self (sz := s.heap.size)
  generalize hAe : va_A [(h_t, .inr (0, [.ref h_bytes, .int z_length])), (h_bytes, .inl (cI, n_bytes, .inl z_bytes))] s.heap.size = A at hD ⊢
  have hA : ∀ q : Nat, s.heap.size ≤ q → A q := fun q h => by rw [← hAe]; exact Or.inr h
  have hS : va_S A s.heap s.heap [] := va_S.rf
  have hl := lv_entry ([.ref h_t, .int a_p1]) (n := 3) (Nat.le_of_ble_eq_true rfl)
  rw [lg_entry_eq]
  generalize (lg_sl ([.ref h_t, .int a_p1]) ++ List.replicate (3 - (lg_sl ([.ref h_t, .int a_p1])).length) Slot.unset).toArray = ls at hl ⊢
  have hl : lv_has ls 3 [(0, .ref h_t), (1, .int a_p1)] := hl
  show W p l e rm_BR_putFour s m _ below meth c s.heap [] 0 0 _ _
  have hP : va_P (dC, dI) classes [(h_t, .inr (0, [.ref h_bytes, .int z_length])), (h_bytes, .inl (cI, n_bytes, .inl z_bytes))] s.heap := hP
  obtain ⟨H, hHe⟩ : ∃ H, H = s.heap := ⟨_, rfl⟩
  have hS : va_S A s.heap H [] := by rw [hHe]; exact hS
  rw [← hHe] at hP
  suffices hgoal : W p l e rm_BR_putFour s m ([.ref h_t, .int a_p1] : List Value).toArray below meth c H [] 0 0 (MQ below (va_Qv (fun u : Int32 × (Nat → Int32) => post u.1 u.2) (fun u t => cAft (dC, dI) classes (TYS cI cJ cB cZ) A [(h_t, .inr (0, [.ref h_bytes, .int u.1])), (h_bytes, .inl (cI, n_bytes, .inl u.2))] t) A) ([.ref h_t, .int a_p1] : List Value).toArray s 0 0 A) (F0 m 0 ls []) by rw [hHe] at hgoal; exact hgoal
  refine lv_aload_n hx hb d_BR_putFour_0 rfl (lv_at hl 0 rfl) ?_
  refine lv_iconst (v := 4) hx hb d_BR_putFour_1 (by decide) ?_
  refine cV_i (wr := []) (rest := []) (c_BR_hasRoom l dC dI cI cJ cB cZ h_t h_bytes n_bytes H.size z_length z_bytes 4 _ hv) F (cw_V (fun _ h => h) 1 hw m_754 m_731 m_732 m_2 m_733 rfl rfl (by decide +kernel) ⟨by decide, by decide⟩) hK hP hD hS hA [0, 1] [] rfl rfl rfl rfl (by decide) 0 0 rfl rfl rfl hl.1 rfl (Nat.le_of_ble_eq_true rfl) d_BR_putFour_2 ⟨Nat.le_of_ble_eq_true rfl, Nat.le_of_ble_eq_true rfl⟩ (fun r2 u H locs hv hP hD hS => ?_)
  have hP : va_P (dC, dI) classes [(h_t, .inr (0, [.ref h_bytes, .int z_length])), (h_bytes, .inl (cI, n_bytes, .inl z_bytes))] H := P_sub hP [0, 1] rfl
  have hD : va_D A [(h_t, .inr (0, [.ref h_bytes, .int z_length])), (h_bytes, .inl (cI, n_bytes, .inl z_bytes))] := hD.sub [0, 1] rfl rfl
  obtain ⟨hvt, hvf⟩ := hv
  refine lv_if_ne (tgt := 9) hx hb d_BR_putFour_5 (by decide) (fun c3 => ?_) (fun c3 => ?_)
  · have hv := hvt c3
    refine lv_bipush (v := 24) hx hb d_BR_putFour_9 (by decide) ?_
    refine lv_istore_n (lv' := [(2, .int 24), (0, .ref h_t), (1, .int a_p1)]) hx hb d_BR_putFour_11 rfl hl (by decide) rfl (fun ls hl => ?_)
    obtain ⟨j, hv⟩ := hv
    exact wk_BR_putFour_12 F hr hlk hK hA j 24 z_length z_bytes hv _ _ _ hP hD hS (lv_sub hl [1, 2, 0] rfl)
  · have hv := hvf c3
    exact W.vret hx hb hr (fun t ht hW => ⟨⟨(z_length, z_bytes), rfl, hv, by rw [ht]; exact hP, va_K.moved hW.alike hK, hD⟩, hS.F ht⟩) hS.2.2 d_BR_putFour_8

set_option maxHeartbeats 4000000 in
set_option maxRecDepth 100000 in
theorem c_BR_copy (l : Launch) (dC : Nat → ClassId) (dI : Nat → Nat → Nat) (cI cJ cB cZ : ClassId) (h_t : Nat) (h_bytes : Nat) (h_p1 : Nat) (n_bytes : Nat) (n_p1 : Nat) (sz : Nat) (z_length : Int32) (z_bytes : Nat → Int32) (z_p1 : Nat → Int32) (a_p2 : Int32) (a_p3 : Int32) (post : Int32 → (Nat → Int32) → Prop) (hv : vc_BR_copy a_p2 a_p3 n_bytes n_p1 z_p1 post z_length z_bytes) : Met l y_BR_copy (Cond.code y_BR_copy b_BR_copy 4 none :: WT) rm_BR_copy (cPre (dC, dI) classes (TYS cI cJ cB cZ) [(h_t, .inr (0, [.ref h_bytes, .int z_length])), (h_bytes, .inl (cI, n_bytes, .inl z_bytes)), (h_p1, .inl (cI, n_p1, .inl z_p1))] sz [.ref h_t, .ref h_p1, .int a_p2, .int a_p3]) (va_Qv (fun u : Int32 × (Nat → Int32) => post u.1 u.2) (fun u t => cAft (dC, dI) classes (TYS cI cJ cB cZ) (va_A [(h_t, .inr (0, [.ref h_bytes, .int z_length])), (h_bytes, .inl (cI, n_bytes, .inl z_bytes)), (h_p1, .inl (cI, n_p1, .inl z_p1))] sz) [(h_t, .inr (0, [.ref h_bytes, .int u.1])), (h_bytes, .inl (cI, n_bytes, .inl u.2)), (h_p1, .inl (cI, n_p1, .inl z_p1))] t) (va_A [(h_t, .inr (0, [.ref h_bytes, .int z_length])), (h_bytes, .inl (cI, n_bytes, .inl z_bytes)), (h_p1, .inl (cI, n_p1, .inl z_p1))] sz)) 0 0 (va_A [(h_t, .inr (0, [.ref h_bytes, .int z_length])), (h_bytes, .inl (cI, n_bytes, .inl z_bytes)), (h_p1, .inl (cI, n_p1, .inl z_p1))] sz) := by
  refine Met.ofW (cc := b_BR_copy) (maxL := 4) (ret := none) (by decide) rfl ?_
  intro p e s m args below meth c s₁ B hml hq
  obtain ⟨rfl, hsz, hP, hK, hD0⟩ := hq
  have hts := atoms_spec (ws := Cond.code y_BR_copy b_BR_copy 4 none :: WT) B.pre
  have hw : ∀ w ∈ WT, w.before ([.ref h_t, .ref h_p1, .int a_p2, .int a_p3] : List Value).toArray s = true := fun w h => hts w (List.mem_cons_of_mem _ h)
  have hx := B.exec
  have hb := B.bytes
  have hr := B.returns
  have hlk := B.notSynchronized
  have hown : s.vm.findClass "SuffixIndex$ByteRow" = some m.cls := findClass_of_methodNamed B.named
  have F : CallFix p m c b_BR_copy 4 s ([.ref h_t, .ref h_p1, .int a_p2, .int a_p3] : List Value).toArray WT "SuffixIndex$ByteRow" := ⟨hx, hb, hml, hown, hw⟩
  subst hsz
  have hD := hD0.self (sz := s.heap.size)
  generalize hAe : va_A [(h_t, .inr (0, [.ref h_bytes, .int z_length])), (h_bytes, .inl (cI, n_bytes, .inl z_bytes)), (h_p1, .inl (cI, n_p1, .inl z_p1))] s.heap.size = A at hD ⊢
  have hA : ∀ q : Nat, s.heap.size ≤ q → A q := fun q h => by rw [← hAe]; exact Or.inr h
  have hS : va_S A s.heap s.heap [] := va_S.rf
  have hl := lv_entry ([.ref h_t, .ref h_p1, .int a_p2, .int a_p3]) (n := 4) (Nat.le_of_ble_eq_true rfl)
  rw [lg_entry_eq]
  generalize (lg_sl ([.ref h_t, .ref h_p1, .int a_p2, .int a_p3]) ++ List.replicate (4 - (lg_sl ([.ref h_t, .ref h_p1, .int a_p2, .int a_p3])).length) Slot.unset).toArray = ls at hl ⊢
  have hl : lv_has ls 4 [(0, .ref h_t), (1, .ref h_p1), (2, .int a_p2), (3, .int a_p3)] := hl
  show W p l e rm_BR_copy s m _ below meth c s.heap [] 0 0 _ _
  have hP : va_P (dC, dI) classes [(h_t, .inr (0, [.ref h_bytes, .int z_length])), (h_bytes, .inl (cI, n_bytes, .inl z_bytes)), (h_p1, .inl (cI, n_p1, .inl z_p1))] s.heap := hP
  obtain ⟨H, hHe⟩ : ∃ H, H = s.heap := ⟨_, rfl⟩
  have hS : va_S A s.heap H [] := by rw [hHe]; exact hS
  rw [← hHe] at hP
  suffices hgoal : W p l e rm_BR_copy s m ([.ref h_t, .ref h_p1, .int a_p2, .int a_p3] : List Value).toArray below meth c H [] 0 0 (MQ below (va_Qv (fun u : Int32 × (Nat → Int32) => post u.1 u.2) (fun u t => cAft (dC, dI) classes (TYS cI cJ cB cZ) A [(h_t, .inr (0, [.ref h_bytes, .int u.1])), (h_bytes, .inl (cI, n_bytes, .inl u.2)), (h_p1, .inl (cI, n_p1, .inl z_p1))] t) A) ([.ref h_t, .ref h_p1, .int a_p2, .int a_p3] : List Value).toArray s 0 0 A) (F0 m 0 ls []) by rw [hHe] at hgoal; exact hgoal
  refine lv_aload_n hx hb d_BR_copy_0 rfl (lv_at hl 1 rfl) ?_
  refine lv_iload_n hx hb d_BR_copy_1 rfl (lv_at hl 2 rfl) ?_
  refine lv_aload_n hx hb d_BR_copy_2 rfl (lv_at hl 0 rfl) ?_
  refine va_get (D := (dC, dI)) (ci := 0) (v := .ref h_bytes) (C := "SuffixIndex$ByteRow") (T := F_BR) (N := 2) hx hb hw i_BR hown hK hP 0 rfl rfl 0 (by decide) (hw _ m_43) (fun _ h9 => h9) rfl d_BR_copy_3 ?_
  refine lv_iconst (v := 0) hx hb d_BR_copy_6 (by decide) ?_
  refine lv_iload_n hx hb d_BR_copy_7 rfl (lv_at hl 3 rfl) ?_
  obtain ⟨h1, h2, h3, h4, h5, hv⟩ := hv
  refine va_copyi (sp := a_p2) (dp := (0 : Int32)) (n := a_p3) hx hb (hml.trans hl.1.symm) hown (hw _ m_802) (hw _ m_446) (hw _ m_445) (hw _ m_15) hK hP hD hS 2 1 0 0 rfl rfl rfl rfl rfl h1 h2 h3 h4 h5 (fun _ _ => rfl) (by decide) (Nat.le_of_ble_eq_true rfl) d_BR_copy_8 (fun H locs hP hD hS => ?_)
  have hP : va_P (dC, dI) classes [(h_t, .inr (0, [.ref h_bytes, .int z_length])), (h_bytes, .inl (cI, n_bytes, .inl (va_cpy z_p1 z_bytes a_p2.toNatClampNeg (0 : Int32).toNatClampNeg a_p3.toNatClampNeg))), (h_p1, .inl (cI, n_p1, .inl z_p1))] H := hP
  have hD : va_D A [(h_t, .inr (0, [.ref h_bytes, .int z_length])), (h_bytes, .inl (cI, n_bytes, .inl (va_cpy z_p1 z_bytes a_p2.toNatClampNeg (0 : Int32).toNatClampNeg a_p3.toNatClampNeg))), (h_p1, .inl (cI, n_p1, .inl z_p1))] := hD
  refine lv_aload_n hx hb d_BR_copy_11 rfl (lv_at hl 0 rfl) ?_
  refine lv_iload_n hx hb d_BR_copy_12 rfl (lv_at hl 3 rfl) ?_
  refine va_put (D := (dC, dI)) (ci := 0) (v := .int a_p3) (ty := .int) (C := "SuffixIndex$ByteRow") (T := F_BR) (N := 2) hx hb hw i_BR t_BR t_BR_ok n_BR hown hK hP hD hS 0 rfl rfl 1 (by decide) (hw _ m_49) (fun _ h9 => h9) rfl (by decide +kernel) rfl rfl (Nat.le_of_ble_eq_true rfl) d_BR_copy_13 (fun H locs hP hD hS => ?_)
  have hP : va_P (dC, dI) classes [(h_t, .inr (0, [.ref h_bytes, .int a_p3])), (h_bytes, .inl (cI, n_bytes, .inl (va_cpy z_p1 z_bytes a_p2.toNatClampNeg (0 : Int32).toNatClampNeg a_p3.toNatClampNeg))), (h_p1, .inl (cI, n_p1, .inl z_p1))] H := hP
  have hD : va_D A [(h_t, .inr (0, [.ref h_bytes, .int a_p3])), (h_bytes, .inl (cI, n_bytes, .inl (va_cpy z_p1 z_bytes a_p2.toNatClampNeg (0 : Int32).toNatClampNeg a_p3.toNatClampNeg))), (h_p1, .inl (cI, n_p1, .inl z_p1))] := hD
  exact W.vret hx hb hr (fun t ht hW => ⟨⟨(a_p3, va_cpy z_p1 z_bytes a_p2.toNatClampNeg (0 : Int32).toNatClampNeg a_p3.toNatClampNeg), rfl, hv, by rw [ht]; exact hP, va_K.moved hW.alike hK, hD⟩, hS.F ht⟩) hS.2.2 d_BR_copy_16

set_option maxHeartbeats 4000000 in
set_option maxRecDepth 100000 in
theorem c_LB_hasRoom (l : Launch) (dC : Nat → ClassId) (dI : Nat → Nat → Nat) (cI cJ cB cZ : ClassId) (h_t : Nat) (h_text : Nat) (h_owners : Nat) (h_starts : Nat) (sz : Nat) (z_documents : Int32) (z_indexed : Int32) (z_starts : Nat → Int32) (a_p1 : Int32) (post : Int32 → Prop) (hv : vc_LB_hasRoom a_p1 z_documents z_starts post ) : Met l y_LB_hasRoom (Cond.code y_LB_hasRoom b_LB_hasRoom 3 (some .boolean) :: WT) rm_LB_hasRoom (cPre (dC, dI) classes (TYS cI cJ cB cZ) [(h_t, .inr (1, [.ref h_text, .ref h_owners, .ref h_starts, .int z_documents, .int z_indexed])), (h_starts, .inl (cI, 65, .inl z_starts))] sz [.ref h_t, .int a_p1]) (va_Qi (fun (r : Int32) (u : Unit) => post r ) (fun u t => cAft (dC, dI) classes (TYS cI cJ cB cZ) (va_A [(h_t, .inr (1, [.ref h_text, .ref h_owners, .ref h_starts, .int z_documents, .int z_indexed])), (h_starts, .inl (cI, 65, .inl z_starts))] sz) [(h_t, .inr (1, [.ref h_text, .ref h_owners, .ref h_starts, .int z_documents, .int z_indexed])), (h_starts, .inl (cI, 65, .inl z_starts))] t) (va_A [(h_t, .inr (1, [.ref h_text, .ref h_owners, .ref h_starts, .int z_documents, .int z_indexed])), (h_starts, .inl (cI, 65, .inl z_starts))] sz)) 0 0 (va_A [(h_t, .inr (1, [.ref h_text, .ref h_owners, .ref h_starts, .int z_documents, .int z_indexed])), (h_starts, .inl (cI, 65, .inl z_starts))] sz) := by
  refine Met.ofW (cc := b_LB_hasRoom) (maxL := 3) (ret := (some .boolean)) (by decide) rfl ?_
  intro p e s m args below meth c s₁ B hml hq
  obtain ⟨rfl, hsz, hP, hK, hD0⟩ := hq
  have hts := atoms_spec (ws := Cond.code y_LB_hasRoom b_LB_hasRoom 3 (some .boolean) :: WT) B.pre
  have hw : ∀ w ∈ WT, w.before ([.ref h_t, .int a_p1] : List Value).toArray s = true := fun w h => hts w (List.mem_cons_of_mem _ h)
  have hx := B.exec
  have hb := B.bytes
  have hr := B.returns
  have hlk := B.notSynchronized
  have hown : s.vm.findClass "SuffixIndex$Library" = some m.cls := findClass_of_methodNamed B.named
  have F : CallFix p m c b_LB_hasRoom 3 s ([.ref h_t, .int a_p1] : List Value).toArray WT "SuffixIndex$Library" := ⟨hx, hb, hml, hown, hw⟩
  subst hsz
  have hD := hD0.self (sz := s.heap.size)
  generalize hAe : va_A [(h_t, .inr (1, [.ref h_text, .ref h_owners, .ref h_starts, .int z_documents, .int z_indexed])), (h_starts, .inl (cI, 65, .inl z_starts))] s.heap.size = A at hD ⊢
  have hA : ∀ q : Nat, s.heap.size ≤ q → A q := fun q h => by rw [← hAe]; exact Or.inr h
  have hS : va_S A s.heap s.heap [] := va_S.rf
  have hl := lv_entry ([.ref h_t, .int a_p1]) (n := 3) (Nat.le_of_ble_eq_true rfl)
  rw [lg_entry_eq]
  generalize (lg_sl ([.ref h_t, .int a_p1]) ++ List.replicate (3 - (lg_sl ([.ref h_t, .int a_p1])).length) Slot.unset).toArray = ls at hl ⊢
  have hl : lv_has ls 3 [(0, .ref h_t), (1, .int a_p1)] := hl
  show W p l e rm_LB_hasRoom s m _ below meth c s.heap [] 0 0 _ _
  have hP : va_P (dC, dI) classes [(h_t, .inr (1, [.ref h_text, .ref h_owners, .ref h_starts, .int z_documents, .int z_indexed])), (h_starts, .inl (cI, 65, .inl z_starts))] s.heap := hP
  obtain ⟨H, hHe⟩ : ∃ H, H = s.heap := ⟨_, rfl⟩
  have hS : va_S A s.heap H [] := by rw [hHe]; exact hS
  rw [← hHe] at hP
  suffices hgoal : W p l e rm_LB_hasRoom s m ([.ref h_t, .int a_p1] : List Value).toArray below meth c H [] 0 0 (MQ below (va_Qi (fun (r : Int32) (u : Unit) => post r ) (fun u t => cAft (dC, dI) classes (TYS cI cJ cB cZ) A [(h_t, .inr (1, [.ref h_text, .ref h_owners, .ref h_starts, .int z_documents, .int z_indexed])), (h_starts, .inl (cI, 65, .inl z_starts))] t) A) ([.ref h_t, .int a_p1] : List Value).toArray s 0 0 A) (F0 m 0 ls []) by rw [hHe] at hgoal; exact hgoal
  refine lv_aload_n hx hb d_LB_hasRoom_0 rfl (lv_at hl 0 rfl) ?_
  refine va_get (D := (dC, dI)) (ci := 1) (v := .ref h_starts) (C := "SuffixIndex$Library") (T := F_LB) (N := 5) hx hb hw i_LB hown hK hP 0 rfl rfl 2 (by decide) (hw _ m_71) (fun _ h9 => h9) rfl d_LB_hasRoom_1 ?_
  refine lv_aload_n hx hb d_LB_hasRoom_4 rfl (lv_at hl 0 rfl) ?_
  refine va_get (D := (dC, dI)) (ci := 1) (v := .int z_documents) (C := "SuffixIndex$Library") (T := F_LB) (N := 5) hx hb hw i_LB hown hK hP 0 rfl rfl 3 (by decide) (hw _ m_75) (fun _ h9 => h9) rfl d_LB_hasRoom_5 ?_
  obtain ⟨hin, hv⟩ := hv
  refine va_iald hx hb hK hP 1 0 rfl rfl hin d_LB_hasRoom_8 ?_
  refine lv_aload_n hx hb d_LB_hasRoom_9 rfl (lv_at hl 0 rfl) ?_
  refine va_get (D := (dC, dI)) (ci := 1) (v := .int z_documents) (C := "SuffixIndex$Library") (T := F_LB) (N := 5) hx hb hw i_LB hown hK hP 0 rfl rfl 3 (by decide) (hw _ m_75) (fun _ h9 => h9) rfl d_LB_hasRoom_10 ?_
  refine lv_isub hx hb d_LB_hasRoom_13 ?_
  refine lv_istore_n (lv' := [(2, .int ((z_starts z_documents.toNatClampNeg) - z_documents)), (0, .ref h_t), (1, .int a_p1)]) hx hb d_LB_hasRoom_14 rfl hl (by decide) rfl (fun ls hl => ?_)
  refine lv_aload_n hx hb d_LB_hasRoom_15 rfl (lv_at hl 1 rfl) ?_
  refine va_get (D := (dC, dI)) (ci := 1) (v := .int z_documents) (C := "SuffixIndex$Library") (T := F_LB) (N := 5) hx hb hw i_LB hown hK hP 0 rfl rfl 3 (by decide) (hw _ m_75) (fun _ h9 => h9) rfl d_LB_hasRoom_16 ?_
  refine lv_bipush (v := 64) hx hb d_LB_hasRoom_19 (by decide) ?_
  obtain ⟨hvt, hvf⟩ := hv
  refine lv_icmp_ge (tgt := 37) hx hb d_LB_hasRoom_21 (by decide) (fun c1 => ?_) (fun c1 => ?_)
  · have hv := hvt c1
    refine lv_iconst (v := 0) hx hb d_LB_hasRoom_37 (by decide) ?_
    exact W.zret (v := 0) hx hb hr rfl (fun t ht hW => ⟨⟨0, (), rfl, hv, by rw [ht]; exact hP, va_K.moved hW.alike hK, hD⟩, hS.F ht⟩) hS.2.2 d_LB_hasRoom_38
  · have hv := hvf c1
    refine lv_iload_n hx hb d_LB_hasRoom_24 rfl (lv_at hl 2 rfl) ?_
    refine lv_sipush (v := 16384) hx hb d_LB_hasRoom_25 (by decide) ?_
    refine lv_iload_n hx hb d_LB_hasRoom_28 rfl (lv_at hl 0 rfl) ?_
    refine lv_isub hx hb d_LB_hasRoom_29 ?_
    obtain ⟨hvt, hvf⟩ := hv
    refine lv_icmp_gt (tgt := 37) hx hb d_LB_hasRoom_30 (by decide) (fun c2 => ?_) (fun c2 => ?_)
    · have hv := hvt c2
      refine lv_iconst (v := 0) hx hb d_LB_hasRoom_37 (by decide) ?_
      exact W.zret (v := 0) hx hb hr rfl (fun t ht hW => ⟨⟨0, (), rfl, hv, by rw [ht]; exact hP, va_K.moved hW.alike hK, hD⟩, hS.F ht⟩) hS.2.2 d_LB_hasRoom_38
    · have hv := hvf c2
      refine lv_iconst (v := 1) hx hb d_LB_hasRoom_33 (by decide) ?_
      refine lv_goto (tgt := 38) hx hb d_LB_hasRoom_34 (by decide) ?_
      exact W.zret (v := 1) hx hb hr rfl (fun t ht hW => ⟨⟨1, (), rfl, hv, by rw [ht]; exact hP, va_K.moved hW.alike hK, hD⟩, hS.F ht⟩) hS.2.2 d_LB_hasRoom_38

set_option maxHeartbeats 4000000 in
set_option maxRecDepth 100000 in
theorem c_LB_append (l : Launch) (dC : Nat → ClassId) (dI : Nat → Nat → Nat) (cI cJ cB cZ : ClassId) (h_t : Nat) (h_text : Nat) (h_owners : Nat) (h_starts : Nat) (h_p1 : Nat) (h_p1_bytes : Nat) (n_p1_bytes : Nat) (sz : Nat) (z_documents : Int32) (z_indexed : Int32) (z_text : Nat → Int32) (z_owners : Nat → Int32) (z_starts : Nat → Int32) (z_p1_length : Int32) (z_p1_bytes : Nat → Int32) (post : Int32 → Int32 → (Nat → Int32) → (Nat → Int32) → (Nat → Int32) → Prop) (hv : vc_LB_append n_p1_bytes z_p1_length z_p1_bytes post z_documents z_text z_owners z_starts) : Met l y_LB_append (Cond.code y_LB_append b_LB_append 5 (some .int) :: WT) rm_LB_append (cPre (dC, dI) classes (TYS cI cJ cB cZ) [(h_t, .inr (1, [.ref h_text, .ref h_owners, .ref h_starts, .int z_documents, .int z_indexed])), (h_text, .inl (cI, 16448, .inl z_text)), (h_owners, .inl (cI, 16448, .inl z_owners)), (h_starts, .inl (cI, 65, .inl z_starts)), (h_p1, .inr (0, [.ref h_p1_bytes, .int z_p1_length])), (h_p1_bytes, .inl (cI, n_p1_bytes, .inl z_p1_bytes))] sz [.ref h_t, .ref h_p1]) (va_Qi (fun (r : Int32) (u : Int32 × (Nat → Int32) × (Nat → Int32) × (Nat → Int32)) => post r u.1 u.2.1 u.2.2.1 u.2.2.2) (fun u t => cAft (dC, dI) classes (TYS cI cJ cB cZ) (va_A [(h_t, .inr (1, [.ref h_text, .ref h_owners, .ref h_starts, .int z_documents, .int z_indexed])), (h_text, .inl (cI, 16448, .inl z_text)), (h_owners, .inl (cI, 16448, .inl z_owners)), (h_starts, .inl (cI, 65, .inl z_starts)), (h_p1, .inr (0, [.ref h_p1_bytes, .int z_p1_length])), (h_p1_bytes, .inl (cI, n_p1_bytes, .inl z_p1_bytes))] sz) [(h_t, .inr (1, [.ref h_text, .ref h_owners, .ref h_starts, .int u.1, .int z_indexed])), (h_text, .inl (cI, 16448, .inl u.2.1)), (h_owners, .inl (cI, 16448, .inl u.2.2.1)), (h_starts, .inl (cI, 65, .inl u.2.2.2)), (h_p1, .inr (0, [.ref h_p1_bytes, .int z_p1_length])), (h_p1_bytes, .inl (cI, n_p1_bytes, .inl z_p1_bytes))] t) (va_A [(h_t, .inr (1, [.ref h_text, .ref h_owners, .ref h_starts, .int z_documents, .int z_indexed])), (h_text, .inl (cI, 16448, .inl z_text)), (h_owners, .inl (cI, 16448, .inl z_owners)), (h_starts, .inl (cI, 65, .inl z_starts)), (h_p1, .inr (0, [.ref h_p1_bytes, .int z_p1_length])), (h_p1_bytes, .inl (cI, n_p1_bytes, .inl z_p1_bytes))] sz)) 0 0 (va_A [(h_t, .inr (1, [.ref h_text, .ref h_owners, .ref h_starts, .int z_documents, .int z_indexed])), (h_text, .inl (cI, 16448, .inl z_text)), (h_owners, .inl (cI, 16448, .inl z_owners)), (h_starts, .inl (cI, 65, .inl z_starts)), (h_p1, .inr (0, [.ref h_p1_bytes, .int z_p1_length])), (h_p1_bytes, .inl (cI, n_p1_bytes, .inl z_p1_bytes))] sz) := by
  refine Met.ofW (cc := b_LB_append) (maxL := 5) (ret := (some .int)) (by decide) rfl ?_
  intro p e s m args below meth c s₁ B hml hq
  obtain ⟨rfl, hsz, hP, hK, hD0⟩ := hq
  have hts := atoms_spec (ws := Cond.code y_LB_append b_LB_append 5 (some .int) :: WT) B.pre
  have hw : ∀ w ∈ WT, w.before ([.ref h_t, .ref h_p1] : List Value).toArray s = true := fun w h => hts w (List.mem_cons_of_mem _ h)
  have hx := B.exec
  have hb := B.bytes
  have hr := B.returns
  have hlk := B.notSynchronized
  have hown : s.vm.findClass "SuffixIndex$Library" = some m.cls := findClass_of_methodNamed B.named
  have F : CallFix p m c b_LB_append 5 s ([.ref h_t, .ref h_p1] : List Value).toArray WT "SuffixIndex$Library" := ⟨hx, hb, hml, hown, hw⟩
  subst hsz
  have hD := hD0.self (sz := s.heap.size)
  generalize hAe : va_A [(h_t, .inr (1, [.ref h_text, .ref h_owners, .ref h_starts, .int z_documents, .int z_indexed])), (h_text, .inl (cI, 16448, .inl z_text)), (h_owners, .inl (cI, 16448, .inl z_owners)), (h_starts, .inl (cI, 65, .inl z_starts)), (h_p1, .inr (0, [.ref h_p1_bytes, .int z_p1_length])), (h_p1_bytes, .inl (cI, n_p1_bytes, .inl z_p1_bytes))] s.heap.size = A at hD ⊢
  have hA : ∀ q : Nat, s.heap.size ≤ q → A q := fun q h => by rw [← hAe]; exact Or.inr h
  have hS : va_S A s.heap s.heap [] := va_S.rf
  have hl := lv_entry ([.ref h_t, .ref h_p1]) (n := 5) (Nat.le_of_ble_eq_true rfl)
  rw [lg_entry_eq]
  generalize (lg_sl ([.ref h_t, .ref h_p1]) ++ List.replicate (5 - (lg_sl ([.ref h_t, .ref h_p1])).length) Slot.unset).toArray = ls at hl ⊢
  have hl : lv_has ls 5 [(0, .ref h_t), (1, .ref h_p1)] := hl
  show W p l e rm_LB_append s m _ below meth c s.heap [] 0 0 _ _
  have hP : va_P (dC, dI) classes [(h_t, .inr (1, [.ref h_text, .ref h_owners, .ref h_starts, .int z_documents, .int z_indexed])), (h_text, .inl (cI, 16448, .inl z_text)), (h_owners, .inl (cI, 16448, .inl z_owners)), (h_starts, .inl (cI, 65, .inl z_starts)), (h_p1, .inr (0, [.ref h_p1_bytes, .int z_p1_length])), (h_p1_bytes, .inl (cI, n_p1_bytes, .inl z_p1_bytes))] s.heap := hP
  obtain ⟨H, hHe⟩ : ∃ H, H = s.heap := ⟨_, rfl⟩
  have hS : va_S A s.heap H [] := by rw [hHe]; exact hS
  rw [← hHe] at hP
  suffices hgoal : W p l e rm_LB_append s m ([.ref h_t, .ref h_p1] : List Value).toArray below meth c H [] 0 0 (MQ below (va_Qi (fun (r : Int32) (u : Int32 × (Nat → Int32) × (Nat → Int32) × (Nat → Int32)) => post r u.1 u.2.1 u.2.2.1 u.2.2.2) (fun u t => cAft (dC, dI) classes (TYS cI cJ cB cZ) A [(h_t, .inr (1, [.ref h_text, .ref h_owners, .ref h_starts, .int u.1, .int z_indexed])), (h_text, .inl (cI, 16448, .inl u.2.1)), (h_owners, .inl (cI, 16448, .inl u.2.2.1)), (h_starts, .inl (cI, 65, .inl u.2.2.2)), (h_p1, .inr (0, [.ref h_p1_bytes, .int z_p1_length])), (h_p1_bytes, .inl (cI, n_p1_bytes, .inl z_p1_bytes))] t) A) ([.ref h_t, .ref h_p1] : List Value).toArray s 0 0 A) (F0 m 0 ls []) by rw [hHe] at hgoal; exact hgoal
  refine lv_aload_n hx hb d_LB_append_0 rfl (lv_at hl 0 rfl) ?_
  refine va_get (D := (dC, dI)) (ci := 1) (v := .int z_documents) (C := "SuffixIndex$Library") (T := F_LB) (N := 5) hx hb hw i_LB hown hK hP 0 rfl rfl 3 (by decide) (hw _ m_75) (fun _ h9 => h9) rfl d_LB_append_1 ?_
  refine lv_istore_n (lv' := [(2, .int z_documents), (0, .ref h_t), (1, .ref h_p1)]) hx hb d_LB_append_4 rfl hl (by decide) rfl (fun ls hl => ?_)
  refine lv_aload_n hx hb d_LB_append_5 rfl (lv_at hl 1 rfl) ?_
  refine va_get (D := (dC, dI)) (ci := 1) (v := .ref h_starts) (C := "SuffixIndex$Library") (T := F_LB) (N := 5) hx hb hw i_LB hown hK hP 0 rfl rfl 2 (by decide) (hw _ m_71) (fun _ h9 => h9) rfl d_LB_append_6 ?_
  refine lv_iload_n hx hb d_LB_append_9 rfl (lv_at hl 0 rfl) ?_
  obtain ⟨hin, hv⟩ := hv
  refine va_iald hx hb hK hP 3 0 rfl rfl hin d_LB_append_10 ?_
  refine lv_istore_n (lv' := [(3, .int (z_starts z_documents.toNatClampNeg)), (2, .int z_documents), (0, .ref h_t), (1, .ref h_p1)]) hx hb d_LB_append_11 rfl hl (by decide) rfl (fun ls hl => ?_)
  refine lv_iload_n hx hb d_LB_append_12 rfl (lv_at hl 0 rfl) ?_
  refine lv_aload_n hx hb d_LB_append_13 rfl (lv_at hl 3 rfl) ?_
  refine va_get (D := (dC, dI)) (ci := 0) (v := .int z_p1_length) (C := "SuffixIndex$ByteRow") (T := F_BR) (N := 2) hx hb hw i_BR hown hK hP 4 rfl rfl 1 (by decide) (hw _ m_51) (fun _ h9 => h9) rfl d_LB_append_14 ?_
  refine lv_iadd hx hb d_LB_append_17 ?_
  refine lv_istore (lv' := [(4, .int ((z_starts z_documents.toNatClampNeg) + z_p1_length)), (3, .int (z_starts z_documents.toNatClampNeg)), (2, .int z_documents), (0, .ref h_t), (1, .ref h_p1)]) hx hb d_LB_append_18 hl (by decide) rfl (fun ls hl => ?_)
  refine lv_aload_n hx hb d_LB_append_20 rfl (lv_at hl 4 rfl) ?_
  refine va_get (D := (dC, dI)) (ci := 0) (v := .ref h_p1_bytes) (C := "SuffixIndex$ByteRow") (T := F_BR) (N := 2) hx hb hw i_BR hown hK hP 4 rfl rfl 0 (by decide) (hw _ m_45) (fun _ h9 => h9) rfl d_LB_append_21 ?_
  refine lv_iconst (v := 0) hx hb d_LB_append_24 (by decide) ?_
  refine lv_aload_n hx hb d_LB_append_25 rfl (lv_at hl 3 rfl) ?_
  refine va_get (D := (dC, dI)) (ci := 1) (v := .ref h_text) (C := "SuffixIndex$Library") (T := F_LB) (N := 5) hx hb hw i_LB hown hK hP 0 rfl rfl 0 (by decide) (hw _ m_65) (fun _ h9 => h9) rfl d_LB_append_26 ?_
  refine lv_iload_n hx hb d_LB_append_29 rfl (lv_at hl 1 rfl) ?_
  refine lv_aload_n hx hb d_LB_append_30 rfl (lv_at hl 4 rfl) ?_
  refine va_get (D := (dC, dI)) (ci := 0) (v := .int z_p1_length) (C := "SuffixIndex$ByteRow") (T := F_BR) (N := 2) hx hb hw i_BR hown hK hP 4 rfl rfl 1 (by decide) (hw _ m_51) (fun _ h9 => h9) rfl d_LB_append_31 ?_
  obtain ⟨h1, h2, h3, h4, h5, hv⟩ := hv
  refine va_copyi (sp := (0 : Int32)) (dp := (z_starts z_documents.toNatClampNeg)) (n := z_p1_length) hx hb (hml.trans hl.1.symm) hown (hw _ m_783) (hw _ m_446) (hw _ m_445) (hw _ m_15) hK hP hD hS 5 1 0 0 rfl rfl rfl rfl rfl h1 h2 h3 h4 h5 (fun _ _ => rfl) (by decide) (Nat.le_of_ble_eq_true rfl) d_LB_append_34 (fun H locs hP hD hS => ?_)
  have hP : va_P (dC, dI) classes [(h_t, .inr (1, [.ref h_text, .ref h_owners, .ref h_starts, .int z_documents, .int z_indexed])), (h_text, .inl (cI, 16448, .inl (va_cpy z_p1_bytes z_text (0 : Int32).toNatClampNeg (z_starts z_documents.toNatClampNeg).toNatClampNeg z_p1_length.toNatClampNeg))), (h_owners, .inl (cI, 16448, .inl z_owners)), (h_starts, .inl (cI, 65, .inl z_starts)), (h_p1, .inr (0, [.ref h_p1_bytes, .int z_p1_length])), (h_p1_bytes, .inl (cI, n_p1_bytes, .inl z_p1_bytes))] H := hP
  have hD : va_D A [(h_t, .inr (1, [.ref h_text, .ref h_owners, .ref h_starts, .int z_documents, .int z_indexed])), (h_text, .inl (cI, 16448, .inl (va_cpy z_p1_bytes z_text (0 : Int32).toNatClampNeg (z_starts z_documents.toNatClampNeg).toNatClampNeg z_p1_length.toNatClampNeg))), (h_owners, .inl (cI, 16448, .inl z_owners)), (h_starts, .inl (cI, 65, .inl z_starts)), (h_p1, .inr (0, [.ref h_p1_bytes, .int z_p1_length])), (h_p1_bytes, .inl (cI, n_p1_bytes, .inl z_p1_bytes))] := hD
  refine lv_aload_n hx hb d_LB_append_37 rfl (lv_at hl 3 rfl) ?_
  refine va_get (D := (dC, dI)) (ci := 1) (v := .ref h_text) (C := "SuffixIndex$Library") (T := F_LB) (N := 5) hx hb hw i_LB hown hK hP 0 rfl rfl 0 (by decide) (hw _ m_65) (fun _ h9 => h9) rfl d_LB_append_38 ?_
  refine lv_iload hx hb d_LB_append_41 (lv_at hl 0 rfl) ?_
  refine lv_iload_n hx hb d_LB_append_43 rfl (lv_at hl 2 rfl) ?_
  refine lv_bipush (v := 64) hx hb d_LB_append_44 (by decide) ?_
  refine lv_isub hx hb d_LB_append_46 ?_
  obtain ⟨hin, hv⟩ := hv
  refine va_iast hx hb hK hP hD hS 1 0 rfl rfl hin d_LB_append_47 (fun H locs hP hD hS => ?_)
  have hP : va_P (dC, dI) classes [(h_t, .inr (1, [.ref h_text, .ref h_owners, .ref h_starts, .int z_documents, .int z_indexed])), (h_text, .inl (cI, 16448, .inl (upd (va_cpy z_p1_bytes z_text (0 : Int32).toNatClampNeg (z_starts z_documents.toNatClampNeg).toNatClampNeg z_p1_length.toNatClampNeg) ((z_starts z_documents.toNatClampNeg) + z_p1_length).toNatClampNeg (z_documents - 64)))), (h_owners, .inl (cI, 16448, .inl z_owners)), (h_starts, .inl (cI, 65, .inl z_starts)), (h_p1, .inr (0, [.ref h_p1_bytes, .int z_p1_length])), (h_p1_bytes, .inl (cI, n_p1_bytes, .inl z_p1_bytes))] H := hP
  have hD : va_D A [(h_t, .inr (1, [.ref h_text, .ref h_owners, .ref h_starts, .int z_documents, .int z_indexed])), (h_text, .inl (cI, 16448, .inl (upd (va_cpy z_p1_bytes z_text (0 : Int32).toNatClampNeg (z_starts z_documents.toNatClampNeg).toNatClampNeg z_p1_length.toNatClampNeg) ((z_starts z_documents.toNatClampNeg) + z_p1_length).toNatClampNeg (z_documents - 64)))), (h_owners, .inl (cI, 16448, .inl z_owners)), (h_starts, .inl (cI, 65, .inl z_starts)), (h_p1, .inr (0, [.ref h_p1_bytes, .int z_p1_length])), (h_p1_bytes, .inl (cI, n_p1_bytes, .inl z_p1_bytes))] := hD
  refine lv_aload_n hx hb d_LB_append_48 rfl (lv_at hl 3 rfl) ?_
  refine va_get (D := (dC, dI)) (ci := 1) (v := .ref h_owners) (C := "SuffixIndex$Library") (T := F_LB) (N := 5) hx hb hw i_LB hown hK hP 0 rfl rfl 1 (by decide) (hw _ m_69) (fun _ h9 => h9) rfl d_LB_append_49 ?_
  refine lv_iload_n hx hb d_LB_append_52 rfl (lv_at hl 1 rfl) ?_
  refine lv_iload hx hb d_LB_append_53 (lv_at hl 0 rfl) ?_
  refine lv_iconst (v := 1) hx hb d_LB_append_55 (by decide) ?_
  refine lv_iadd hx hb d_LB_append_56 ?_
  refine lv_iload_n hx hb d_LB_append_57 rfl (lv_at hl 2 rfl) ?_
  refine cS_v (wr := [(h_t, .inr (1, [.ref h_text, .ref h_owners, .ref h_starts, .int z_documents, .int z_indexed])), (h_text, .inl (cI, 16448, .inl (upd (va_cpy z_p1_bytes z_text (0 : Int32).toNatClampNeg (z_starts z_documents.toNatClampNeg).toNatClampNeg z_p1_length.toNatClampNeg) ((z_starts z_documents.toNatClampNeg) + z_p1_length).toNatClampNeg (z_documents - 64)))), (h_starts, .inl (cI, 65, .inl z_starts)), (h_p1, .inr (0, [.ref h_p1_bytes, .int z_p1_length])), (h_p1_bytes, .inl (cI, n_p1_bytes, .inl z_p1_bytes))]) (rest := []) (c_AR_fill1 l dC dI cI cJ cB cZ h_owners 16448 H.size z_owners (z_starts z_documents.toNatClampNeg) (((z_starts z_documents.toNatClampNeg) + z_p1_length) + 1) z_documents _ hv) F (cw_S (fun _ h => h) 4 hw m_784 m_320 m_16 m_321 rfl rfl (by decide +kernel) ⟨by decide, by decide⟩) hK hP hD hS hA [2] [0, 1, 3, 4, 5] rfl rfl rfl rfl (by decide) rfl hl.1 rfl (Nat.le_of_ble_eq_true rfl) d_LB_append_58 ⟨Nat.le_of_ble_eq_true rfl, Nat.le_of_ble_eq_true rfl⟩ (fun u H locs hv hP hD hS => ?_)
  obtain ⟨u1_0, rfl⟩ : ∃ z, z = u := ⟨_, rfl⟩
  have hP : va_P (dC, dI) classes [(h_t, .inr (1, [.ref h_text, .ref h_owners, .ref h_starts, .int z_documents, .int z_indexed])), (h_text, .inl (cI, 16448, .inl (upd (va_cpy z_p1_bytes z_text (0 : Int32).toNatClampNeg (z_starts z_documents.toNatClampNeg).toNatClampNeg z_p1_length.toNatClampNeg) ((z_starts z_documents.toNatClampNeg) + z_p1_length).toNatClampNeg (z_documents - 64)))), (h_owners, .inl (cI, 16448, .inl u1_0)), (h_starts, .inl (cI, 65, .inl z_starts)), (h_p1, .inr (0, [.ref h_p1_bytes, .int z_p1_length])), (h_p1_bytes, .inl (cI, n_p1_bytes, .inl z_p1_bytes))] H := P_sub hP [0, 1, 5, 2, 3, 4] rfl
  have hD : va_D A [(h_t, .inr (1, [.ref h_text, .ref h_owners, .ref h_starts, .int z_documents, .int z_indexed])), (h_text, .inl (cI, 16448, .inl (upd (va_cpy z_p1_bytes z_text (0 : Int32).toNatClampNeg (z_starts z_documents.toNatClampNeg).toNatClampNeg z_p1_length.toNatClampNeg) ((z_starts z_documents.toNatClampNeg) + z_p1_length).toNatClampNeg (z_documents - 64)))), (h_owners, .inl (cI, 16448, .inl u1_0)), (h_starts, .inl (cI, 65, .inl z_starts)), (h_p1, .inr (0, [.ref h_p1_bytes, .int z_p1_length])), (h_p1_bytes, .inl (cI, n_p1_bytes, .inl z_p1_bytes))] := hD.sub [0, 1, 5, 2, 3, 4] rfl rfl
  refine lv_aload_n hx hb d_LB_append_61 rfl (lv_at hl 3 rfl) ?_
  refine va_get (D := (dC, dI)) (ci := 1) (v := .ref h_starts) (C := "SuffixIndex$Library") (T := F_LB) (N := 5) hx hb hw i_LB hown hK hP 0 rfl rfl 2 (by decide) (hw _ m_71) (fun _ h9 => h9) rfl d_LB_append_62 ?_
  refine lv_iload_n hx hb d_LB_append_65 rfl (lv_at hl 2 rfl) ?_
  refine lv_iconst (v := 1) hx hb d_LB_append_66 (by decide) ?_
  refine lv_iadd hx hb d_LB_append_67 ?_
  refine lv_iload hx hb d_LB_append_68 (lv_at hl 0 rfl) ?_
  refine lv_iconst (v := 1) hx hb d_LB_append_70 (by decide) ?_
  refine lv_iadd hx hb d_LB_append_71 ?_
  obtain ⟨hin, hv⟩ := hv
  refine va_iast hx hb hK hP hD hS 3 0 rfl rfl hin d_LB_append_72 (fun H locs hP hD hS => ?_)
  have hP : va_P (dC, dI) classes [(h_t, .inr (1, [.ref h_text, .ref h_owners, .ref h_starts, .int z_documents, .int z_indexed])), (h_text, .inl (cI, 16448, .inl (upd (va_cpy z_p1_bytes z_text (0 : Int32).toNatClampNeg (z_starts z_documents.toNatClampNeg).toNatClampNeg z_p1_length.toNatClampNeg) ((z_starts z_documents.toNatClampNeg) + z_p1_length).toNatClampNeg (z_documents - 64)))), (h_owners, .inl (cI, 16448, .inl u1_0)), (h_starts, .inl (cI, 65, .inl (upd z_starts (z_documents + 1).toNatClampNeg (((z_starts z_documents.toNatClampNeg) + z_p1_length) + 1)))), (h_p1, .inr (0, [.ref h_p1_bytes, .int z_p1_length])), (h_p1_bytes, .inl (cI, n_p1_bytes, .inl z_p1_bytes))] H := hP
  have hD : va_D A [(h_t, .inr (1, [.ref h_text, .ref h_owners, .ref h_starts, .int z_documents, .int z_indexed])), (h_text, .inl (cI, 16448, .inl (upd (va_cpy z_p1_bytes z_text (0 : Int32).toNatClampNeg (z_starts z_documents.toNatClampNeg).toNatClampNeg z_p1_length.toNatClampNeg) ((z_starts z_documents.toNatClampNeg) + z_p1_length).toNatClampNeg (z_documents - 64)))), (h_owners, .inl (cI, 16448, .inl u1_0)), (h_starts, .inl (cI, 65, .inl (upd z_starts (z_documents + 1).toNatClampNeg (((z_starts z_documents.toNatClampNeg) + z_p1_length) + 1)))), (h_p1, .inr (0, [.ref h_p1_bytes, .int z_p1_length])), (h_p1_bytes, .inl (cI, n_p1_bytes, .inl z_p1_bytes))] := hD
  refine lv_aload_n hx hb d_LB_append_73 rfl (lv_at hl 3 rfl) ?_
  refine lv_dup hx hb d_LB_append_74 rfl ?_
  refine va_get (D := (dC, dI)) (ci := 1) (v := .int z_documents) (C := "SuffixIndex$Library") (T := F_LB) (N := 5) hx hb hw i_LB hown hK hP 0 rfl rfl 3 (by decide) (hw _ m_75) (fun _ h9 => h9) rfl d_LB_append_75 ?_
  refine lv_iconst (v := 1) hx hb d_LB_append_78 (by decide) ?_
  refine lv_iadd hx hb d_LB_append_79 ?_
  refine va_put (D := (dC, dI)) (ci := 1) (v := .int (z_documents + 1)) (ty := .int) (C := "SuffixIndex$Library") (T := F_LB) (N := 5) hx hb hw i_LB t_LB t_LB_ok n_LB hown hK hP hD hS 0 rfl rfl 3 (by decide) (hw _ m_75) (fun _ h9 => h9) rfl (by decide +kernel) rfl rfl (Nat.le_of_ble_eq_true rfl) d_LB_append_80 (fun H locs hP hD hS => ?_)
  have hP : va_P (dC, dI) classes [(h_t, .inr (1, [.ref h_text, .ref h_owners, .ref h_starts, .int (z_documents + 1), .int z_indexed])), (h_text, .inl (cI, 16448, .inl (upd (va_cpy z_p1_bytes z_text (0 : Int32).toNatClampNeg (z_starts z_documents.toNatClampNeg).toNatClampNeg z_p1_length.toNatClampNeg) ((z_starts z_documents.toNatClampNeg) + z_p1_length).toNatClampNeg (z_documents - 64)))), (h_owners, .inl (cI, 16448, .inl u1_0)), (h_starts, .inl (cI, 65, .inl (upd z_starts (z_documents + 1).toNatClampNeg (((z_starts z_documents.toNatClampNeg) + z_p1_length) + 1)))), (h_p1, .inr (0, [.ref h_p1_bytes, .int z_p1_length])), (h_p1_bytes, .inl (cI, n_p1_bytes, .inl z_p1_bytes))] H := hP
  have hD : va_D A [(h_t, .inr (1, [.ref h_text, .ref h_owners, .ref h_starts, .int (z_documents + 1), .int z_indexed])), (h_text, .inl (cI, 16448, .inl (upd (va_cpy z_p1_bytes z_text (0 : Int32).toNatClampNeg (z_starts z_documents.toNatClampNeg).toNatClampNeg z_p1_length.toNatClampNeg) ((z_starts z_documents.toNatClampNeg) + z_p1_length).toNatClampNeg (z_documents - 64)))), (h_owners, .inl (cI, 16448, .inl u1_0)), (h_starts, .inl (cI, 65, .inl (upd z_starts (z_documents + 1).toNatClampNeg (((z_starts z_documents.toNatClampNeg) + z_p1_length) + 1)))), (h_p1, .inr (0, [.ref h_p1_bytes, .int z_p1_length])), (h_p1_bytes, .inl (cI, n_p1_bytes, .inl z_p1_bytes))] := hD
  refine lv_iload_n hx hb d_LB_append_83 rfl (lv_at hl 2 rfl) ?_
  exact W.iret (v := z_documents) hx hb hr (fun t ht hW => ⟨⟨z_documents, (z_documents + 1, upd (va_cpy z_p1_bytes z_text (0 : Int32).toNatClampNeg (z_starts z_documents.toNatClampNeg).toNatClampNeg z_p1_length.toNatClampNeg) ((z_starts z_documents.toNatClampNeg) + z_p1_length).toNatClampNeg (z_documents - 64), u1_0, upd z_starts (z_documents + 1).toNatClampNeg (((z_starts z_documents.toNatClampNeg) + z_p1_length) + 1)), rfl, hv, by rw [ht]; exact hP, va_K.moved hW.alike hK, hD⟩, hS.F ht⟩) hS.2.2 d_LB_append_84

set_option maxHeartbeats 4000000 in
set_option maxRecDepth 100000 in
theorem c_LB_indexedText (l : Launch) (dC : Nat → ClassId) (dI : Nat → Nat → Nat) (cI cJ cB cZ : ClassId) (h_t : Nat) (h_text : Nat) (h_owners : Nat) (h_starts : Nat) (sz : Nat) (z_documents : Int32) (z_indexed : Int32) (z_starts : Nat → Int32) (post : Int32 → Prop) (hv : vc_LB_indexedText z_indexed z_starts post ) : Met l y_LB_indexedText (Cond.code y_LB_indexedText b_LB_indexedText 1 (some .int) :: WT) rm_LB_indexedText (cPre (dC, dI) classes (TYS cI cJ cB cZ) [(h_t, .inr (1, [.ref h_text, .ref h_owners, .ref h_starts, .int z_documents, .int z_indexed])), (h_starts, .inl (cI, 65, .inl z_starts))] sz [.ref h_t]) (va_Qi (fun (r : Int32) (u : Unit) => post r ) (fun u t => cAft (dC, dI) classes (TYS cI cJ cB cZ) (va_A [(h_t, .inr (1, [.ref h_text, .ref h_owners, .ref h_starts, .int z_documents, .int z_indexed])), (h_starts, .inl (cI, 65, .inl z_starts))] sz) [(h_t, .inr (1, [.ref h_text, .ref h_owners, .ref h_starts, .int z_documents, .int z_indexed])), (h_starts, .inl (cI, 65, .inl z_starts))] t) (va_A [(h_t, .inr (1, [.ref h_text, .ref h_owners, .ref h_starts, .int z_documents, .int z_indexed])), (h_starts, .inl (cI, 65, .inl z_starts))] sz)) 0 0 (va_A [(h_t, .inr (1, [.ref h_text, .ref h_owners, .ref h_starts, .int z_documents, .int z_indexed])), (h_starts, .inl (cI, 65, .inl z_starts))] sz) := by
  refine Met.ofW (cc := b_LB_indexedText) (maxL := 1) (ret := (some .int)) (by decide) rfl ?_
  intro p e s m args below meth c s₁ B hml hq
  obtain ⟨rfl, hsz, hP, hK, hD0⟩ := hq
  have hts := atoms_spec (ws := Cond.code y_LB_indexedText b_LB_indexedText 1 (some .int) :: WT) B.pre
  have hw : ∀ w ∈ WT, w.before ([.ref h_t] : List Value).toArray s = true := fun w h => hts w (List.mem_cons_of_mem _ h)
  have hx := B.exec
  have hb := B.bytes
  have hr := B.returns
  have hlk := B.notSynchronized
  have hown : s.vm.findClass "SuffixIndex$Library" = some m.cls := findClass_of_methodNamed B.named
  have F : CallFix p m c b_LB_indexedText 1 s ([.ref h_t] : List Value).toArray WT "SuffixIndex$Library" := ⟨hx, hb, hml, hown, hw⟩
  subst hsz
  have hD := hD0.self (sz := s.heap.size)
  generalize hAe : va_A [(h_t, .inr (1, [.ref h_text, .ref h_owners, .ref h_starts, .int z_documents, .int z_indexed])), (h_starts, .inl (cI, 65, .inl z_starts))] s.heap.size = A at hD ⊢
  have hA : ∀ q : Nat, s.heap.size ≤ q → A q := fun q h => by rw [← hAe]; exact Or.inr h
  have hS : va_S A s.heap s.heap [] := va_S.rf
  have hl := lv_entry ([.ref h_t]) (n := 1) (Nat.le_of_ble_eq_true rfl)
  rw [lg_entry_eq]
  generalize (lg_sl ([.ref h_t]) ++ List.replicate (1 - (lg_sl ([.ref h_t])).length) Slot.unset).toArray = ls at hl ⊢
  have hl : lv_has ls 1 [(0, .ref h_t)] := hl
  show W p l e rm_LB_indexedText s m _ below meth c s.heap [] 0 0 _ _
  have hP : va_P (dC, dI) classes [(h_t, .inr (1, [.ref h_text, .ref h_owners, .ref h_starts, .int z_documents, .int z_indexed])), (h_starts, .inl (cI, 65, .inl z_starts))] s.heap := hP
  obtain ⟨H, hHe⟩ : ∃ H, H = s.heap := ⟨_, rfl⟩
  have hS : va_S A s.heap H [] := by rw [hHe]; exact hS
  rw [← hHe] at hP
  suffices hgoal : W p l e rm_LB_indexedText s m ([.ref h_t] : List Value).toArray below meth c H [] 0 0 (MQ below (va_Qi (fun (r : Int32) (u : Unit) => post r ) (fun u t => cAft (dC, dI) classes (TYS cI cJ cB cZ) A [(h_t, .inr (1, [.ref h_text, .ref h_owners, .ref h_starts, .int z_documents, .int z_indexed])), (h_starts, .inl (cI, 65, .inl z_starts))] t) A) ([.ref h_t] : List Value).toArray s 0 0 A) (F0 m 0 ls []) by rw [hHe] at hgoal; exact hgoal
  refine lv_aload_n hx hb d_LB_indexedText_0 rfl (lv_at hl 0 rfl) ?_
  refine va_get (D := (dC, dI)) (ci := 1) (v := .ref h_starts) (C := "SuffixIndex$Library") (T := F_LB) (N := 5) hx hb hw i_LB hown hK hP 0 rfl rfl 2 (by decide) (hw _ m_71) (fun _ h9 => h9) rfl d_LB_indexedText_1 ?_
  refine lv_aload_n hx hb d_LB_indexedText_4 rfl (lv_at hl 0 rfl) ?_
  refine va_get (D := (dC, dI)) (ci := 1) (v := .int z_indexed) (C := "SuffixIndex$Library") (T := F_LB) (N := 5) hx hb hw i_LB hown hK hP 0 rfl rfl 4 (by decide) (hw _ m_78) (fun _ h9 => h9) rfl d_LB_indexedText_5 ?_
  obtain ⟨hin, hv⟩ := hv
  refine va_iald hx hb hK hP 1 0 rfl rfl hin d_LB_indexedText_8 ?_
  exact W.iret (v := (z_starts z_indexed.toNatClampNeg)) hx hb hr (fun t ht hW => ⟨⟨(z_starts z_indexed.toNatClampNeg), (), rfl, hv, by rw [ht]; exact hP, va_K.moved hW.alike hK, hD⟩, hS.F ht⟩) hS.2.2 d_LB_indexedText_9

set_option maxHeartbeats 4000000 in
set_option maxRecDepth 100000 in
theorem c_LB_suffixes (l : Launch) (dC : Nat → ClassId) (dI : Nat → Nat → Nat) (cI cJ cB cZ : ClassId) (h_t : Nat) (h_text : Nat) (h_owners : Nat) (h_starts : Nat) (sz : Nat) (z_documents : Int32) (z_indexed : Int32) (z_starts : Nat → Int32) (post : Int32 → Prop) (hv : vc_LB_suffixes z_indexed z_starts post ) : Met l y_LB_suffixes (Cond.code y_LB_suffixes b_LB_suffixes 1 (some .int) :: WT) rm_LB_suffixes (cPre (dC, dI) classes (TYS cI cJ cB cZ) [(h_t, .inr (1, [.ref h_text, .ref h_owners, .ref h_starts, .int z_documents, .int z_indexed])), (h_starts, .inl (cI, 65, .inl z_starts))] sz [.ref h_t]) (va_Qi (fun (r : Int32) (u : Unit) => post r ) (fun u t => cAft (dC, dI) classes (TYS cI cJ cB cZ) (va_A [(h_t, .inr (1, [.ref h_text, .ref h_owners, .ref h_starts, .int z_documents, .int z_indexed])), (h_starts, .inl (cI, 65, .inl z_starts))] sz) [(h_t, .inr (1, [.ref h_text, .ref h_owners, .ref h_starts, .int z_documents, .int z_indexed])), (h_starts, .inl (cI, 65, .inl z_starts))] t) (va_A [(h_t, .inr (1, [.ref h_text, .ref h_owners, .ref h_starts, .int z_documents, .int z_indexed])), (h_starts, .inl (cI, 65, .inl z_starts))] sz)) 0 0 (va_A [(h_t, .inr (1, [.ref h_text, .ref h_owners, .ref h_starts, .int z_documents, .int z_indexed])), (h_starts, .inl (cI, 65, .inl z_starts))] sz) := by
  refine Met.ofW (cc := b_LB_suffixes) (maxL := 1) (ret := (some .int)) (by decide) rfl ?_
  intro p e s m args below meth c s₁ B hml hq
  obtain ⟨rfl, hsz, hP, hK, hD0⟩ := hq
  have hts := atoms_spec (ws := Cond.code y_LB_suffixes b_LB_suffixes 1 (some .int) :: WT) B.pre
  have hw : ∀ w ∈ WT, w.before ([.ref h_t] : List Value).toArray s = true := fun w h => hts w (List.mem_cons_of_mem _ h)
  have hx := B.exec
  have hb := B.bytes
  have hr := B.returns
  have hlk := B.notSynchronized
  have hown : s.vm.findClass "SuffixIndex$Library" = some m.cls := findClass_of_methodNamed B.named
  have F : CallFix p m c b_LB_suffixes 1 s ([.ref h_t] : List Value).toArray WT "SuffixIndex$Library" := ⟨hx, hb, hml, hown, hw⟩
  subst hsz
  have hD := hD0.self (sz := s.heap.size)
  generalize hAe : va_A [(h_t, .inr (1, [.ref h_text, .ref h_owners, .ref h_starts, .int z_documents, .int z_indexed])), (h_starts, .inl (cI, 65, .inl z_starts))] s.heap.size = A at hD ⊢
  have hA : ∀ q : Nat, s.heap.size ≤ q → A q := fun q h => by rw [← hAe]; exact Or.inr h
  have hS : va_S A s.heap s.heap [] := va_S.rf
  have hl := lv_entry ([.ref h_t]) (n := 1) (Nat.le_of_ble_eq_true rfl)
  rw [lg_entry_eq]
  generalize (lg_sl ([.ref h_t]) ++ List.replicate (1 - (lg_sl ([.ref h_t])).length) Slot.unset).toArray = ls at hl ⊢
  have hl : lv_has ls 1 [(0, .ref h_t)] := hl
  show W p l e rm_LB_suffixes s m _ below meth c s.heap [] 0 0 _ _
  have hP : va_P (dC, dI) classes [(h_t, .inr (1, [.ref h_text, .ref h_owners, .ref h_starts, .int z_documents, .int z_indexed])), (h_starts, .inl (cI, 65, .inl z_starts))] s.heap := hP
  obtain ⟨H, hHe⟩ : ∃ H, H = s.heap := ⟨_, rfl⟩
  have hS : va_S A s.heap H [] := by rw [hHe]; exact hS
  rw [← hHe] at hP
  suffices hgoal : W p l e rm_LB_suffixes s m ([.ref h_t] : List Value).toArray below meth c H [] 0 0 (MQ below (va_Qi (fun (r : Int32) (u : Unit) => post r ) (fun u t => cAft (dC, dI) classes (TYS cI cJ cB cZ) A [(h_t, .inr (1, [.ref h_text, .ref h_owners, .ref h_starts, .int z_documents, .int z_indexed])), (h_starts, .inl (cI, 65, .inl z_starts))] t) A) ([.ref h_t] : List Value).toArray s 0 0 A) (F0 m 0 ls []) by rw [hHe] at hgoal; exact hgoal
  refine lv_aload_n hx hb d_LB_suffixes_0 rfl (lv_at hl 0 rfl) ?_
  refine va_get (D := (dC, dI)) (ci := 1) (v := .ref h_starts) (C := "SuffixIndex$Library") (T := F_LB) (N := 5) hx hb hw i_LB hown hK hP 0 rfl rfl 2 (by decide) (hw _ m_71) (fun _ h9 => h9) rfl d_LB_suffixes_1 ?_
  refine lv_aload_n hx hb d_LB_suffixes_4 rfl (lv_at hl 0 rfl) ?_
  refine va_get (D := (dC, dI)) (ci := 1) (v := .int z_indexed) (C := "SuffixIndex$Library") (T := F_LB) (N := 5) hx hb hw i_LB hown hK hP 0 rfl rfl 4 (by decide) (hw _ m_78) (fun _ h9 => h9) rfl d_LB_suffixes_5 ?_
  obtain ⟨hin, hv⟩ := hv
  refine va_iald hx hb hK hP 1 0 rfl rfl hin d_LB_suffixes_8 ?_
  refine lv_aload_n hx hb d_LB_suffixes_9 rfl (lv_at hl 0 rfl) ?_
  refine va_get (D := (dC, dI)) (ci := 1) (v := .int z_indexed) (C := "SuffixIndex$Library") (T := F_LB) (N := 5) hx hb hw i_LB hown hK hP 0 rfl rfl 4 (by decide) (hw _ m_78) (fun _ h9 => h9) rfl d_LB_suffixes_10 ?_
  refine lv_isub hx hb d_LB_suffixes_13 ?_
  exact W.iret (v := (z_starts z_indexed.toNatClampNeg) - z_indexed) hx hb hr (fun t ht hW => ⟨⟨(z_starts z_indexed.toNatClampNeg) - z_indexed, (), rfl, hv, by rw [ht]; exact hP, va_K.moved hW.alike hK, hD⟩, hS.F ht⟩) hS.2.2 d_LB_suffixes_14

set_option maxHeartbeats 4000000 in
set_option maxRecDepth 100000 in
theorem c_LB_endOf (l : Launch) (dC : Nat → ClassId) (dI : Nat → Nat → Nat) (cI cJ cB cZ : ClassId) (h_t : Nat) (h_text : Nat) (h_owners : Nat) (h_starts : Nat) (sz : Nat) (z_documents : Int32) (z_indexed : Int32) (z_starts : Nat → Int32) (a_p1 : Int32) (post : Int32 → Prop) (hv : vc_LB_endOf a_p1 z_starts post ) : Met l y_LB_endOf (Cond.code y_LB_endOf b_LB_endOf 2 (some .int) :: WT) rm_LB_endOf (cPre (dC, dI) classes (TYS cI cJ cB cZ) [(h_t, .inr (1, [.ref h_text, .ref h_owners, .ref h_starts, .int z_documents, .int z_indexed])), (h_starts, .inl (cI, 65, .inl z_starts))] sz [.ref h_t, .int a_p1]) (va_Qi (fun (r : Int32) (u : Unit) => post r ) (fun u t => cAft (dC, dI) classes (TYS cI cJ cB cZ) (va_A [(h_t, .inr (1, [.ref h_text, .ref h_owners, .ref h_starts, .int z_documents, .int z_indexed])), (h_starts, .inl (cI, 65, .inl z_starts))] sz) [(h_t, .inr (1, [.ref h_text, .ref h_owners, .ref h_starts, .int z_documents, .int z_indexed])), (h_starts, .inl (cI, 65, .inl z_starts))] t) (va_A [(h_t, .inr (1, [.ref h_text, .ref h_owners, .ref h_starts, .int z_documents, .int z_indexed])), (h_starts, .inl (cI, 65, .inl z_starts))] sz)) 0 0 (va_A [(h_t, .inr (1, [.ref h_text, .ref h_owners, .ref h_starts, .int z_documents, .int z_indexed])), (h_starts, .inl (cI, 65, .inl z_starts))] sz) := by
  refine Met.ofW (cc := b_LB_endOf) (maxL := 2) (ret := (some .int)) (by decide) rfl ?_
  intro p e s m args below meth c s₁ B hml hq
  obtain ⟨rfl, hsz, hP, hK, hD0⟩ := hq
  have hts := atoms_spec (ws := Cond.code y_LB_endOf b_LB_endOf 2 (some .int) :: WT) B.pre
  have hw : ∀ w ∈ WT, w.before ([.ref h_t, .int a_p1] : List Value).toArray s = true := fun w h => hts w (List.mem_cons_of_mem _ h)
  have hx := B.exec
  have hb := B.bytes
  have hr := B.returns
  have hlk := B.notSynchronized
  have hown : s.vm.findClass "SuffixIndex$Library" = some m.cls := findClass_of_methodNamed B.named
  have F : CallFix p m c b_LB_endOf 2 s ([.ref h_t, .int a_p1] : List Value).toArray WT "SuffixIndex$Library" := ⟨hx, hb, hml, hown, hw⟩
  subst hsz
  have hD := hD0.self (sz := s.heap.size)
  generalize hAe : va_A [(h_t, .inr (1, [.ref h_text, .ref h_owners, .ref h_starts, .int z_documents, .int z_indexed])), (h_starts, .inl (cI, 65, .inl z_starts))] s.heap.size = A at hD ⊢
  have hA : ∀ q : Nat, s.heap.size ≤ q → A q := fun q h => by rw [← hAe]; exact Or.inr h
  have hS : va_S A s.heap s.heap [] := va_S.rf
  have hl := lv_entry ([.ref h_t, .int a_p1]) (n := 2) (Nat.le_of_ble_eq_true rfl)
  rw [lg_entry_eq]
  generalize (lg_sl ([.ref h_t, .int a_p1]) ++ List.replicate (2 - (lg_sl ([.ref h_t, .int a_p1])).length) Slot.unset).toArray = ls at hl ⊢
  have hl : lv_has ls 2 [(0, .ref h_t), (1, .int a_p1)] := hl
  show W p l e rm_LB_endOf s m _ below meth c s.heap [] 0 0 _ _
  have hP : va_P (dC, dI) classes [(h_t, .inr (1, [.ref h_text, .ref h_owners, .ref h_starts, .int z_documents, .int z_indexed])), (h_starts, .inl (cI, 65, .inl z_starts))] s.heap := hP
  obtain ⟨H, hHe⟩ : ∃ H, H = s.heap := ⟨_, rfl⟩
  have hS : va_S A s.heap H [] := by rw [hHe]; exact hS
  rw [← hHe] at hP
  suffices hgoal : W p l e rm_LB_endOf s m ([.ref h_t, .int a_p1] : List Value).toArray below meth c H [] 0 0 (MQ below (va_Qi (fun (r : Int32) (u : Unit) => post r ) (fun u t => cAft (dC, dI) classes (TYS cI cJ cB cZ) A [(h_t, .inr (1, [.ref h_text, .ref h_owners, .ref h_starts, .int z_documents, .int z_indexed])), (h_starts, .inl (cI, 65, .inl z_starts))] t) A) ([.ref h_t, .int a_p1] : List Value).toArray s 0 0 A) (F0 m 0 ls []) by rw [hHe] at hgoal; exact hgoal
  refine lv_aload_n hx hb d_LB_endOf_0 rfl (lv_at hl 0 rfl) ?_
  refine va_get (D := (dC, dI)) (ci := 1) (v := .ref h_starts) (C := "SuffixIndex$Library") (T := F_LB) (N := 5) hx hb hw i_LB hown hK hP 0 rfl rfl 2 (by decide) (hw _ m_71) (fun _ h9 => h9) rfl d_LB_endOf_1 ?_
  refine lv_iload_n hx hb d_LB_endOf_4 rfl (lv_at hl 1 rfl) ?_
  refine lv_iconst (v := 1) hx hb d_LB_endOf_5 (by decide) ?_
  refine lv_iadd hx hb d_LB_endOf_6 ?_
  obtain ⟨hin, hv⟩ := hv
  refine va_iald hx hb hK hP 1 0 rfl rfl hin d_LB_endOf_7 ?_
  refine lv_iconst (v := 1) hx hb d_LB_endOf_8 (by decide) ?_
  refine lv_isub hx hb d_LB_endOf_9 ?_
  exact W.iret (v := (z_starts (a_p1 + 1).toNatClampNeg) - 1) hx hb hr (fun t ht hW => ⟨⟨(z_starts (a_p1 + 1).toNatClampNeg) - 1, (), rfl, hv, by rw [ht]; exact hP, va_K.moved hW.alike hK, hD⟩, hS.F ht⟩) hS.2.2 d_LB_endOf_10

set_option maxHeartbeats 4000000 in
set_option maxRecDepth 100000 in
theorem c_LB_lengthFrom (l : Launch) (dC : Nat → ClassId) (dI : Nat → Nat → Nat) (cI cJ cB cZ : ClassId) (h_t : Nat) (h_text : Nat) (h_owners : Nat) (h_starts : Nat) (sz : Nat) (z_documents : Int32) (z_indexed : Int32) (z_owners : Nat → Int32) (z_starts : Nat → Int32) (a_p1 : Int32) (post : Int32 → Prop) (hv : vc_LB_lengthFrom a_p1 z_owners z_starts post ) : Met l y_LB_lengthFrom (Cond.code y_LB_lengthFrom b_LB_lengthFrom 2 (some .int) :: WT) rm_LB_lengthFrom (cPre (dC, dI) classes (TYS cI cJ cB cZ) [(h_t, .inr (1, [.ref h_text, .ref h_owners, .ref h_starts, .int z_documents, .int z_indexed])), (h_owners, .inl (cI, 16448, .inl z_owners)), (h_starts, .inl (cI, 65, .inl z_starts))] sz [.ref h_t, .int a_p1]) (va_Qi (fun (r : Int32) (u : Unit) => post r ) (fun u t => cAft (dC, dI) classes (TYS cI cJ cB cZ) (va_A [(h_t, .inr (1, [.ref h_text, .ref h_owners, .ref h_starts, .int z_documents, .int z_indexed])), (h_owners, .inl (cI, 16448, .inl z_owners)), (h_starts, .inl (cI, 65, .inl z_starts))] sz) [(h_t, .inr (1, [.ref h_text, .ref h_owners, .ref h_starts, .int z_documents, .int z_indexed])), (h_owners, .inl (cI, 16448, .inl z_owners)), (h_starts, .inl (cI, 65, .inl z_starts))] t) (va_A [(h_t, .inr (1, [.ref h_text, .ref h_owners, .ref h_starts, .int z_documents, .int z_indexed])), (h_owners, .inl (cI, 16448, .inl z_owners)), (h_starts, .inl (cI, 65, .inl z_starts))] sz)) 0 0 (va_A [(h_t, .inr (1, [.ref h_text, .ref h_owners, .ref h_starts, .int z_documents, .int z_indexed])), (h_owners, .inl (cI, 16448, .inl z_owners)), (h_starts, .inl (cI, 65, .inl z_starts))] sz) := by
  refine Met.ofW (cc := b_LB_lengthFrom) (maxL := 2) (ret := (some .int)) (by decide) rfl ?_
  intro p e s m args below meth c s₁ B hml hq
  obtain ⟨rfl, hsz, hP, hK, hD0⟩ := hq
  have hts := atoms_spec (ws := Cond.code y_LB_lengthFrom b_LB_lengthFrom 2 (some .int) :: WT) B.pre
  have hw : ∀ w ∈ WT, w.before ([.ref h_t, .int a_p1] : List Value).toArray s = true := fun w h => hts w (List.mem_cons_of_mem _ h)
  have hx := B.exec
  have hb := B.bytes
  have hr := B.returns
  have hlk := B.notSynchronized
  have hown : s.vm.findClass "SuffixIndex$Library" = some m.cls := findClass_of_methodNamed B.named
  have F : CallFix p m c b_LB_lengthFrom 2 s ([.ref h_t, .int a_p1] : List Value).toArray WT "SuffixIndex$Library" := ⟨hx, hb, hml, hown, hw⟩
  subst hsz
  have hD := hD0.self (sz := s.heap.size)
  generalize hAe : va_A [(h_t, .inr (1, [.ref h_text, .ref h_owners, .ref h_starts, .int z_documents, .int z_indexed])), (h_owners, .inl (cI, 16448, .inl z_owners)), (h_starts, .inl (cI, 65, .inl z_starts))] s.heap.size = A at hD ⊢
  have hA : ∀ q : Nat, s.heap.size ≤ q → A q := fun q h => by rw [← hAe]; exact Or.inr h
  have hS : va_S A s.heap s.heap [] := va_S.rf
  have hl := lv_entry ([.ref h_t, .int a_p1]) (n := 2) (Nat.le_of_ble_eq_true rfl)
  rw [lg_entry_eq]
  generalize (lg_sl ([.ref h_t, .int a_p1]) ++ List.replicate (2 - (lg_sl ([.ref h_t, .int a_p1])).length) Slot.unset).toArray = ls at hl ⊢
  have hl : lv_has ls 2 [(0, .ref h_t), (1, .int a_p1)] := hl
  show W p l e rm_LB_lengthFrom s m _ below meth c s.heap [] 0 0 _ _
  have hP : va_P (dC, dI) classes [(h_t, .inr (1, [.ref h_text, .ref h_owners, .ref h_starts, .int z_documents, .int z_indexed])), (h_owners, .inl (cI, 16448, .inl z_owners)), (h_starts, .inl (cI, 65, .inl z_starts))] s.heap := hP
  obtain ⟨H, hHe⟩ : ∃ H, H = s.heap := ⟨_, rfl⟩
  have hS : va_S A s.heap H [] := by rw [hHe]; exact hS
  rw [← hHe] at hP
  suffices hgoal : W p l e rm_LB_lengthFrom s m ([.ref h_t, .int a_p1] : List Value).toArray below meth c H [] 0 0 (MQ below (va_Qi (fun (r : Int32) (u : Unit) => post r ) (fun u t => cAft (dC, dI) classes (TYS cI cJ cB cZ) A [(h_t, .inr (1, [.ref h_text, .ref h_owners, .ref h_starts, .int z_documents, .int z_indexed])), (h_owners, .inl (cI, 16448, .inl z_owners)), (h_starts, .inl (cI, 65, .inl z_starts))] t) A) ([.ref h_t, .int a_p1] : List Value).toArray s 0 0 A) (F0 m 0 ls []) by rw [hHe] at hgoal; exact hgoal
  refine lv_aload_n hx hb d_LB_lengthFrom_0 rfl (lv_at hl 0 rfl) ?_
  refine lv_aload_n hx hb d_LB_lengthFrom_1 rfl (lv_at hl 0 rfl) ?_
  refine va_get (D := (dC, dI)) (ci := 1) (v := .ref h_owners) (C := "SuffixIndex$Library") (T := F_LB) (N := 5) hx hb hw i_LB hown hK hP 0 rfl rfl 1 (by decide) (hw _ m_69) (fun _ h9 => h9) rfl d_LB_lengthFrom_2 ?_
  refine lv_iload_n hx hb d_LB_lengthFrom_5 rfl (lv_at hl 1 rfl) ?_
  obtain ⟨hin, hv⟩ := hv
  refine va_iald hx hb hK hP 1 0 rfl rfl hin d_LB_lengthFrom_6 ?_
  refine cV_i (wr := [(h_owners, .inl (cI, 16448, .inl z_owners))]) (rest := []) (c_LB_endOf l dC dI cI cJ cB cZ h_t h_text h_owners h_starts H.size z_documents z_indexed z_starts (z_owners a_p1.toNatClampNeg) _ hv) F (cw_V (fun _ h => h) 1 hw m_687 m_688 m_689 m_3 m_690 rfl rfl (by decide +kernel) ⟨by decide, by decide⟩) hK hP hD hS hA [0, 2] [1] rfl rfl rfl rfl (by decide) 0 1 rfl rfl rfl hl.1 rfl (Nat.le_of_ble_eq_true rfl) d_LB_lengthFrom_7 ⟨Nat.le_of_ble_eq_true rfl, Nat.le_of_ble_eq_true rfl⟩ (fun r1 u H locs hv hP hD hS => ?_)
  have hP : va_P (dC, dI) classes [(h_t, .inr (1, [.ref h_text, .ref h_owners, .ref h_starts, .int z_documents, .int z_indexed])), (h_owners, .inl (cI, 16448, .inl z_owners)), (h_starts, .inl (cI, 65, .inl z_starts))] H := P_sub hP [1, 0, 2] rfl
  have hD : va_D A [(h_t, .inr (1, [.ref h_text, .ref h_owners, .ref h_starts, .int z_documents, .int z_indexed])), (h_owners, .inl (cI, 16448, .inl z_owners)), (h_starts, .inl (cI, 65, .inl z_starts))] := hD.sub [1, 0, 2] rfl rfl
  refine lv_iload_n hx hb d_LB_lengthFrom_10 rfl (lv_at hl 1 rfl) ?_
  refine lv_isub hx hb d_LB_lengthFrom_11 ?_
  exact W.iret (v := r1 - a_p1) hx hb hr (fun t ht hW => ⟨⟨r1 - a_p1, (), rfl, hv, by rw [ht]; exact hP, va_K.moved hW.alike hK, hD⟩, hS.F ht⟩) hS.2.2 d_LB_lengthFrom_12

set_option maxHeartbeats 4000000 in
set_option maxRecDepth 100000 in
theorem c_LB_whereOf (l : Launch) (dC : Nat → ClassId) (dI : Nat → Nat → Nat) (cI cJ cB cZ : ClassId) (h_t : Nat) (h_text : Nat) (h_owners : Nat) (h_starts : Nat) (sz : Nat) (z_documents : Int32) (z_indexed : Int32) (z_owners : Nat → Int32) (z_starts : Nat → Int32) (a_p1 : Int32) (post : Int32 → Prop) (hv : vc_LB_whereOf a_p1 z_owners z_starts post ) : Met l y_LB_whereOf (Cond.code y_LB_whereOf b_LB_whereOf 3 (some .int) :: WT) rm_LB_whereOf (cPre (dC, dI) classes (TYS cI cJ cB cZ) [(h_t, .inr (1, [.ref h_text, .ref h_owners, .ref h_starts, .int z_documents, .int z_indexed])), (h_owners, .inl (cI, 16448, .inl z_owners)), (h_starts, .inl (cI, 65, .inl z_starts))] sz [.ref h_t, .int a_p1]) (va_Qi (fun (r : Int32) (u : Unit) => post r ) (fun u t => cAft (dC, dI) classes (TYS cI cJ cB cZ) (va_A [(h_t, .inr (1, [.ref h_text, .ref h_owners, .ref h_starts, .int z_documents, .int z_indexed])), (h_owners, .inl (cI, 16448, .inl z_owners)), (h_starts, .inl (cI, 65, .inl z_starts))] sz) [(h_t, .inr (1, [.ref h_text, .ref h_owners, .ref h_starts, .int z_documents, .int z_indexed])), (h_owners, .inl (cI, 16448, .inl z_owners)), (h_starts, .inl (cI, 65, .inl z_starts))] t) (va_A [(h_t, .inr (1, [.ref h_text, .ref h_owners, .ref h_starts, .int z_documents, .int z_indexed])), (h_owners, .inl (cI, 16448, .inl z_owners)), (h_starts, .inl (cI, 65, .inl z_starts))] sz)) 0 0 (va_A [(h_t, .inr (1, [.ref h_text, .ref h_owners, .ref h_starts, .int z_documents, .int z_indexed])), (h_owners, .inl (cI, 16448, .inl z_owners)), (h_starts, .inl (cI, 65, .inl z_starts))] sz) := by
  refine Met.ofW (cc := b_LB_whereOf) (maxL := 3) (ret := (some .int)) (by decide) rfl ?_
  intro p e s m args below meth c s₁ B hml hq
  obtain ⟨rfl, hsz, hP, hK, hD0⟩ := hq
  have hts := atoms_spec (ws := Cond.code y_LB_whereOf b_LB_whereOf 3 (some .int) :: WT) B.pre
  have hw : ∀ w ∈ WT, w.before ([.ref h_t, .int a_p1] : List Value).toArray s = true := fun w h => hts w (List.mem_cons_of_mem _ h)
  have hx := B.exec
  have hb := B.bytes
  have hr := B.returns
  have hlk := B.notSynchronized
  have hown : s.vm.findClass "SuffixIndex$Library" = some m.cls := findClass_of_methodNamed B.named
  have F : CallFix p m c b_LB_whereOf 3 s ([.ref h_t, .int a_p1] : List Value).toArray WT "SuffixIndex$Library" := ⟨hx, hb, hml, hown, hw⟩
  subst hsz
  have hD := hD0.self (sz := s.heap.size)
  generalize hAe : va_A [(h_t, .inr (1, [.ref h_text, .ref h_owners, .ref h_starts, .int z_documents, .int z_indexed])), (h_owners, .inl (cI, 16448, .inl z_owners)), (h_starts, .inl (cI, 65, .inl z_starts))] s.heap.size = A at hD ⊢
  have hA : ∀ q : Nat, s.heap.size ≤ q → A q := fun q h => by rw [← hAe]; exact Or.inr h
  have hS : va_S A s.heap s.heap [] := va_S.rf
  have hl := lv_entry ([.ref h_t, .int a_p1]) (n := 3) (Nat.le_of_ble_eq_true rfl)
  rw [lg_entry_eq]
  generalize (lg_sl ([.ref h_t, .int a_p1]) ++ List.replicate (3 - (lg_sl ([.ref h_t, .int a_p1])).length) Slot.unset).toArray = ls at hl ⊢
  have hl : lv_has ls 3 [(0, .ref h_t), (1, .int a_p1)] := hl
  show W p l e rm_LB_whereOf s m _ below meth c s.heap [] 0 0 _ _
  have hP : va_P (dC, dI) classes [(h_t, .inr (1, [.ref h_text, .ref h_owners, .ref h_starts, .int z_documents, .int z_indexed])), (h_owners, .inl (cI, 16448, .inl z_owners)), (h_starts, .inl (cI, 65, .inl z_starts))] s.heap := hP
  obtain ⟨H, hHe⟩ : ∃ H, H = s.heap := ⟨_, rfl⟩
  have hS : va_S A s.heap H [] := by rw [hHe]; exact hS
  rw [← hHe] at hP
  suffices hgoal : W p l e rm_LB_whereOf s m ([.ref h_t, .int a_p1] : List Value).toArray below meth c H [] 0 0 (MQ below (va_Qi (fun (r : Int32) (u : Unit) => post r ) (fun u t => cAft (dC, dI) classes (TYS cI cJ cB cZ) A [(h_t, .inr (1, [.ref h_text, .ref h_owners, .ref h_starts, .int z_documents, .int z_indexed])), (h_owners, .inl (cI, 16448, .inl z_owners)), (h_starts, .inl (cI, 65, .inl z_starts))] t) A) ([.ref h_t, .int a_p1] : List Value).toArray s 0 0 A) (F0 m 0 ls []) by rw [hHe] at hgoal; exact hgoal
  refine lv_aload_n hx hb d_LB_whereOf_0 rfl (lv_at hl 0 rfl) ?_
  refine va_get (D := (dC, dI)) (ci := 1) (v := .ref h_owners) (C := "SuffixIndex$Library") (T := F_LB) (N := 5) hx hb hw i_LB hown hK hP 0 rfl rfl 1 (by decide) (hw _ m_69) (fun _ h9 => h9) rfl d_LB_whereOf_1 ?_
  refine lv_iload_n hx hb d_LB_whereOf_4 rfl (lv_at hl 1 rfl) ?_
  obtain ⟨hin, hv⟩ := hv
  refine va_iald hx hb hK hP 1 0 rfl rfl hin d_LB_whereOf_5 ?_
  refine lv_istore_n (lv' := [(2, .int (z_owners a_p1.toNatClampNeg)), (0, .ref h_t), (1, .int a_p1)]) hx hb d_LB_whereOf_6 rfl hl (by decide) rfl (fun ls hl => ?_)
  refine lv_iload_n hx hb d_LB_whereOf_7 rfl (lv_at hl 0 rfl) ?_
  refine lv_ldc (v := 65536) hx hb hown (hw _ m_918) d_LB_whereOf_8 ?_
  refine lv_imul hx hb d_LB_whereOf_10 ?_
  refine lv_iload_n hx hb d_LB_whereOf_11 rfl (lv_at hl 2 rfl) ?_
  refine lv_iadd hx hb d_LB_whereOf_12 ?_
  refine lv_aload_n hx hb d_LB_whereOf_13 rfl (lv_at hl 1 rfl) ?_
  refine va_get (D := (dC, dI)) (ci := 1) (v := .ref h_starts) (C := "SuffixIndex$Library") (T := F_LB) (N := 5) hx hb hw i_LB hown hK hP 0 rfl rfl 2 (by decide) (hw _ m_71) (fun _ h9 => h9) rfl d_LB_whereOf_14 ?_
  refine lv_iload_n hx hb d_LB_whereOf_17 rfl (lv_at hl 0 rfl) ?_
  obtain ⟨hin, hv⟩ := hv
  refine va_iald hx hb hK hP 2 0 rfl rfl hin d_LB_whereOf_18 ?_
  refine lv_isub hx hb d_LB_whereOf_19 ?_
  exact W.iret (v := (((z_owners a_p1.toNatClampNeg) * 65536) + a_p1) - (z_starts (z_owners a_p1.toNatClampNeg).toNatClampNeg)) hx hb hr (fun t ht hW => ⟨⟨(((z_owners a_p1.toNatClampNeg) * 65536) + a_p1) - (z_starts (z_owners a_p1.toNatClampNeg).toNatClampNeg), (), rfl, hv, by rw [ht]; exact hP, va_K.moved hW.alike hK, hD⟩, hS.F ht⟩) hS.2.2 d_LB_whereOf_20

set_option maxHeartbeats 4000000 in
set_option maxRecDepth 100000 in
theorem c_LB_positionOf (l : Launch) (dC : Nat → ClassId) (dI : Nat → Nat → Nat) (cI cJ cB cZ : ClassId) (h_t : Nat) (h_text : Nat) (h_owners : Nat) (h_starts : Nat) (sz : Nat) (z_documents : Int32) (z_indexed : Int32) (z_starts : Nat → Int32) (a_p1 : Int32) (post : Int32 → Prop) (hv : vc_LB_positionOf a_p1 z_indexed z_starts post ) : Met l y_LB_positionOf (Cond.code y_LB_positionOf b_LB_positionOf 4 (some .int) :: WT) rm_LB_positionOf (cPre (dC, dI) classes (TYS cI cJ cB cZ) [(h_t, .inr (1, [.ref h_text, .ref h_owners, .ref h_starts, .int z_documents, .int z_indexed])), (h_starts, .inl (cI, 65, .inl z_starts))] sz [.ref h_t, .int a_p1]) (va_Qi (fun (r : Int32) (u : Unit) => post r ) (fun u t => cAft (dC, dI) classes (TYS cI cJ cB cZ) (va_A [(h_t, .inr (1, [.ref h_text, .ref h_owners, .ref h_starts, .int z_documents, .int z_indexed])), (h_starts, .inl (cI, 65, .inl z_starts))] sz) [(h_t, .inr (1, [.ref h_text, .ref h_owners, .ref h_starts, .int z_documents, .int z_indexed])), (h_starts, .inl (cI, 65, .inl z_starts))] t) (va_A [(h_t, .inr (1, [.ref h_text, .ref h_owners, .ref h_starts, .int z_documents, .int z_indexed])), (h_starts, .inl (cI, 65, .inl z_starts))] sz)) 0 0 (va_A [(h_t, .inr (1, [.ref h_text, .ref h_owners, .ref h_starts, .int z_documents, .int z_indexed])), (h_starts, .inl (cI, 65, .inl z_starts))] sz) := by
  refine Met.ofW (cc := b_LB_positionOf) (maxL := 4) (ret := (some .int)) (by decide) rfl ?_
  intro p e s m args below meth c s₁ B hml hq
  obtain ⟨rfl, hsz, hP, hK, hD0⟩ := hq
  have hts := atoms_spec (ws := Cond.code y_LB_positionOf b_LB_positionOf 4 (some .int) :: WT) B.pre
  have hw : ∀ w ∈ WT, w.before ([.ref h_t, .int a_p1] : List Value).toArray s = true := fun w h => hts w (List.mem_cons_of_mem _ h)
  have hx := B.exec
  have hb := B.bytes
  have hr := B.returns
  have hlk := B.notSynchronized
  have hown : s.vm.findClass "SuffixIndex$Library" = some m.cls := findClass_of_methodNamed B.named
  have F : CallFix p m c b_LB_positionOf 4 s ([.ref h_t, .int a_p1] : List Value).toArray WT "SuffixIndex$Library" := ⟨hx, hb, hml, hown, hw⟩
  subst hsz
  have hD := hD0.self (sz := s.heap.size)
  generalize hAe : va_A [(h_t, .inr (1, [.ref h_text, .ref h_owners, .ref h_starts, .int z_documents, .int z_indexed])), (h_starts, .inl (cI, 65, .inl z_starts))] s.heap.size = A at hD ⊢
  have hA : ∀ q : Nat, s.heap.size ≤ q → A q := fun q h => by rw [← hAe]; exact Or.inr h
  have hS : va_S A s.heap s.heap [] := va_S.rf
  have hl := lv_entry ([.ref h_t, .int a_p1]) (n := 4) (Nat.le_of_ble_eq_true rfl)
  rw [lg_entry_eq]
  generalize (lg_sl ([.ref h_t, .int a_p1]) ++ List.replicate (4 - (lg_sl ([.ref h_t, .int a_p1])).length) Slot.unset).toArray = ls at hl ⊢
  have hl : lv_has ls 4 [(0, .ref h_t), (1, .int a_p1)] := hl
  show W p l e rm_LB_positionOf s m _ below meth c s.heap [] 0 0 _ _
  have hP : va_P (dC, dI) classes [(h_t, .inr (1, [.ref h_text, .ref h_owners, .ref h_starts, .int z_documents, .int z_indexed])), (h_starts, .inl (cI, 65, .inl z_starts))] s.heap := hP
  obtain ⟨H, hHe⟩ : ∃ H, H = s.heap := ⟨_, rfl⟩
  have hS : va_S A s.heap H [] := by rw [hHe]; exact hS
  rw [← hHe] at hP
  suffices hgoal : W p l e rm_LB_positionOf s m ([.ref h_t, .int a_p1] : List Value).toArray below meth c H [] 0 0 (MQ below (va_Qi (fun (r : Int32) (u : Unit) => post r ) (fun u t => cAft (dC, dI) classes (TYS cI cJ cB cZ) A [(h_t, .inr (1, [.ref h_text, .ref h_owners, .ref h_starts, .int z_documents, .int z_indexed])), (h_starts, .inl (cI, 65, .inl z_starts))] t) A) ([.ref h_t, .int a_p1] : List Value).toArray s 0 0 A) (F0 m 0 ls []) by rw [hHe] at hgoal; exact hgoal
  refine lv_iload_n hx hb d_LB_positionOf_0 rfl (lv_at hl 1 rfl) ?_
  obtain ⟨hvt, hvf⟩ := hv
  refine lv_if_ge (tgt := 6) hx hb d_LB_positionOf_1 (by decide) (fun c1 => ?_) (fun c1 => ?_)
  · have hv := hvt c1
    refine lv_iload_n hx hb d_LB_positionOf_6 rfl (lv_at hl 1 rfl) ?_
    refine lv_ldc (v := 65536) hx hb hown (hw _ m_918) d_LB_positionOf_7 ?_
    refine lv_idiv hx hb d_LB_positionOf_9 (by decide) ?_
    refine lv_istore_n (lv' := [(2, .int (a_p1 / 65536)), (0, .ref h_t), (1, .int a_p1)]) hx hb d_LB_positionOf_10 rfl hl (by decide) rfl (fun ls hl => ?_)
    refine lv_iload_n hx hb d_LB_positionOf_11 rfl (lv_at hl 2 rfl) ?_
    refine lv_ldc (v := 65536) hx hb hown (hw _ m_918) d_LB_positionOf_12 ?_
    refine lv_irem hx hb d_LB_positionOf_14 (by decide) ?_
    refine lv_istore_n (lv' := [(3, .int (a_p1 - a_p1 / 65536 * 65536)), (2, .int (a_p1 / 65536)), (0, .ref h_t), (1, .int a_p1)]) hx hb d_LB_positionOf_15 rfl hl (by decide) rfl (fun ls hl => ?_)
    refine lv_iload_n hx hb d_LB_positionOf_16 rfl (lv_at hl 1 rfl) ?_
    refine lv_aload_n hx hb d_LB_positionOf_17 rfl (lv_at hl 2 rfl) ?_
    refine va_get (D := (dC, dI)) (ci := 1) (v := .int z_indexed) (C := "SuffixIndex$Library") (T := F_LB) (N := 5) hx hb hw i_LB hown hK hP 0 rfl rfl 4 (by decide) (hw _ m_78) (fun _ h9 => h9) rfl d_LB_positionOf_18 ?_
    obtain ⟨hvt, hvf⟩ := hv
    refine lv_icmp_ge (tgt := 40) hx hb d_LB_positionOf_21 (by decide) (fun c2 => ?_) (fun c2 => ?_)
    · have hv := hvt c2
      refine lv_iconst (v := (-1)) hx hb d_LB_positionOf_40 (by decide) ?_
      exact W.iret (v := (-1)) hx hb hr (fun t ht hW => ⟨⟨(-1), (), rfl, hv, by rw [ht]; exact hP, va_K.moved hW.alike hK, hD⟩, hS.F ht⟩) hS.2.2 d_LB_positionOf_41
    · have hv := hvf c2
      refine lv_iload_n hx hb d_LB_positionOf_24 rfl (lv_at hl 0 rfl) ?_
      refine lv_aload_n hx hb d_LB_positionOf_25 rfl (lv_at hl 2 rfl) ?_
      refine lv_iload_n hx hb d_LB_positionOf_26 rfl (lv_at hl 1 rfl) ?_
      refine cV_i (wr := []) (rest := [.int (a_p1 - a_p1 / 65536 * 65536)]) (c_LB_endOf l dC dI cI cJ cB cZ h_t h_text h_owners h_starts H.size z_documents z_indexed z_starts (a_p1 / 65536) _ hv) F (cw_V (fun _ h => h) 1 hw m_687 m_688 m_689 m_3 m_690 rfl rfl (by decide +kernel) ⟨by decide, by decide⟩) hK hP hD hS hA [0, 1] [] rfl rfl rfl rfl (by decide) 0 1 rfl rfl rfl hl.1 rfl (Nat.le_of_ble_eq_true rfl) d_LB_positionOf_27 ⟨Nat.le_of_ble_eq_true rfl, Nat.le_of_ble_eq_true rfl⟩ (fun r3 u H locs hv hP hD hS => ?_)
      have hP : va_P (dC, dI) classes [(h_t, .inr (1, [.ref h_text, .ref h_owners, .ref h_starts, .int z_documents, .int z_indexed])), (h_starts, .inl (cI, 65, .inl z_starts))] H := P_sub hP [0, 1] rfl
      have hD : va_D A [(h_t, .inr (1, [.ref h_text, .ref h_owners, .ref h_starts, .int z_documents, .int z_indexed])), (h_starts, .inl (cI, 65, .inl z_starts))] := hD.sub [0, 1] rfl rfl
      refine lv_aload_n hx hb d_LB_positionOf_30 rfl (lv_at hl 2 rfl) ?_
      refine va_get (D := (dC, dI)) (ci := 1) (v := .ref h_starts) (C := "SuffixIndex$Library") (T := F_LB) (N := 5) hx hb hw i_LB hown hK hP 0 rfl rfl 2 (by decide) (hw _ m_71) (fun _ h9 => h9) rfl d_LB_positionOf_31 ?_
      refine lv_iload_n hx hb d_LB_positionOf_34 rfl (lv_at hl 1 rfl) ?_
      obtain ⟨hin, hv⟩ := hv
      refine va_iald hx hb hK hP 1 0 rfl rfl hin d_LB_positionOf_35 ?_
      refine lv_isub hx hb d_LB_positionOf_36 ?_
      obtain ⟨hvt, hvf⟩ := hv
      refine lv_icmp_lt (tgt := 42) hx hb d_LB_positionOf_37 (by decide) (fun c4 => ?_) (fun c4 => ?_)
      · have hv := hvt c4
        refine lv_aload_n hx hb d_LB_positionOf_42 rfl (lv_at hl 2 rfl) ?_
        refine va_get (D := (dC, dI)) (ci := 1) (v := .ref h_starts) (C := "SuffixIndex$Library") (T := F_LB) (N := 5) hx hb hw i_LB hown hK hP 0 rfl rfl 2 (by decide) (hw _ m_71) (fun _ h9 => h9) rfl d_LB_positionOf_43 ?_
        refine lv_iload_n hx hb d_LB_positionOf_46 rfl (lv_at hl 1 rfl) ?_
        obtain ⟨hin, hv⟩ := hv
        refine va_iald hx hb hK hP 1 0 rfl rfl hin d_LB_positionOf_47 ?_
        refine lv_iload_n hx hb d_LB_positionOf_48 rfl (lv_at hl 0 rfl) ?_
        refine lv_iadd hx hb d_LB_positionOf_49 ?_
        exact W.iret (v := (z_starts (a_p1 / 65536).toNatClampNeg) + (a_p1 - a_p1 / 65536 * 65536)) hx hb hr (fun t ht hW => ⟨⟨(z_starts (a_p1 / 65536).toNatClampNeg) + (a_p1 - a_p1 / 65536 * 65536), (), rfl, hv, by rw [ht]; exact hP, va_K.moved hW.alike hK, hD⟩, hS.F ht⟩) hS.2.2 d_LB_positionOf_50
      · have hv := hvf c4
        refine lv_iconst (v := (-1)) hx hb d_LB_positionOf_40 (by decide) ?_
        exact W.iret (v := (-1)) hx hb hr (fun t ht hW => ⟨⟨(-1), (), rfl, hv, by rw [ht]; exact hP, va_K.moved hW.alike hK, hD⟩, hS.F ht⟩) hS.2.2 d_LB_positionOf_41
  · have hv := hvf c1
    refine lv_iconst (v := (-1)) hx hb d_LB_positionOf_4 (by decide) ?_
    exact W.iret (v := (-1)) hx hb hr (fun t ht hW => ⟨⟨(-1), (), rfl, hv, by rw [ht]; exact hP, va_K.moved hW.alike hK, hD⟩, hS.F ht⟩) hS.2.2 d_LB_positionOf_5

set_option maxHeartbeats 4000000 in
set_option maxRecDepth 100000 in
theorem wk_LB_alike_15 {p : Program} {l : Launch} {e : Env} {s : State} {m : MethodId} {below : List Frame} {meth : Method} {c : Code} {A : Nat → Prop} {dC : Nat → ClassId} {dI : Nat → Nat → Nat} {cI cJ cB cZ : ClassId} {h_t : Nat} {h_text : Nat} {h_owners : Nat} {h_starts : Nat} {a_p1 : Int32} {a_p2 : Int32} {a_p3 : Int32} {z_indexed : Int32} {z_text : Nat → Int32} {z_starts : Nat → Int32} {z_documents : Int32} {post : Int32 → Prop} (F : CallFix p m c b_LB_alike 6 s ([.ref h_t, .int a_p1, .int a_p2, .int a_p3] : List Value).toArray WT "SuffixIndex$Library") (hr : meth.sig.returnType = (some .int)) (hlk : meth.locks = false) (hK : va_K (dC, dI) classes (TYS cI cJ cB cZ) s) (hA : ∀ q, s.heap.size ≤ q → A q) : ∀ (k : Nat) (x4 : Int32) (x5 : Int32), vc_LB_alike_15 a_p1 a_p2 a_p3 z_indexed z_text z_starts post k x4 x5 → ∀ (H : Heap) (locs : List Loc) (ls : Array Slot), va_P (dC, dI) classes [(h_t, .inr (1, [.ref h_text, .ref h_owners, .ref h_starts, .int z_documents, .int z_indexed])), (h_text, .inl (cI, 16448, .inl z_text)), (h_starts, .inl (cI, 65, .inl z_starts))] H → va_D A [(h_t, .inr (1, [.ref h_text, .ref h_owners, .ref h_starts, .int z_documents, .int z_indexed])), (h_text, .inl (cI, 16448, .inl z_text)), (h_starts, .inl (cI, 65, .inl z_starts))] → va_S A s.heap H locs → lv_has ls 6 [(0, .ref h_t), (1, .int a_p1), (2, .int a_p2), (4, .int x4), (5, .int x5)] → W p l e rm_LB_alike s m ([.ref h_t, .int a_p1, .int a_p2, .int a_p3] : List Value).toArray below meth c H locs 0 0 (MQ below (va_Qi (fun (r : Int32) (u : Unit) => post r ) (fun u t => cAft (dC, dI) classes (TYS cI cJ cB cZ) A [(h_t, .inr (1, [.ref h_text, .ref h_owners, .ref h_starts, .int z_documents, .int z_indexed])), (h_text, .inl (cI, 16448, .inl z_text)), (h_starts, .inl (cI, 65, .inl z_starts))] t) A) ([.ref h_t, .int a_p1, .int a_p2, .int a_p3] : List Value).toArray s 0 0 A) (F0 m 15 ls []) := by
  obtain ⟨hx, hb, hml, hown, hw⟩ := id F
  intro k
  induction k with
  | zero =>
    intro x4 x5 hv
    exact False.elim hv
  | succ k ih =>
    intro x4 x5 hv H locs ls hP hD hS hl
    refine lv_iload hx hb d_LB_alike_15 (lv_at hl 4 rfl) ?_
    refine lv_iload hx hb d_LB_alike_17 (lv_at hl 3 rfl) ?_
    obtain ⟨hvt, hvf⟩ := hv
    refine lv_icmp_ge (tgt := 49) hx hb d_LB_alike_19 (by decide) (fun c1 => ?_) (fun c1 => ?_)
    · have hv := hvt c1
      refine lv_iload hx hb d_LB_alike_49 (lv_at hl 4 rfl) ?_
      exact W.iret (v := x5) hx hb hr (fun t ht hW => ⟨⟨x5, (), rfl, hv, by rw [ht]; exact hP, va_K.moved hW.alike hK, hD⟩, hS.F ht⟩) hS.2.2 d_LB_alike_51
    · have hv := hvf c1
      refine lv_aload_n hx hb d_LB_alike_22 rfl (lv_at hl 0 rfl) ?_
      refine va_get (D := (dC, dI)) (ci := 1) (v := .ref h_text) (C := "SuffixIndex$Library") (T := F_LB) (N := 5) hx hb hw i_LB hown hK hP 0 rfl rfl 0 (by decide) (hw _ m_65) (fun _ h9 => h9) rfl d_LB_alike_23 ?_
      refine lv_iload_n hx hb d_LB_alike_26 rfl (lv_at hl 1 rfl) ?_
      refine lv_iload hx hb d_LB_alike_27 (lv_at hl 4 rfl) ?_
      refine lv_iadd hx hb d_LB_alike_29 ?_
      obtain ⟨hin, hv⟩ := hv
      refine va_iald hx hb hK hP 1 0 rfl rfl hin d_LB_alike_30 ?_
      refine lv_aload_n hx hb d_LB_alike_31 rfl (lv_at hl 0 rfl) ?_
      refine va_get (D := (dC, dI)) (ci := 1) (v := .ref h_text) (C := "SuffixIndex$Library") (T := F_LB) (N := 5) hx hb hw i_LB hown hK hP 0 rfl rfl 0 (by decide) (hw _ m_65) (fun _ h9 => h9) rfl d_LB_alike_32 ?_
      refine lv_iload_n hx hb d_LB_alike_35 rfl (lv_at hl 2 rfl) ?_
      refine lv_iload hx hb d_LB_alike_36 (lv_at hl 4 rfl) ?_
      refine lv_iadd hx hb d_LB_alike_38 ?_
      obtain ⟨hin, hv⟩ := hv
      refine va_iald hx hb hK hP 1 0 rfl rfl hin d_LB_alike_39 ?_
      obtain ⟨hvt, hvf⟩ := hv
      refine lv_icmp_ne (tgt := 49) hx hb d_LB_alike_40 (by decide) (fun c2 => ?_) (fun c2 => ?_)
      · have hv := hvt c2
        refine lv_iload hx hb d_LB_alike_49 (lv_at hl 4 rfl) ?_
        exact W.iret (v := x5) hx hb hr (fun t ht hW => ⟨⟨x5, (), rfl, hv, by rw [ht]; exact hP, va_K.moved hW.alike hK, hD⟩, hS.F ht⟩) hS.2.2 d_LB_alike_51
      · have hv := hvf c2
        refine lv_iinc (v := x5 + 1) (lv' := [(5, .int (x5 + 1)), (0, .ref h_t), (1, .int a_p1), (2, .int a_p2), (4, .int x4)]) hx hb d_LB_alike_43 hl (k := 4) rfl (iinc_v (by decide)) (by decide) rfl (fun ls hl => ?_)
        refine lv_goto (tgt := 15) hx hb d_LB_alike_46 (by decide) ?_
        exact ih x4 (x5 + 1) hv _ _ _ hP hD hS (lv_sub hl [1, 2, 3, 4, 0] rfl)

set_option maxHeartbeats 4000000 in
set_option maxRecDepth 100000 in
theorem c_LB_alike (l : Launch) (dC : Nat → ClassId) (dI : Nat → Nat → Nat) (cI cJ cB cZ : ClassId) (h_t : Nat) (h_text : Nat) (h_owners : Nat) (h_starts : Nat) (sz : Nat) (z_documents : Int32) (z_indexed : Int32) (z_text : Nat → Int32) (z_starts : Nat → Int32) (a_p1 : Int32) (a_p2 : Int32) (a_p3 : Int32) (post : Int32 → Prop) (hv : vc_LB_alike a_p1 a_p2 a_p3 z_indexed z_text z_starts post ) : Met l y_LB_alike (Cond.code y_LB_alike b_LB_alike 6 (some .int) :: WT) rm_LB_alike (cPre (dC, dI) classes (TYS cI cJ cB cZ) [(h_t, .inr (1, [.ref h_text, .ref h_owners, .ref h_starts, .int z_documents, .int z_indexed])), (h_text, .inl (cI, 16448, .inl z_text)), (h_starts, .inl (cI, 65, .inl z_starts))] sz [.ref h_t, .int a_p1, .int a_p2, .int a_p3]) (va_Qi (fun (r : Int32) (u : Unit) => post r ) (fun u t => cAft (dC, dI) classes (TYS cI cJ cB cZ) (va_A [(h_t, .inr (1, [.ref h_text, .ref h_owners, .ref h_starts, .int z_documents, .int z_indexed])), (h_text, .inl (cI, 16448, .inl z_text)), (h_starts, .inl (cI, 65, .inl z_starts))] sz) [(h_t, .inr (1, [.ref h_text, .ref h_owners, .ref h_starts, .int z_documents, .int z_indexed])), (h_text, .inl (cI, 16448, .inl z_text)), (h_starts, .inl (cI, 65, .inl z_starts))] t) (va_A [(h_t, .inr (1, [.ref h_text, .ref h_owners, .ref h_starts, .int z_documents, .int z_indexed])), (h_text, .inl (cI, 16448, .inl z_text)), (h_starts, .inl (cI, 65, .inl z_starts))] sz)) 0 0 (va_A [(h_t, .inr (1, [.ref h_text, .ref h_owners, .ref h_starts, .int z_documents, .int z_indexed])), (h_text, .inl (cI, 16448, .inl z_text)), (h_starts, .inl (cI, 65, .inl z_starts))] sz) := by
  refine Met.ofW (cc := b_LB_alike) (maxL := 6) (ret := (some .int)) (by decide) rfl ?_
  intro p e s m args below meth c s₁ B hml hq
  obtain ⟨rfl, hsz, hP, hK, hD0⟩ := hq
  have hts := atoms_spec (ws := Cond.code y_LB_alike b_LB_alike 6 (some .int) :: WT) B.pre
  have hw : ∀ w ∈ WT, w.before ([.ref h_t, .int a_p1, .int a_p2, .int a_p3] : List Value).toArray s = true := fun w h => hts w (List.mem_cons_of_mem _ h)
  have hx := B.exec
  have hb := B.bytes
  have hr := B.returns
  have hlk := B.notSynchronized
  have hown : s.vm.findClass "SuffixIndex$Library" = some m.cls := findClass_of_methodNamed B.named
  have F : CallFix p m c b_LB_alike 6 s ([.ref h_t, .int a_p1, .int a_p2, .int a_p3] : List Value).toArray WT "SuffixIndex$Library" := ⟨hx, hb, hml, hown, hw⟩
  subst hsz
  have hD := hD0.self (sz := s.heap.size)
  generalize hAe : va_A [(h_t, .inr (1, [.ref h_text, .ref h_owners, .ref h_starts, .int z_documents, .int z_indexed])), (h_text, .inl (cI, 16448, .inl z_text)), (h_starts, .inl (cI, 65, .inl z_starts))] s.heap.size = A at hD ⊢
  have hA : ∀ q : Nat, s.heap.size ≤ q → A q := fun q h => by rw [← hAe]; exact Or.inr h
  have hS : va_S A s.heap s.heap [] := va_S.rf
  have hl := lv_entry ([.ref h_t, .int a_p1, .int a_p2, .int a_p3]) (n := 6) (Nat.le_of_ble_eq_true rfl)
  rw [lg_entry_eq]
  generalize (lg_sl ([.ref h_t, .int a_p1, .int a_p2, .int a_p3]) ++ List.replicate (6 - (lg_sl ([.ref h_t, .int a_p1, .int a_p2, .int a_p3])).length) Slot.unset).toArray = ls at hl ⊢
  have hl : lv_has ls 6 [(0, .ref h_t), (1, .int a_p1), (2, .int a_p2), (3, .int a_p3)] := hl
  show W p l e rm_LB_alike s m _ below meth c s.heap [] 0 0 _ _
  have hP : va_P (dC, dI) classes [(h_t, .inr (1, [.ref h_text, .ref h_owners, .ref h_starts, .int z_documents, .int z_indexed])), (h_text, .inl (cI, 16448, .inl z_text)), (h_starts, .inl (cI, 65, .inl z_starts))] s.heap := hP
  obtain ⟨H, hHe⟩ : ∃ H, H = s.heap := ⟨_, rfl⟩
  have hS : va_S A s.heap H [] := by rw [hHe]; exact hS
  rw [← hHe] at hP
  suffices hgoal : W p l e rm_LB_alike s m ([.ref h_t, .int a_p1, .int a_p2, .int a_p3] : List Value).toArray below meth c H [] 0 0 (MQ below (va_Qi (fun (r : Int32) (u : Unit) => post r ) (fun u t => cAft (dC, dI) classes (TYS cI cJ cB cZ) A [(h_t, .inr (1, [.ref h_text, .ref h_owners, .ref h_starts, .int z_documents, .int z_indexed])), (h_text, .inl (cI, 16448, .inl z_text)), (h_starts, .inl (cI, 65, .inl z_starts))] t) A) ([.ref h_t, .int a_p1, .int a_p2, .int a_p3] : List Value).toArray s 0 0 A) (F0 m 0 ls []) by rw [hHe] at hgoal; exact hgoal
  refine lv_aload_n hx hb d_LB_alike_0 rfl (lv_at hl 0 rfl) ?_
  refine cV_i (wr := [(h_text, .inl (cI, 16448, .inl z_text))]) (rest := []) (c_LB_indexedText l dC dI cI cJ cB cZ h_t h_text h_owners h_starts H.size z_documents z_indexed z_starts _ hv) F (cw_V (fun _ h => h) 0 hw m_677 m_308 m_309 m_3 m_310 rfl rfl (by decide +kernel) ⟨by decide, by decide⟩) hK hP hD hS hA [0, 2] [1] rfl rfl rfl rfl (by decide) 0 1 rfl rfl rfl hl.1 rfl (Nat.le_of_ble_eq_true rfl) d_LB_alike_1 ⟨Nat.le_of_ble_eq_true rfl, Nat.le_of_ble_eq_true rfl⟩ (fun r3 u H locs hv hP hD hS => ?_)
  have hP : va_P (dC, dI) classes [(h_t, .inr (1, [.ref h_text, .ref h_owners, .ref h_starts, .int z_documents, .int z_indexed])), (h_text, .inl (cI, 16448, .inl z_text)), (h_starts, .inl (cI, 65, .inl z_starts))] H := P_sub hP [1, 0, 2] rfl
  have hD : va_D A [(h_t, .inr (1, [.ref h_text, .ref h_owners, .ref h_starts, .int z_documents, .int z_indexed])), (h_text, .inl (cI, 16448, .inl z_text)), (h_starts, .inl (cI, 65, .inl z_starts))] := hD.sub [1, 0, 2] rfl rfl
  refine lv_iload_n hx hb d_LB_alike_4 rfl (lv_at hl 1 rfl) ?_
  refine lv_iload_n hx hb d_LB_alike_5 rfl (lv_at hl 2 rfl) ?_
  refine va_mmax hx hb (hml.trans hl.1.symm) hown (hw _ m_678) (hw _ m_424) (hw _ m_22) (hw _ m_425) (by decide) (Nat.le_of_ble_eq_true rfl) (Nat.zero_le _) (Nat.zero_le _) d_LB_alike_6 ?_
  refine lv_isub hx hb d_LB_alike_9 ?_
  refine lv_istore (lv' := [(4, .int (r3 - (if a_p1 < a_p2 then a_p2 else a_p1))), (0, .ref h_t), (1, .int a_p1), (2, .int a_p2), (3, .int a_p3)]) hx hb d_LB_alike_10 hl (by decide) rfl (fun ls hl => ?_)
  refine lv_iload_n hx hb d_LB_alike_12 rfl (lv_at hl 4 rfl) ?_
  refine lv_istore (lv' := [(5, .int a_p3), (4, .int (r3 - (if a_p1 < a_p2 then a_p2 else a_p1))), (0, .ref h_t), (1, .int a_p1), (2, .int a_p2), (3, .int a_p3)]) hx hb d_LB_alike_13 hl (by decide) rfl (fun ls hl => ?_)
  obtain ⟨j, hv⟩ := hv
  exact wk_LB_alike_15 F hr hlk hK hA j (r3 - (if a_p1 < a_p2 then a_p2 else a_p1)) a_p3 hv _ _ _ hP hD hS (lv_sub hl [2, 3, 4, 1, 0] rfl)

