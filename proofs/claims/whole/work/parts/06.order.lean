theorem d_OR_measureAlike_0 : decode b_OR_measureAlike 0 = .ok (.iconst 0, 1) := by decide +kernel
theorem d_OR_measureAlike_1 : decode b_OR_measureAlike 1 = .ok (.istore_n 1, 1) := by decide +kernel
theorem d_OR_measureAlike_2 : decode b_OR_measureAlike 2 = .ok (.iconst 0, 1) := by decide +kernel
theorem d_OR_measureAlike_3 : decode b_OR_measureAlike 3 = .ok (.istore_n 2, 1) := by decide +kernel
theorem d_OR_measureAlike_4 : decode b_OR_measureAlike 4 = .ok (.iload_n 2, 1) := by decide +kernel
theorem d_OR_measureAlike_5 : decode b_OR_measureAlike 5 = .ok (.aload_n 0, 1) := by decide +kernel
theorem d_OR_measureAlike_6 : decode b_OR_measureAlike 6 = .ok (.getfield 49, 3) := by decide +kernel
theorem d_OR_measureAlike_9 : decode b_OR_measureAlike 9 = .ok (.if_icmp .ge 61, 3) := by decide +kernel
theorem d_OR_measureAlike_12 : decode b_OR_measureAlike 12 = .ok (.aload_n 0, 1) := by decide +kernel
theorem d_OR_measureAlike_13 : decode b_OR_measureAlike 13 = .ok (.getfield 15, 3) := by decide +kernel
theorem d_OR_measureAlike_16 : decode b_OR_measureAlike 16 = .ok (.iload_n 2, 1) := by decide +kernel
theorem d_OR_measureAlike_17 : decode b_OR_measureAlike 17 = .ok (.iaload, 1) := by decide +kernel
theorem d_OR_measureAlike_18 : decode b_OR_measureAlike 18 = .ok (.istore_n 3, 1) := by decide +kernel
theorem d_OR_measureAlike_19 : decode b_OR_measureAlike 19 = .ok (.iload_n 3, 1) := by decide +kernel
theorem d_OR_measureAlike_20 : decode b_OR_measureAlike 20 = .ok (.ifCond .ne 7, 3) := by decide +kernel
theorem d_OR_measureAlike_23 : decode b_OR_measureAlike 23 = .ok (.iconst 0, 1) := by decide +kernel
theorem d_OR_measureAlike_24 : decode b_OR_measureAlike 24 = .ok (.goto 20, 3) := by decide +kernel
theorem d_OR_measureAlike_27 : decode b_OR_measureAlike 27 = .ok (.aload_n 0, 1) := by decide +kernel
theorem d_OR_measureAlike_28 : decode b_OR_measureAlike 28 = .ok (.getfield 32, 3) := by decide +kernel
theorem d_OR_measureAlike_31 : decode b_OR_measureAlike 31 = .ok (.iload_n 2, 1) := by decide +kernel
theorem d_OR_measureAlike_32 : decode b_OR_measureAlike 32 = .ok (.aload_n 0, 1) := by decide +kernel
theorem d_OR_measureAlike_33 : decode b_OR_measureAlike 33 = .ok (.getfield 9, 3) := by decide +kernel
theorem d_OR_measureAlike_36 : decode b_OR_measureAlike 36 = .ok (.iload_n 3, 1) := by decide +kernel
theorem d_OR_measureAlike_37 : decode b_OR_measureAlike 37 = .ok (.iconst 1, 1) := by decide +kernel
theorem d_OR_measureAlike_38 : decode b_OR_measureAlike 38 = .ok (.isub, 1) := by decide +kernel
theorem d_OR_measureAlike_39 : decode b_OR_measureAlike 39 = .ok (.iaload, 1) := by decide +kernel
theorem d_OR_measureAlike_40 : decode b_OR_measureAlike 40 = .ok (.iload_n 1, 1) := by decide +kernel
theorem d_OR_measureAlike_41 : decode b_OR_measureAlike 41 = .ok (.invokevirtual 65, 3) := by decide +kernel
theorem d_OR_measureAlike_44 : decode b_OR_measureAlike 44 = .ok (.istore_n 1, 1) := by decide +kernel
theorem d_OR_measureAlike_45 : decode b_OR_measureAlike 45 = .ok (.aload_n 0, 1) := by decide +kernel
theorem d_OR_measureAlike_46 : decode b_OR_measureAlike 46 = .ok (.getfield 18, 3) := by decide +kernel
theorem d_OR_measureAlike_49 : decode b_OR_measureAlike 49 = .ok (.iload_n 3, 1) := by decide +kernel
theorem d_OR_measureAlike_50 : decode b_OR_measureAlike 50 = .ok (.iload_n 1, 1) := by decide +kernel
theorem d_OR_measureAlike_51 : decode b_OR_measureAlike 51 = .ok (.iastore, 1) := by decide +kernel
theorem d_OR_measureAlike_52 : decode b_OR_measureAlike 52 = .ok (.iload_n 1, 1) := by decide +kernel
theorem d_OR_measureAlike_53 : decode b_OR_measureAlike 53 = .ok (.ifCond .le 9, 3) := by decide +kernel
theorem d_OR_measureAlike_56 : decode b_OR_measureAlike 56 = .ok (.iload_n 1, 1) := by decide +kernel
theorem d_OR_measureAlike_57 : decode b_OR_measureAlike 57 = .ok (.iconst 1, 1) := by decide +kernel
theorem d_OR_measureAlike_58 : decode b_OR_measureAlike 58 = .ok (.isub, 1) := by decide +kernel
theorem d_OR_measureAlike_59 : decode b_OR_measureAlike 59 = .ok (.goto 4, 3) := by decide +kernel
theorem d_OR_measureAlike_62 : decode b_OR_measureAlike 62 = .ok (.iconst 0, 1) := by decide +kernel
theorem d_OR_measureAlike_63 : decode b_OR_measureAlike 63 = .ok (.istore_n 1, 1) := by decide +kernel
theorem d_OR_measureAlike_64 : decode b_OR_measureAlike 64 = .ok (.iinc 2 1, 3) := by decide +kernel
theorem d_OR_measureAlike_67 : decode b_OR_measureAlike 67 = .ok (.goto (-63), 3) := by decide +kernel
theorem d_OR_measureAlike_70 : decode b_OR_measureAlike 70 = .ok (.return_, 1) := by decide +kernel
theorem d_OR_sumPieces_0 : decode b_OR_sumPieces 0 = .ok (.lconst 0, 1) := by decide +kernel
theorem d_OR_sumPieces_1 : decode b_OR_sumPieces 1 = .ok (.lstore_n 1, 1) := by decide +kernel
theorem d_OR_sumPieces_2 : decode b_OR_sumPieces 2 = .ok (.aload_n 0, 1) := by decide +kernel
theorem d_OR_sumPieces_3 : decode b_OR_sumPieces 3 = .ok (.getfield 42, 3) := by decide +kernel
theorem d_OR_sumPieces_6 : decode b_OR_sumPieces 6 = .ok (.istore_n 3, 1) := by decide +kernel
theorem d_OR_sumPieces_7 : decode b_OR_sumPieces 7 = .ok (.iload_n 3, 1) := by decide +kernel
theorem d_OR_sumPieces_8 : decode b_OR_sumPieces 8 = .ok (.aload_n 0, 1) := by decide +kernel
theorem d_OR_sumPieces_9 : decode b_OR_sumPieces 9 = .ok (.getfield 49, 3) := by decide +kernel
theorem d_OR_sumPieces_12 : decode b_OR_sumPieces 12 = .ok (.if_icmp .ge 40, 3) := by decide +kernel
theorem d_OR_sumPieces_15 : decode b_OR_sumPieces 15 = .ok (.lload_n 1, 1) := by decide +kernel
theorem d_OR_sumPieces_16 : decode b_OR_sumPieces 16 = .ok (.aload_n 0, 1) := by decide +kernel
theorem d_OR_sumPieces_17 : decode b_OR_sumPieces 17 = .ok (.getfield 32, 3) := by decide +kernel
theorem d_OR_sumPieces_20 : decode b_OR_sumPieces 20 = .ok (.aload_n 0, 1) := by decide +kernel
theorem d_OR_sumPieces_21 : decode b_OR_sumPieces 21 = .ok (.getfield 9, 3) := by decide +kernel
theorem d_OR_sumPieces_24 : decode b_OR_sumPieces 24 = .ok (.iload_n 3, 1) := by decide +kernel
theorem d_OR_sumPieces_25 : decode b_OR_sumPieces 25 = .ok (.iaload, 1) := by decide +kernel
theorem d_OR_sumPieces_26 : decode b_OR_sumPieces 26 = .ok (.invokevirtual 69, 3) := by decide +kernel
theorem d_OR_sumPieces_29 : decode b_OR_sumPieces 29 = .ok (.aload_n 0, 1) := by decide +kernel
theorem d_OR_sumPieces_30 : decode b_OR_sumPieces 30 = .ok (.getfield 18, 3) := by decide +kernel
theorem d_OR_sumPieces_33 : decode b_OR_sumPieces 33 = .ok (.iload_n 3, 1) := by decide +kernel
theorem d_OR_sumPieces_34 : decode b_OR_sumPieces 34 = .ok (.iaload, 1) := by decide +kernel
theorem d_OR_sumPieces_35 : decode b_OR_sumPieces 35 = .ok (.isub, 1) := by decide +kernel
theorem d_OR_sumPieces_36 : decode b_OR_sumPieces 36 = .ok (.i2l, 1) := by decide +kernel
theorem d_OR_sumPieces_37 : decode b_OR_sumPieces 37 = .ok (.ladd, 1) := by decide +kernel
theorem d_OR_sumPieces_38 : decode b_OR_sumPieces 38 = .ok (.lstore_n 1, 1) := by decide +kernel
theorem d_OR_sumPieces_39 : decode b_OR_sumPieces 39 = .ok (.aload_n 0, 1) := by decide +kernel
theorem d_OR_sumPieces_40 : decode b_OR_sumPieces 40 = .ok (.getfield 21, 3) := by decide +kernel
theorem d_OR_sumPieces_43 : decode b_OR_sumPieces 43 = .ok (.iload_n 3, 1) := by decide +kernel
theorem d_OR_sumPieces_44 : decode b_OR_sumPieces 44 = .ok (.lload_n 1, 1) := by decide +kernel
theorem d_OR_sumPieces_45 : decode b_OR_sumPieces 45 = .ok (.lastore, 1) := by decide +kernel
theorem d_OR_sumPieces_46 : decode b_OR_sumPieces 46 = .ok (.iinc 3 1, 3) := by decide +kernel
theorem d_OR_sumPieces_49 : decode b_OR_sumPieces 49 = .ok (.goto (-42), 3) := by decide +kernel
theorem d_OR_sumPieces_52 : decode b_OR_sumPieces 52 = .ok (.return_, 1) := by decide +kernel
theorem d_OR_renew_0 : decode b_OR_renew 0 = .ok (.aload_n 0, 1) := by decide +kernel
theorem d_OR_renew_1 : decode b_OR_renew 1 = .ok (.aload_n 0, 1) := by decide +kernel
theorem d_OR_renew_2 : decode b_OR_renew 2 = .ok (.getfield 32, 3) := by decide +kernel
theorem d_OR_renew_5 : decode b_OR_renew 5 = .ok (.getfield 36, 3) := by decide +kernel
theorem d_OR_renew_8 : decode b_OR_renew 8 = .ok (.putfield 42, 3) := by decide +kernel
theorem d_OR_renew_11 : decode b_OR_renew 11 = .ok (.aload_n 0, 1) := by decide +kernel
theorem d_OR_renew_12 : decode b_OR_renew 12 = .ok (.aload_n 0, 1) := by decide +kernel
theorem d_OR_renew_13 : decode b_OR_renew 13 = .ok (.getfield 32, 3) := by decide +kernel
theorem d_OR_renew_16 : decode b_OR_renew 16 = .ok (.invokevirtual 45, 3) := by decide +kernel
theorem d_OR_renew_19 : decode b_OR_renew 19 = .ok (.putfield 49, 3) := by decide +kernel
theorem d_OR_renew_22 : decode b_OR_renew 22 = .ok (.aload_n 0, 1) := by decide +kernel
theorem d_OR_renew_23 : decode b_OR_renew 23 = .ok (.getfield 49, 3) := by decide +kernel
theorem d_OR_renew_26 : decode b_OR_renew 26 = .ok (.ifCond .le 37, 3) := by decide +kernel
theorem d_OR_renew_29 : decode b_OR_renew 29 = .ok (.aload_n 0, 1) := by decide +kernel
theorem d_OR_renew_30 : decode b_OR_renew 30 = .ok (.getfield 28, 3) := by decide +kernel
theorem d_OR_renew_33 : decode b_OR_renew 33 = .ok (.aload_n 0, 1) := by decide +kernel
theorem d_OR_renew_34 : decode b_OR_renew 34 = .ok (.getfield 32, 3) := by decide +kernel
theorem d_OR_renew_37 : decode b_OR_renew 37 = .ok (.getfield 52, 3) := by decide +kernel
theorem d_OR_renew_40 : decode b_OR_renew 40 = .ok (.aload_n 0, 1) := by decide +kernel
theorem d_OR_renew_41 : decode b_OR_renew 41 = .ok (.getfield 49, 3) := by decide +kernel
theorem d_OR_renew_44 : decode b_OR_renew 44 = .ok (.aload_n 0, 1) := by decide +kernel
theorem d_OR_renew_45 : decode b_OR_renew 45 = .ok (.getfield 9, 3) := by decide +kernel
theorem d_OR_renew_48 : decode b_OR_renew 48 = .ok (.aload_n 0, 1) := by decide +kernel
theorem d_OR_renew_49 : decode b_OR_renew 49 = .ok (.getfield 15, 3) := by decide +kernel
theorem d_OR_renew_52 : decode b_OR_renew 52 = .ok (.invokevirtual 55, 3) := by decide +kernel
theorem d_OR_renew_55 : decode b_OR_renew 55 = .ok (.aload_n 0, 1) := by decide +kernel
theorem d_OR_renew_56 : decode b_OR_renew 56 = .ok (.invokevirtual 59, 3) := by decide +kernel
theorem d_OR_renew_59 : decode b_OR_renew 59 = .ok (.aload_n 0, 1) := by decide +kernel
theorem d_OR_renew_60 : decode b_OR_renew 60 = .ok (.invokevirtual 62, 3) := by decide +kernel
theorem d_OR_renew_63 : decode b_OR_renew 63 = .ok (.return_, 1) := by decide +kernel
theorem d_OR_differentPieces_0 : decode b_OR_differentPieces 0 = .ok (.aload_n 0, 1) := by decide +kernel
theorem d_OR_differentPieces_1 : decode b_OR_differentPieces 1 = .ok (.getfield 49, 3) := by decide +kernel
theorem d_OR_differentPieces_4 : decode b_OR_differentPieces 4 = .ok (.ifCond .ne 7, 3) := by decide +kernel
theorem d_OR_differentPieces_7 : decode b_OR_differentPieces 7 = .ok (.lconst 0, 1) := by decide +kernel
theorem d_OR_differentPieces_8 : decode b_OR_differentPieces 8 = .ok (.goto 14, 3) := by decide +kernel
theorem d_OR_differentPieces_11 : decode b_OR_differentPieces 11 = .ok (.aload_n 0, 1) := by decide +kernel
theorem d_OR_differentPieces_12 : decode b_OR_differentPieces 12 = .ok (.getfield 21, 3) := by decide +kernel
theorem d_OR_differentPieces_15 : decode b_OR_differentPieces 15 = .ok (.aload_n 0, 1) := by decide +kernel
theorem d_OR_differentPieces_16 : decode b_OR_differentPieces 16 = .ok (.getfield 49, 3) := by decide +kernel
theorem d_OR_differentPieces_19 : decode b_OR_differentPieces 19 = .ok (.iconst 1, 1) := by decide +kernel
theorem d_OR_differentPieces_20 : decode b_OR_differentPieces 20 = .ok (.isub, 1) := by decide +kernel
theorem d_OR_differentPieces_21 : decode b_OR_differentPieces 21 = .ok (.laload, 1) := by decide +kernel
theorem d_OR_differentPieces_22 : decode b_OR_differentPieces 22 = .ok (.lreturn, 1) := by decide +kernel
theorem d_OR_rankOfPiece_0 : decode b_OR_rankOfPiece 0 = .ok (.aload_n 0, 1) := by decide +kernel
theorem d_OR_rankOfPiece_1 : decode b_OR_rankOfPiece 1 = .ok (.getfield 42, 3) := by decide +kernel
theorem d_OR_rankOfPiece_4 : decode b_OR_rankOfPiece 4 = .ok (.istore_n 3, 1) := by decide +kernel
theorem d_OR_rankOfPiece_5 : decode b_OR_rankOfPiece 5 = .ok (.aload_n 0, 1) := by decide +kernel
theorem d_OR_rankOfPiece_6 : decode b_OR_rankOfPiece 6 = .ok (.getfield 49, 3) := by decide +kernel
theorem d_OR_rankOfPiece_9 : decode b_OR_rankOfPiece 9 = .ok (.iconst 1, 1) := by decide +kernel
theorem d_OR_rankOfPiece_10 : decode b_OR_rankOfPiece 10 = .ok (.isub, 1) := by decide +kernel
theorem d_OR_rankOfPiece_11 : decode b_OR_rankOfPiece 11 = .ok (.istore 4, 2) := by decide +kernel
theorem d_OR_rankOfPiece_13 : decode b_OR_rankOfPiece 13 = .ok (.iload_n 3, 1) := by decide +kernel
theorem d_OR_rankOfPiece_14 : decode b_OR_rankOfPiece 14 = .ok (.iload 4, 2) := by decide +kernel
theorem d_OR_rankOfPiece_16 : decode b_OR_rankOfPiece 16 = .ok (.if_icmp .ge 38, 3) := by decide +kernel
theorem d_OR_rankOfPiece_19 : decode b_OR_rankOfPiece 19 = .ok (.iload_n 3, 1) := by decide +kernel
theorem d_OR_rankOfPiece_20 : decode b_OR_rankOfPiece 20 = .ok (.iload 4, 2) := by decide +kernel
theorem d_OR_rankOfPiece_22 : decode b_OR_rankOfPiece 22 = .ok (.iadd, 1) := by decide +kernel
theorem d_OR_rankOfPiece_23 : decode b_OR_rankOfPiece 23 = .ok (.iconst 1, 1) := by decide +kernel
theorem d_OR_rankOfPiece_24 : decode b_OR_rankOfPiece 24 = .ok (.iushr, 1) := by decide +kernel
theorem d_OR_rankOfPiece_25 : decode b_OR_rankOfPiece 25 = .ok (.istore 5, 2) := by decide +kernel
theorem d_OR_rankOfPiece_27 : decode b_OR_rankOfPiece 27 = .ok (.aload_n 0, 1) := by decide +kernel
theorem d_OR_rankOfPiece_28 : decode b_OR_rankOfPiece 28 = .ok (.getfield 21, 3) := by decide +kernel
theorem d_OR_rankOfPiece_31 : decode b_OR_rankOfPiece 31 = .ok (.iload 5, 2) := by decide +kernel
theorem d_OR_rankOfPiece_33 : decode b_OR_rankOfPiece 33 = .ok (.laload, 1) := by decide +kernel
theorem d_OR_rankOfPiece_34 : decode b_OR_rankOfPiece 34 = .ok (.lload_n 1, 1) := by decide +kernel
theorem d_OR_rankOfPiece_35 : decode b_OR_rankOfPiece 35 = .ok (.lcmp, 1) := by decide +kernel
theorem d_OR_rankOfPiece_36 : decode b_OR_rankOfPiece 36 = .ok (.ifCond .le 10, 3) := by decide +kernel
theorem d_OR_rankOfPiece_39 : decode b_OR_rankOfPiece 39 = .ok (.iload 5, 2) := by decide +kernel
theorem d_OR_rankOfPiece_41 : decode b_OR_rankOfPiece 41 = .ok (.istore 4, 2) := by decide +kernel
theorem d_OR_rankOfPiece_43 : decode b_OR_rankOfPiece 43 = .ok (.goto 8, 3) := by decide +kernel
theorem d_OR_rankOfPiece_46 : decode b_OR_rankOfPiece 46 = .ok (.iload 5, 2) := by decide +kernel
theorem d_OR_rankOfPiece_48 : decode b_OR_rankOfPiece 48 = .ok (.iconst 1, 1) := by decide +kernel
theorem d_OR_rankOfPiece_49 : decode b_OR_rankOfPiece 49 = .ok (.iadd, 1) := by decide +kernel
theorem d_OR_rankOfPiece_50 : decode b_OR_rankOfPiece 50 = .ok (.istore_n 3, 1) := by decide +kernel
theorem d_OR_rankOfPiece_51 : decode b_OR_rankOfPiece 51 = .ok (.goto (-38), 3) := by decide +kernel
theorem d_OR_rankOfPiece_54 : decode b_OR_rankOfPiece 54 = .ok (.iload_n 3, 1) := by decide +kernel
theorem d_OR_rankOfPiece_55 : decode b_OR_rankOfPiece 55 = .ok (.ireturn, 1) := by decide +kernel
theorem d_OR_lengthOfPiece_0 : decode b_OR_lengthOfPiece 0 = .ok (.aload_n 0, 1) := by decide +kernel
theorem d_OR_lengthOfPiece_1 : decode b_OR_lengthOfPiece 1 = .ok (.lload_n 1, 1) := by decide +kernel
theorem d_OR_lengthOfPiece_2 : decode b_OR_lengthOfPiece 2 = .ok (.invokevirtual 73, 3) := by decide +kernel
theorem d_OR_lengthOfPiece_5 : decode b_OR_lengthOfPiece 5 = .ok (.istore_n 3, 1) := by decide +kernel
theorem d_OR_lengthOfPiece_6 : decode b_OR_lengthOfPiece 6 = .ok (.aload_n 0, 1) := by decide +kernel
theorem d_OR_lengthOfPiece_7 : decode b_OR_lengthOfPiece 7 = .ok (.getfield 21, 3) := by decide +kernel
theorem d_OR_lengthOfPiece_10 : decode b_OR_lengthOfPiece 10 = .ok (.iload_n 3, 1) := by decide +kernel
theorem d_OR_lengthOfPiece_11 : decode b_OR_lengthOfPiece 11 = .ok (.laload, 1) := by decide +kernel
theorem d_OR_lengthOfPiece_12 : decode b_OR_lengthOfPiece 12 = .ok (.lconst 1, 1) := by decide +kernel
theorem d_OR_lengthOfPiece_13 : decode b_OR_lengthOfPiece 13 = .ok (.lsub, 1) := by decide +kernel
theorem d_OR_lengthOfPiece_14 : decode b_OR_lengthOfPiece 14 = .ok (.lload_n 1, 1) := by decide +kernel
theorem d_OR_lengthOfPiece_15 : decode b_OR_lengthOfPiece 15 = .ok (.lsub, 1) := by decide +kernel
theorem d_OR_lengthOfPiece_16 : decode b_OR_lengthOfPiece 16 = .ok (.lstore 4, 2) := by decide +kernel
theorem d_OR_lengthOfPiece_18 : decode b_OR_lengthOfPiece 18 = .ok (.aload_n 0, 1) := by decide +kernel
theorem d_OR_lengthOfPiece_19 : decode b_OR_lengthOfPiece 19 = .ok (.getfield 32, 3) := by decide +kernel
theorem d_OR_lengthOfPiece_22 : decode b_OR_lengthOfPiece 22 = .ok (.aload_n 0, 1) := by decide +kernel
theorem d_OR_lengthOfPiece_23 : decode b_OR_lengthOfPiece 23 = .ok (.getfield 9, 3) := by decide +kernel
theorem d_OR_lengthOfPiece_26 : decode b_OR_lengthOfPiece 26 = .ok (.iload_n 3, 1) := by decide +kernel
theorem d_OR_lengthOfPiece_27 : decode b_OR_lengthOfPiece 27 = .ok (.iaload, 1) := by decide +kernel
theorem d_OR_lengthOfPiece_28 : decode b_OR_lengthOfPiece 28 = .ok (.invokevirtual 69, 3) := by decide +kernel
theorem d_OR_lengthOfPiece_31 : decode b_OR_lengthOfPiece 31 = .ok (.i2l, 1) := by decide +kernel
theorem d_OR_lengthOfPiece_32 : decode b_OR_lengthOfPiece 32 = .ok (.lload 4, 2) := by decide +kernel
theorem d_OR_lengthOfPiece_34 : decode b_OR_lengthOfPiece 34 = .ok (.lsub, 1) := by decide +kernel
theorem d_OR_lengthOfPiece_35 : decode b_OR_lengthOfPiece 35 = .ok (.l2i, 1) := by decide +kernel
theorem d_OR_lengthOfPiece_36 : decode b_OR_lengthOfPiece 36 = .ok (.ireturn, 1) := by decide +kernel
theorem d_OR_singleLength_0 : decode b_OR_singleLength 0 = .ok (.aload_n 0, 1) := by decide +kernel
theorem d_OR_singleLength_1 : decode b_OR_singleLength 1 = .ok (.getfield 15, 3) := by decide +kernel
theorem d_OR_singleLength_4 : decode b_OR_singleLength 4 = .ok (.iload_n 1, 1) := by decide +kernel
theorem d_OR_singleLength_5 : decode b_OR_singleLength 5 = .ok (.iaload, 1) := by decide +kernel
theorem d_OR_singleLength_6 : decode b_OR_singleLength 6 = .ok (.istore_n 2, 1) := by decide +kernel
theorem d_OR_singleLength_7 : decode b_OR_singleLength 7 = .ok (.iload_n 2, 1) := by decide +kernel
theorem d_OR_singleLength_8 : decode b_OR_singleLength 8 = .ok (.iconst 1, 1) := by decide +kernel
theorem d_OR_singleLength_9 : decode b_OR_singleLength 9 = .ok (.iadd, 1) := by decide +kernel
theorem d_OR_singleLength_10 : decode b_OR_singleLength 10 = .ok (.aload_n 0, 1) := by decide +kernel
theorem d_OR_singleLength_11 : decode b_OR_singleLength 11 = .ok (.getfield 49, 3) := by decide +kernel
theorem d_OR_singleLength_14 : decode b_OR_singleLength 14 = .ok (.if_icmp .ge 14, 3) := by decide +kernel
theorem d_OR_singleLength_17 : decode b_OR_singleLength 17 = .ok (.aload_n 0, 1) := by decide +kernel
theorem d_OR_singleLength_18 : decode b_OR_singleLength 18 = .ok (.getfield 18, 3) := by decide +kernel
theorem d_OR_singleLength_21 : decode b_OR_singleLength 21 = .ok (.iload_n 2, 1) := by decide +kernel
theorem d_OR_singleLength_22 : decode b_OR_singleLength 22 = .ok (.iconst 1, 1) := by decide +kernel
theorem d_OR_singleLength_23 : decode b_OR_singleLength 23 = .ok (.iadd, 1) := by decide +kernel
theorem d_OR_singleLength_24 : decode b_OR_singleLength 24 = .ok (.iaload, 1) := by decide +kernel
theorem d_OR_singleLength_25 : decode b_OR_singleLength 25 = .ok (.goto 4, 3) := by decide +kernel
theorem d_OR_singleLength_28 : decode b_OR_singleLength 28 = .ok (.iconst 0, 1) := by decide +kernel
theorem d_OR_singleLength_29 : decode b_OR_singleLength 29 = .ok (.istore_n 3, 1) := by decide +kernel
theorem d_OR_singleLength_30 : decode b_OR_singleLength 30 = .ok (.aload_n 0, 1) := by decide +kernel
theorem d_OR_singleLength_31 : decode b_OR_singleLength 31 = .ok (.getfield 18, 3) := by decide +kernel
theorem d_OR_singleLength_34 : decode b_OR_singleLength 34 = .ok (.iload_n 2, 1) := by decide +kernel
theorem d_OR_singleLength_35 : decode b_OR_singleLength 35 = .ok (.iaload, 1) := by decide +kernel
theorem d_OR_singleLength_36 : decode b_OR_singleLength 36 = .ok (.iload_n 3, 1) := by decide +kernel
theorem d_OR_singleLength_37 : decode b_OR_singleLength 37 = .ok (.invokestatic 77, 3) := by decide +kernel
theorem d_OR_singleLength_40 : decode b_OR_singleLength 40 = .ok (.iconst 1, 1) := by decide +kernel
theorem d_OR_singleLength_41 : decode b_OR_singleLength 41 = .ok (.iadd, 1) := by decide +kernel
theorem d_OR_singleLength_42 : decode b_OR_singleLength 42 = .ok (.ireturn, 1) := by decide +kernel
theorem d_OR_alikeWith_0 : decode b_OR_alikeWith 0 = .ok (.aload_n 1, 1) := by decide +kernel
theorem d_OR_alikeWith_1 : decode b_OR_alikeWith 1 = .ok (.getfield 100, 3) := by decide +kernel
theorem d_OR_alikeWith_4 : decode b_OR_alikeWith 4 = .ok (.iload_n 2, 1) := by decide +kernel
theorem d_OR_alikeWith_5 : decode b_OR_alikeWith 5 = .ok (.isub, 1) := by decide +kernel
theorem d_OR_alikeWith_6 : decode b_OR_alikeWith 6 = .ok (.aload_n 0, 1) := by decide +kernel
theorem d_OR_alikeWith_7 : decode b_OR_alikeWith 7 = .ok (.getfield 49, 3) := by decide +kernel
theorem d_OR_alikeWith_10 : decode b_OR_alikeWith 10 = .ok (.iload_n 3, 1) := by decide +kernel
theorem d_OR_alikeWith_11 : decode b_OR_alikeWith 11 = .ok (.isub, 1) := by decide +kernel
theorem d_OR_alikeWith_12 : decode b_OR_alikeWith 12 = .ok (.invokestatic 83, 3) := by decide +kernel
theorem d_OR_alikeWith_15 : decode b_OR_alikeWith 15 = .ok (.istore 5, 2) := by decide +kernel
theorem d_OR_alikeWith_17 : decode b_OR_alikeWith 17 = .ok (.iload 4, 2) := by decide +kernel
theorem d_OR_alikeWith_19 : decode b_OR_alikeWith 19 = .ok (.istore 6, 2) := by decide +kernel
theorem d_OR_alikeWith_21 : decode b_OR_alikeWith 21 = .ok (.iload 6, 2) := by decide +kernel
theorem d_OR_alikeWith_23 : decode b_OR_alikeWith 23 = .ok (.iload 5, 2) := by decide +kernel
theorem d_OR_alikeWith_25 : decode b_OR_alikeWith 25 = .ok (.if_icmp .ge 33, 3) := by decide +kernel
theorem d_OR_alikeWith_28 : decode b_OR_alikeWith 28 = .ok (.aload_n 1, 1) := by decide +kernel
theorem d_OR_alikeWith_29 : decode b_OR_alikeWith 29 = .ok (.getfield 105, 3) := by decide +kernel
theorem d_OR_alikeWith_32 : decode b_OR_alikeWith 32 = .ok (.iload_n 2, 1) := by decide +kernel
theorem d_OR_alikeWith_33 : decode b_OR_alikeWith 33 = .ok (.iload 6, 2) := by decide +kernel
theorem d_OR_alikeWith_35 : decode b_OR_alikeWith 35 = .ok (.iadd, 1) := by decide +kernel
theorem d_OR_alikeWith_36 : decode b_OR_alikeWith 36 = .ok (.iaload, 1) := by decide +kernel
theorem d_OR_alikeWith_37 : decode b_OR_alikeWith 37 = .ok (.aload_n 0, 1) := by decide +kernel
theorem d_OR_alikeWith_38 : decode b_OR_alikeWith 38 = .ok (.getfield 32, 3) := by decide +kernel
theorem d_OR_alikeWith_41 : decode b_OR_alikeWith 41 = .ok (.getfield 52, 3) := by decide +kernel
theorem d_OR_alikeWith_44 : decode b_OR_alikeWith 44 = .ok (.iload_n 3, 1) := by decide +kernel
theorem d_OR_alikeWith_45 : decode b_OR_alikeWith 45 = .ok (.iload 6, 2) := by decide +kernel
theorem d_OR_alikeWith_47 : decode b_OR_alikeWith 47 = .ok (.iadd, 1) := by decide +kernel
theorem d_OR_alikeWith_48 : decode b_OR_alikeWith 48 = .ok (.iaload, 1) := by decide +kernel
theorem d_OR_alikeWith_49 : decode b_OR_alikeWith 49 = .ok (.if_icmp .ne 9, 3) := by decide +kernel
theorem d_OR_alikeWith_52 : decode b_OR_alikeWith 52 = .ok (.iinc 6 1, 3) := by decide +kernel
theorem d_OR_alikeWith_55 : decode b_OR_alikeWith 55 = .ok (.goto (-34), 3) := by decide +kernel
theorem d_OR_alikeWith_58 : decode b_OR_alikeWith 58 = .ok (.iload 6, 2) := by decide +kernel
theorem d_OR_alikeWith_60 : decode b_OR_alikeWith 60 = .ok (.ireturn, 1) := by decide +kernel
theorem d_OR_isBefore_0 : decode b_OR_isBefore 0 = .ok (.iload_n 2, 1) := by decide +kernel
theorem d_OR_isBefore_1 : decode b_OR_isBefore 1 = .ok (.aload_n 1, 1) := by decide +kernel
theorem d_OR_isBefore_2 : decode b_OR_isBefore 2 = .ok (.getfield 100, 3) := by decide +kernel
theorem d_OR_isBefore_5 : decode b_OR_isBefore 5 = .ok (.if_icmp .ge 33, 3) := by decide +kernel
theorem d_OR_isBefore_8 : decode b_OR_isBefore 8 = .ok (.iload_n 3, 1) := by decide +kernel
theorem d_OR_isBefore_9 : decode b_OR_isBefore 9 = .ok (.aload_n 0, 1) := by decide +kernel
theorem d_OR_isBefore_10 : decode b_OR_isBefore 10 = .ok (.getfield 49, 3) := by decide +kernel
theorem d_OR_isBefore_13 : decode b_OR_isBefore 13 = .ok (.if_icmp .ge 25, 3) := by decide +kernel
theorem d_OR_isBefore_16 : decode b_OR_isBefore 16 = .ok (.aload_n 0, 1) := by decide +kernel
theorem d_OR_isBefore_17 : decode b_OR_isBefore 17 = .ok (.getfield 32, 3) := by decide +kernel
theorem d_OR_isBefore_20 : decode b_OR_isBefore 20 = .ok (.getfield 52, 3) := by decide +kernel
theorem d_OR_isBefore_23 : decode b_OR_isBefore 23 = .ok (.iload_n 3, 1) := by decide +kernel
theorem d_OR_isBefore_24 : decode b_OR_isBefore 24 = .ok (.iaload, 1) := by decide +kernel
theorem d_OR_isBefore_25 : decode b_OR_isBefore 25 = .ok (.aload_n 1, 1) := by decide +kernel
theorem d_OR_isBefore_26 : decode b_OR_isBefore 26 = .ok (.getfield 105, 3) := by decide +kernel
theorem d_OR_isBefore_29 : decode b_OR_isBefore 29 = .ok (.iload_n 2, 1) := by decide +kernel
theorem d_OR_isBefore_30 : decode b_OR_isBefore 30 = .ok (.iaload, 1) := by decide +kernel
theorem d_OR_isBefore_31 : decode b_OR_isBefore 31 = .ok (.if_icmp .ge 7, 3) := by decide +kernel
theorem d_OR_isBefore_34 : decode b_OR_isBefore 34 = .ok (.iconst 1, 1) := by decide +kernel
theorem d_OR_isBefore_35 : decode b_OR_isBefore 35 = .ok (.goto 4, 3) := by decide +kernel
theorem d_OR_isBefore_38 : decode b_OR_isBefore 38 = .ok (.iconst 0, 1) := by decide +kernel
theorem d_OR_isBefore_39 : decode b_OR_isBefore 39 = .ok (.ireturn, 1) := by decide +kernel
theorem d_OR_locate_0 : decode b_OR_locate 0 = .ok (.aload_n 0, 1) := by decide +kernel
theorem d_OR_locate_1 : decode b_OR_locate 1 = .ok (.getfield 42, 3) := by decide +kernel
theorem d_OR_locate_4 : decode b_OR_locate 4 = .ok (.istore_n 3, 1) := by decide +kernel
theorem d_OR_locate_5 : decode b_OR_locate 5 = .ok (.aload_n 0, 1) := by decide +kernel
theorem d_OR_locate_6 : decode b_OR_locate 6 = .ok (.getfield 49, 3) := by decide +kernel
theorem d_OR_locate_9 : decode b_OR_locate 9 = .ok (.istore 4, 2) := by decide +kernel
theorem d_OR_locate_11 : decode b_OR_locate 11 = .ok (.iconst 0, 1) := by decide +kernel
theorem d_OR_locate_12 : decode b_OR_locate 12 = .ok (.istore 5, 2) := by decide +kernel
theorem d_OR_locate_14 : decode b_OR_locate 14 = .ok (.iconst 0, 1) := by decide +kernel
theorem d_OR_locate_15 : decode b_OR_locate 15 = .ok (.istore 6, 2) := by decide +kernel
theorem d_OR_locate_17 : decode b_OR_locate 17 = .ok (.iload_n 3, 1) := by decide +kernel
theorem d_OR_locate_18 : decode b_OR_locate 18 = .ok (.iload 4, 2) := by decide +kernel
theorem d_OR_locate_20 : decode b_OR_locate 20 = .ok (.if_icmp .ge 77, 3) := by decide +kernel
theorem d_OR_locate_23 : decode b_OR_locate 23 = .ok (.iload_n 3, 1) := by decide +kernel
theorem d_OR_locate_24 : decode b_OR_locate 24 = .ok (.iload 4, 2) := by decide +kernel
theorem d_OR_locate_26 : decode b_OR_locate 26 = .ok (.iadd, 1) := by decide +kernel
theorem d_OR_locate_27 : decode b_OR_locate 27 = .ok (.iconst 1, 1) := by decide +kernel
theorem d_OR_locate_28 : decode b_OR_locate 28 = .ok (.iushr, 1) := by decide +kernel
theorem d_OR_locate_29 : decode b_OR_locate 29 = .ok (.istore 7, 2) := by decide +kernel
theorem d_OR_locate_31 : decode b_OR_locate 31 = .ok (.aload_n 0, 1) := by decide +kernel
theorem d_OR_locate_32 : decode b_OR_locate 32 = .ok (.getfield 9, 3) := by decide +kernel
theorem d_OR_locate_35 : decode b_OR_locate 35 = .ok (.iload 7, 2) := by decide +kernel
theorem d_OR_locate_37 : decode b_OR_locate 37 = .ok (.iaload, 1) := by decide +kernel
theorem d_OR_locate_38 : decode b_OR_locate 38 = .ok (.istore 8, 2) := by decide +kernel
theorem d_OR_locate_40 : decode b_OR_locate 40 = .ok (.aload_n 0, 1) := by decide +kernel
theorem d_OR_locate_41 : decode b_OR_locate 41 = .ok (.aload_n 1, 1) := by decide +kernel
theorem d_OR_locate_42 : decode b_OR_locate 42 = .ok (.iload_n 2, 1) := by decide +kernel
theorem d_OR_locate_43 : decode b_OR_locate 43 = .ok (.iload 8, 2) := by decide +kernel
theorem d_OR_locate_45 : decode b_OR_locate 45 = .ok (.iload 5, 2) := by decide +kernel
theorem d_OR_locate_47 : decode b_OR_locate 47 = .ok (.iload 6, 2) := by decide +kernel
theorem d_OR_locate_49 : decode b_OR_locate 49 = .ok (.invokestatic 83, 3) := by decide +kernel
theorem d_OR_locate_52 : decode b_OR_locate 52 = .ok (.invokevirtual 86, 3) := by decide +kernel
theorem d_OR_locate_55 : decode b_OR_locate 55 = .ok (.istore 9, 2) := by decide +kernel
theorem d_OR_locate_57 : decode b_OR_locate 57 = .ok (.aload_n 0, 1) := by decide +kernel
theorem d_OR_locate_58 : decode b_OR_locate 58 = .ok (.aload_n 1, 1) := by decide +kernel
theorem d_OR_locate_59 : decode b_OR_locate 59 = .ok (.iload_n 2, 1) := by decide +kernel
theorem d_OR_locate_60 : decode b_OR_locate 60 = .ok (.iload 9, 2) := by decide +kernel
theorem d_OR_locate_62 : decode b_OR_locate 62 = .ok (.iadd, 1) := by decide +kernel
theorem d_OR_locate_63 : decode b_OR_locate 63 = .ok (.iload 8, 2) := by decide +kernel
theorem d_OR_locate_65 : decode b_OR_locate 65 = .ok (.iload 9, 2) := by decide +kernel
theorem d_OR_locate_67 : decode b_OR_locate 67 = .ok (.iadd, 1) := by decide +kernel
theorem d_OR_locate_68 : decode b_OR_locate 68 = .ok (.invokevirtual 90, 3) := by decide +kernel
theorem d_OR_locate_71 : decode b_OR_locate 71 = .ok (.ifCond .eq 15, 3) := by decide +kernel
theorem d_OR_locate_74 : decode b_OR_locate 74 = .ok (.iload 7, 2) := by decide +kernel
theorem d_OR_locate_76 : decode b_OR_locate 76 = .ok (.iconst 1, 1) := by decide +kernel
theorem d_OR_locate_77 : decode b_OR_locate 77 = .ok (.iadd, 1) := by decide +kernel
theorem d_OR_locate_78 : decode b_OR_locate 78 = .ok (.istore_n 3, 1) := by decide +kernel
theorem d_OR_locate_79 : decode b_OR_locate 79 = .ok (.iload 9, 2) := by decide +kernel
theorem d_OR_locate_81 : decode b_OR_locate 81 = .ok (.istore 5, 2) := by decide +kernel
theorem d_OR_locate_83 : decode b_OR_locate 83 = .ok (.goto 11, 3) := by decide +kernel
theorem d_OR_locate_86 : decode b_OR_locate 86 = .ok (.iload 7, 2) := by decide +kernel
theorem d_OR_locate_88 : decode b_OR_locate 88 = .ok (.istore 4, 2) := by decide +kernel
theorem d_OR_locate_90 : decode b_OR_locate 90 = .ok (.iload 9, 2) := by decide +kernel
theorem d_OR_locate_92 : decode b_OR_locate 92 = .ok (.istore 6, 2) := by decide +kernel
theorem d_OR_locate_94 : decode b_OR_locate 94 = .ok (.goto (-77), 3) := by decide +kernel
theorem d_OR_locate_97 : decode b_OR_locate 97 = .ok (.aload_n 0, 1) := by decide +kernel
theorem d_OR_locate_98 : decode b_OR_locate 98 = .ok (.iload_n 3, 1) := by decide +kernel
theorem d_OR_locate_99 : decode b_OR_locate 99 = .ok (.putfield 94, 3) := by decide +kernel
theorem d_OR_locate_102 : decode b_OR_locate 102 = .ok (.aload_n 0, 1) := by decide +kernel
theorem d_OR_locate_103 : decode b_OR_locate 103 = .ok (.iload 5, 2) := by decide +kernel
theorem d_OR_locate_105 : decode b_OR_locate 105 = .ok (.iload 6, 2) := by decide +kernel
theorem d_OR_locate_107 : decode b_OR_locate 107 = .ok (.invokestatic 77, 3) := by decide +kernel
theorem d_OR_locate_110 : decode b_OR_locate 110 = .ok (.putfield 97, 3) := by decide +kernel
theorem d_OR_locate_113 : decode b_OR_locate 113 = .ok (.return_, 1) := by decide +kernel
def vc_OR_measureAlike_63 (z_size : Int32) (z_sorted : Nat → Int32) (z_ranks : Nat → Int32) (z_library_indexed : Int32) (z_library_text : Nat → Int32) (z_library_starts : Nat → Int32) (post : (Nat → Int32) → Prop) (K4 : Int32 → Int32 → (Nat → Int32) → Prop) (x2 : Int32) (k0 : Int32) (z_alikeBefore : Nat → Int32) : Prop :=
  K4 k0 (x2 + 1) z_alikeBefore
def vc_OR_measureAlike_44 (z_size : Int32) (z_sorted : Nat → Int32) (z_ranks : Nat → Int32) (z_library_indexed : Int32) (z_library_text : Nat → Int32) (z_library_starts : Nat → Int32) (post : (Nat → Int32) → Prop) (K4 : Int32 → Int32 → (Nat → Int32) → Prop) (x2 : Int32) (x3 : Int32) (k0 : Int32) (z_alikeBefore : Nat → Int32) : Prop :=
  vp_in x3 16448 ∧ ((k0 ≤ 0 → vc_OR_measureAlike_63 z_size z_sorted z_ranks z_library_indexed z_library_text z_library_starts post K4 x2 0 (upd z_alikeBefore x3.toNatClampNeg k0)) ∧ (¬ (k0 ≤ 0) → vc_OR_measureAlike_63 z_size z_sorted z_ranks z_library_indexed z_library_text z_library_starts post K4 x2 (k0 - 1) (upd z_alikeBefore x3.toNatClampNeg k0)))
def vc_OR_measureAlike_4 (z_size : Int32) (z_sorted : Nat → Int32) (z_ranks : Nat → Int32) (z_library_indexed : Int32) (z_library_text : Nat → Int32) (z_library_starts : Nat → Int32) (post : (Nat → Int32) → Prop) : Nat → Int32 → Int32 → (Nat → Int32) → Prop
  | 0, _, _, _ => False
  | k + 1, x1, x2, z_alikeBefore => ((z_size ≤ x2 → post z_alikeBefore) ∧ (¬ (z_size ≤ x2) → vp_in x2 16448 ∧ ((¬ (z_ranks x2.toNatClampNeg) = 0 → vp_in ((z_ranks x2.toNatClampNeg) - 1) 16448 ∧ vc_LB_alike x2 (z_sorted ((z_ranks x2.toNatClampNeg) - 1).toNatClampNeg) x1 z_library_indexed z_library_text z_library_starts (fun r4 => vc_OR_measureAlike_44 z_size z_sorted z_ranks z_library_indexed z_library_text z_library_starts post (fun x1' x2' z_alikeBefore' => vc_OR_measureAlike_4 z_size z_sorted z_ranks z_library_indexed z_library_text z_library_starts post k x1' x2' z_alikeBefore') x2 (z_ranks x2.toNatClampNeg) r4 z_alikeBefore)) ∧ ((z_ranks x2.toNatClampNeg) = 0 → vc_OR_measureAlike_44 z_size z_sorted z_ranks z_library_indexed z_library_text z_library_starts post (fun x1' x2' z_alikeBefore' => vc_OR_measureAlike_4 z_size z_sorted z_ranks z_library_indexed z_library_text z_library_starts post k x1' x2' z_alikeBefore') x2 (z_ranks x2.toNatClampNeg) 0 z_alikeBefore))))
def vc_OR_measureAlike (z_size : Int32) (z_sorted : Nat → Int32) (z_ranks : Nat → Int32) (z_library_indexed : Int32) (z_library_text : Nat → Int32) (z_library_starts : Nat → Int32) (post : (Nat → Int32) → Prop) (z_alikeBefore : Nat → Int32) : Prop :=
  ∃ j : Nat, vc_OR_measureAlike_4 z_size z_sorted z_ranks z_library_indexed z_library_text z_library_starts post j 0 0 z_alikeBefore
def vc_OR_sumPieces_7 (z_first : Int32) (z_size : Int32) (z_sorted : Nat → Int32) (z_alikeBefore : Nat → Int32) (z_library_owners : Nat → Int32) (z_library_starts : Nat → Int32) (post : (Nat → Int64) → Prop) : Nat → Int64 → Int32 → (Nat → Int64) → Prop
  | 0, _, _, _ => False
  | k + 1, x1, x3, z_piecesUpTo => ((z_size ≤ x3 → post z_piecesUpTo) ∧ (¬ (z_size ≤ x3) → vp_in x3 16448 ∧ vc_LB_lengthFrom (z_sorted x3.toNatClampNeg) z_library_owners z_library_starts (fun r2 => vp_in x3 16448 ∧ vp_in x3 16448 ∧ vc_OR_sumPieces_7 z_first z_size z_sorted z_alikeBefore z_library_owners z_library_starts post k (x1 + ((r2 - (z_alikeBefore x3.toNatClampNeg)).toInt64)) (x3 + 1) (vp_updL z_piecesUpTo x3.toNatClampNeg (x1 + ((r2 - (z_alikeBefore x3.toNatClampNeg)).toInt64))))))
def vc_OR_sumPieces (z_first : Int32) (z_size : Int32) (z_sorted : Nat → Int32) (z_alikeBefore : Nat → Int32) (z_library_owners : Nat → Int32) (z_library_starts : Nat → Int32) (post : (Nat → Int64) → Prop) (z_piecesUpTo : Nat → Int64) : Prop :=
  ∃ j : Nat, vc_OR_sumPieces_7 z_first z_size z_sorted z_alikeBefore z_library_owners z_library_starts post j 0 z_first z_piecesUpTo
def vc_OR_renew (z_library_indexed : Int32) (z_library_text : Nat → Int32) (z_library_owners : Nat → Int32) (z_library_starts : Nat → Int32) (post : Int32 → Int32 → (Nat → Int32) → (Nat → Int32) → (Nat → Int32) → (Nat → Int64) → Int32 → (Nat → Int32) → (Nat → Int32) → (Nat → Int32) → Prop) (z_first : Int32) (z_size : Int32) (z_sorted : Nat → Int32) (z_ranks : Nat → Int32) (z_alikeBefore : Nat → Int32) (z_piecesUpTo : Nat → Int64) (z_sorter_size : Int32) (z_sorter_byTail : Nat → Int32) (z_sorter_newRanks : Nat → Int32) (z_sorter_tally : Nat → Int32) : Prop :=
  vc_LB_indexedText z_library_indexed z_library_starts (fun r1 => ((r1 ≤ 0 → post z_library_indexed r1 z_sorted z_ranks z_alikeBefore z_piecesUpTo z_sorter_size z_sorter_byTail z_sorter_newRanks z_sorter_tally) ∧ (¬ (r1 ≤ 0) → vc_SO_sort r1 16448 16448 16448 z_library_text (fun u3_0 u3_1 u3_2 u3_3 u3_4 u3_5 => vc_OR_measureAlike r1 u3_4 u3_5 z_library_indexed z_library_text z_library_starts (fun u4_0 => vc_OR_sumPieces z_library_indexed r1 u3_4 u4_0 z_library_owners z_library_starts (fun u5_0 => post z_library_indexed r1 u3_4 u3_5 u4_0 u5_0 u3_0 u3_1 u3_2 u3_3) z_piecesUpTo) z_alikeBefore) z_sorter_size z_sorter_byTail z_sorter_newRanks z_sorter_tally z_sorted z_ranks)))
def vc_OR_differentPieces (z_size : Int32) (z_piecesUpTo : Nat → Int64) (post : Int64 → Prop) : Prop :=
  ((¬ z_size = 0 → vp_in (z_size - 1) 16448 ∧ post (z_piecesUpTo (z_size - 1).toNatClampNeg)) ∧ (z_size = 0 → post 0))
def vc_OR_rankOfPiece_51 (a_p1 : Int64) (z_first : Int32) (z_size : Int32) (z_piecesUpTo : Nat → Int64) (post : Int32 → Prop) (K13 : Int32 → Int32 → Prop) (x3 : Int32) (x4 : Int32) : Prop :=
  K13 x3 x4
def vc_OR_rankOfPiece_13 (a_p1 : Int64) (z_first : Int32) (z_size : Int32) (z_piecesUpTo : Nat → Int64) (post : Int32 → Prop) : Nat → Int32 → Int32 → Prop
  | 0, _, _ => False
  | k + 1, x3, x4 => ((x4 ≤ x3 → post x3) ∧ (¬ (x4 ≤ x3) → vp_in (((x3 + x4).toUInt32 >>> ((1 : Int32).toUInt32 &&& Int32.toUInt32 31)).toInt32) 16448 ∧ (((lg_cmp (z_piecesUpTo (((x3 + x4).toUInt32 >>> ((1 : Int32).toUInt32 &&& Int32.toUInt32 31)).toInt32).toNatClampNeg) a_p1) ≤ 0 → vc_OR_rankOfPiece_51 a_p1 z_first z_size z_piecesUpTo post (fun x3' x4' => vc_OR_rankOfPiece_13 a_p1 z_first z_size z_piecesUpTo post k x3' x4') ((((x3 + x4).toUInt32 >>> ((1 : Int32).toUInt32 &&& Int32.toUInt32 31)).toInt32) + 1) x4) ∧ (¬ ((lg_cmp (z_piecesUpTo (((x3 + x4).toUInt32 >>> ((1 : Int32).toUInt32 &&& Int32.toUInt32 31)).toInt32).toNatClampNeg) a_p1) ≤ 0) → vc_OR_rankOfPiece_51 a_p1 z_first z_size z_piecesUpTo post (fun x3' x4' => vc_OR_rankOfPiece_13 a_p1 z_first z_size z_piecesUpTo post k x3' x4') x3 (((x3 + x4).toUInt32 >>> ((1 : Int32).toUInt32 &&& Int32.toUInt32 31)).toInt32)))))
def vc_OR_rankOfPiece (a_p1 : Int64) (z_first : Int32) (z_size : Int32) (z_piecesUpTo : Nat → Int64) (post : Int32 → Prop) : Prop :=
  ∃ j : Nat, vc_OR_rankOfPiece_13 a_p1 z_first z_size z_piecesUpTo post j z_first (z_size - 1)
def vc_OR_lengthOfPiece (a_p1 : Int64) (z_first : Int32) (z_size : Int32) (z_sorted : Nat → Int32) (z_piecesUpTo : Nat → Int64) (z_library_owners : Nat → Int32) (z_library_starts : Nat → Int32) (post : Int32 → Prop) : Prop :=
  vc_OR_rankOfPiece a_p1 z_first z_size z_piecesUpTo (fun r1 => vp_in r1 16448 ∧ vp_in r1 16448 ∧ vc_LB_lengthFrom (z_sorted r1.toNatClampNeg) z_library_owners z_library_starts (fun r2 => post ((r2.toInt64 - (((z_piecesUpTo r1.toNatClampNeg) - 1) - a_p1)).toInt32)))
def vc_OR_singleLength_29 (a_p1 : Int32) (z_size : Int32) (z_ranks : Nat → Int32) (z_alikeBefore : Nat → Int32) (post : Int32 → Prop) (x2 : Int32) (k0 : Int32) : Prop :=
  vp_in x2 16448 ∧ post ((if (z_alikeBefore x2.toNatClampNeg) < k0 then k0 else (z_alikeBefore x2.toNatClampNeg)) + 1)
def vc_OR_singleLength (a_p1 : Int32) (z_size : Int32) (z_ranks : Nat → Int32) (z_alikeBefore : Nat → Int32) (post : Int32 → Prop) : Prop :=
  vp_in a_p1 16448 ∧ ((z_size ≤ ((z_ranks a_p1.toNatClampNeg) + 1) → vc_OR_singleLength_29 a_p1 z_size z_ranks z_alikeBefore post (z_ranks a_p1.toNatClampNeg) 0) ∧ (¬ (z_size ≤ ((z_ranks a_p1.toNatClampNeg) + 1)) → vp_in ((z_ranks a_p1.toNatClampNeg) + 1) 16448 ∧ vc_OR_singleLength_29 a_p1 z_size z_ranks z_alikeBefore post (z_ranks a_p1.toNatClampNeg) (z_alikeBefore ((z_ranks a_p1.toNatClampNeg) + 1).toNatClampNeg)))
def vc_OR_alikeWith_21 (a_p2 : Int32) (a_p3 : Int32) (a_p4 : Int32) (n_p1_bytes : Nat) (z_size : Int32) (z_library_text : Nat → Int32) (z_p1_length : Int32) (z_p1_bytes : Nat → Int32) (post : Int32 → Prop) : Nat → Int32 → Int32 → Prop
  | 0, _, _ => False
  | k + 1, x5, x6 => ((x5 ≤ x6 → post x6) ∧ (¬ (x5 ≤ x6) → vp_in (a_p2 + x6) n_p1_bytes ∧ vp_in (a_p3 + x6) 16448 ∧ ((¬ (z_p1_bytes (a_p2 + x6).toNatClampNeg) = (z_library_text (a_p3 + x6).toNatClampNeg) → post x6) ∧ ((z_p1_bytes (a_p2 + x6).toNatClampNeg) = (z_library_text (a_p3 + x6).toNatClampNeg) → vc_OR_alikeWith_21 a_p2 a_p3 a_p4 n_p1_bytes z_size z_library_text z_p1_length z_p1_bytes post k x5 (x6 + 1)))))
def vc_OR_alikeWith (a_p2 : Int32) (a_p3 : Int32) (a_p4 : Int32) (n_p1_bytes : Nat) (z_size : Int32) (z_library_text : Nat → Int32) (z_p1_length : Int32) (z_p1_bytes : Nat → Int32) (post : Int32 → Prop) : Prop :=
  ∃ j : Nat, vc_OR_alikeWith_21 a_p2 a_p3 a_p4 n_p1_bytes z_size z_library_text z_p1_length z_p1_bytes post j (if (z_size - a_p3) < (z_p1_length - a_p2) then (z_size - a_p3) else (z_p1_length - a_p2)) a_p4
def vc_OR_isBefore (a_p2 : Int32) (a_p3 : Int32) (n_p1_bytes : Nat) (z_size : Int32) (z_library_text : Nat → Int32) (z_p1_length : Int32) (z_p1_bytes : Nat → Int32) (post : Int32 → Prop) : Prop :=
  ((z_p1_length ≤ a_p2 → post 0) ∧ (¬ (z_p1_length ≤ a_p2) → ((z_size ≤ a_p3 → post 0) ∧ (¬ (z_size ≤ a_p3) → vp_in a_p3 16448 ∧ vp_in a_p2 n_p1_bytes ∧ (((z_p1_bytes a_p2.toNatClampNeg) ≤ (z_library_text a_p3.toNatClampNeg) → post 0) ∧ (¬ ((z_p1_bytes a_p2.toNatClampNeg) ≤ (z_library_text a_p3.toNatClampNeg)) → post 1))))))
def vc_OR_locate_94 (a_p2 : Int32) (n_p1_bytes : Nat) (z_first : Int32) (z_size : Int32) (z_sorted : Nat → Int32) (z_library_text : Nat → Int32) (z_p1_length : Int32) (z_p1_bytes : Nat → Int32) (post : Int32 → Int32 → Prop) (K17 : Int32 → Int32 → Int32 → Int32 → Int32 → Int32 → Prop) (x3 : Int32) (x4 : Int32) (x5 : Int32) (x6 : Int32) (z_locatedRank : Int32) (z_locatedLength : Int32) : Prop :=
  K17 x3 x4 x5 x6 z_locatedRank z_locatedLength
def vc_OR_locate_17 (a_p2 : Int32) (n_p1_bytes : Nat) (z_first : Int32) (z_size : Int32) (z_sorted : Nat → Int32) (z_library_text : Nat → Int32) (z_p1_length : Int32) (z_p1_bytes : Nat → Int32) (post : Int32 → Int32 → Prop) : Nat → Int32 → Int32 → Int32 → Int32 → Int32 → Int32 → Prop
  | 0, _, _, _, _, _, _ => False
  | k + 1, x3, x4, x5, x6, z_locatedRank, z_locatedLength => ((x4 ≤ x3 → post x3 (if x5 < x6 then x6 else x5)) ∧ (¬ (x4 ≤ x3) → vp_in (((x3 + x4).toUInt32 >>> ((1 : Int32).toUInt32 &&& Int32.toUInt32 31)).toInt32) 16448 ∧ vc_OR_alikeWith a_p2 (z_sorted (((x3 + x4).toUInt32 >>> ((1 : Int32).toUInt32 &&& Int32.toUInt32 31)).toInt32).toNatClampNeg) (if x6 < x5 then x6 else x5) n_p1_bytes z_size z_library_text z_p1_length z_p1_bytes (fun r2 => vc_OR_isBefore (a_p2 + r2) ((z_sorted (((x3 + x4).toUInt32 >>> ((1 : Int32).toUInt32 &&& Int32.toUInt32 31)).toInt32).toNatClampNeg) + r2) n_p1_bytes z_size z_library_text z_p1_length z_p1_bytes (fun r3 => ((r3 = 0 → vc_OR_locate_94 a_p2 n_p1_bytes z_first z_size z_sorted z_library_text z_p1_length z_p1_bytes post (fun x3' x4' x5' x6' z_locatedRank' z_locatedLength' => vc_OR_locate_17 a_p2 n_p1_bytes z_first z_size z_sorted z_library_text z_p1_length z_p1_bytes post k x3' x4' x5' x6' z_locatedRank' z_locatedLength') x3 (((x3 + x4).toUInt32 >>> ((1 : Int32).toUInt32 &&& Int32.toUInt32 31)).toInt32) x5 r2 z_locatedRank z_locatedLength) ∧ (¬ (r3 = 0) → vc_OR_locate_94 a_p2 n_p1_bytes z_first z_size z_sorted z_library_text z_p1_length z_p1_bytes post (fun x3' x4' x5' x6' z_locatedRank' z_locatedLength' => vc_OR_locate_17 a_p2 n_p1_bytes z_first z_size z_sorted z_library_text z_p1_length z_p1_bytes post k x3' x4' x5' x6' z_locatedRank' z_locatedLength') ((((x3 + x4).toUInt32 >>> ((1 : Int32).toUInt32 &&& Int32.toUInt32 31)).toInt32) + 1) x4 r2 x6 z_locatedRank z_locatedLength))))))
def vc_OR_locate (a_p2 : Int32) (n_p1_bytes : Nat) (z_first : Int32) (z_size : Int32) (z_sorted : Nat → Int32) (z_library_text : Nat → Int32) (z_p1_length : Int32) (z_p1_bytes : Nat → Int32) (post : Int32 → Int32 → Prop) (z_locatedRank : Int32) (z_locatedLength : Int32) : Prop :=
  ∃ j : Nat, vc_OR_locate_17 a_p2 n_p1_bytes z_first z_size z_sorted z_library_text z_p1_length z_p1_bytes post j z_first z_size 0 0 z_locatedRank z_locatedLength
set_option maxHeartbeats 4000000 in
set_option maxRecDepth 100000 in
theorem wk_OR_measureAlike_63 {p : Program} {l : Launch} {e : Env} {s : State} {m : MethodId} {below : List Frame} {meth : Method} {c : Code} {A : Nat → Prop} {dC : Nat → ClassId} {dI : Nat → Nat → Nat} {cI cJ cB cZ : ClassId} {h_t : Nat} {h_sorted : Nat} {h_ranks : Nat} {h_alikeBefore : Nat} {h_piecesUpTo : Nat} {h_sorter : Nat} {h_library : Nat} {h_library_text : Nat} {h_library_owners : Nat} {h_library_starts : Nat} {z_size : Int32} {z_sorted : Nat → Int32} {z_ranks : Nat → Int32} {z_library_indexed : Int32} {z_library_text : Nat → Int32} {z_library_starts : Nat → Int32} {z_first : Int32} {z_locatedRank : Int32} {z_locatedLength : Int32} {z_library_documents : Int32} {post : (Nat → Int32) → Prop} {K4 : Int32 → Int32 → (Nat → Int32) → Prop} (F : CallFix p m c b_OR_measureAlike 4 s ([.ref h_t] : List Value).toArray WT "SuffixIndex$SuffixOrder") (hr : meth.sig.returnType = none) (hlk : meth.locks = false) (hK : va_K (dC, dI) classes (TYS cI cJ cB cZ) s) (hA : ∀ q, s.heap.size ≤ q → A q) (hK4 : ∀ (x1 : Int32) (x2 : Int32) (z_alikeBefore : Nat → Int32), K4 x1 x2 z_alikeBefore → ∀ (H : Heap) (locs : List Loc) (ls : Array Slot), va_P (dC, dI) classes [(h_t, .inr (3, [.ref h_sorted, .ref h_ranks, .ref h_alikeBefore, .ref h_piecesUpTo, .ref h_sorter, .ref h_library, .int z_first, .int z_size, .int z_locatedRank, .int z_locatedLength])), (h_sorted, .inl (cI, 16448, .inl z_sorted)), (h_ranks, .inl (cI, 16448, .inl z_ranks)), (h_alikeBefore, .inl (cI, 16448, .inl z_alikeBefore)), (h_library, .inr (1, [.ref h_library_text, .ref h_library_owners, .ref h_library_starts, .int z_library_documents, .int z_library_indexed])), (h_library_text, .inl (cI, 16448, .inl z_library_text)), (h_library_starts, .inl (cI, 65, .inl z_library_starts))] H → va_D A [(h_t, .inr (3, [.ref h_sorted, .ref h_ranks, .ref h_alikeBefore, .ref h_piecesUpTo, .ref h_sorter, .ref h_library, .int z_first, .int z_size, .int z_locatedRank, .int z_locatedLength])), (h_sorted, .inl (cI, 16448, .inl z_sorted)), (h_ranks, .inl (cI, 16448, .inl z_ranks)), (h_alikeBefore, .inl (cI, 16448, .inl z_alikeBefore)), (h_library, .inr (1, [.ref h_library_text, .ref h_library_owners, .ref h_library_starts, .int z_library_documents, .int z_library_indexed])), (h_library_text, .inl (cI, 16448, .inl z_library_text)), (h_library_starts, .inl (cI, 65, .inl z_library_starts))] → va_S A s.heap H locs → lv_has ls 4 [(0, .ref h_t), (1, .int x1), (2, .int x2)] → W p l e rm_OR_measureAlike s m ([.ref h_t] : List Value).toArray below meth c H locs 0 0 (MQ below (va_Qv (fun u : (Nat → Int32) => post u) (fun u t => cAft (dC, dI) classes (TYS cI cJ cB cZ) A [(h_t, .inr (3, [.ref h_sorted, .ref h_ranks, .ref h_alikeBefore, .ref h_piecesUpTo, .ref h_sorter, .ref h_library, .int z_first, .int z_size, .int z_locatedRank, .int z_locatedLength])), (h_sorted, .inl (cI, 16448, .inl z_sorted)), (h_ranks, .inl (cI, 16448, .inl z_ranks)), (h_alikeBefore, .inl (cI, 16448, .inl u)), (h_library, .inr (1, [.ref h_library_text, .ref h_library_owners, .ref h_library_starts, .int z_library_documents, .int z_library_indexed])), (h_library_text, .inl (cI, 16448, .inl z_library_text)), (h_library_starts, .inl (cI, 65, .inl z_library_starts))] t) A) ([.ref h_t] : List Value).toArray s 0 0 A) (F0 m 4 ls [])) : ∀ (x2 : Int32) (k0 : Int32) (z_alikeBefore : Nat → Int32), vc_OR_measureAlike_63 z_size z_sorted z_ranks z_library_indexed z_library_text z_library_starts post K4 x2 k0 z_alikeBefore → ∀ (H : Heap) (locs : List Loc) (ls : Array Slot), va_P (dC, dI) classes [(h_t, .inr (3, [.ref h_sorted, .ref h_ranks, .ref h_alikeBefore, .ref h_piecesUpTo, .ref h_sorter, .ref h_library, .int z_first, .int z_size, .int z_locatedRank, .int z_locatedLength])), (h_sorted, .inl (cI, 16448, .inl z_sorted)), (h_ranks, .inl (cI, 16448, .inl z_ranks)), (h_alikeBefore, .inl (cI, 16448, .inl z_alikeBefore)), (h_library, .inr (1, [.ref h_library_text, .ref h_library_owners, .ref h_library_starts, .int z_library_documents, .int z_library_indexed])), (h_library_text, .inl (cI, 16448, .inl z_library_text)), (h_library_starts, .inl (cI, 65, .inl z_library_starts))] H → va_D A [(h_t, .inr (3, [.ref h_sorted, .ref h_ranks, .ref h_alikeBefore, .ref h_piecesUpTo, .ref h_sorter, .ref h_library, .int z_first, .int z_size, .int z_locatedRank, .int z_locatedLength])), (h_sorted, .inl (cI, 16448, .inl z_sorted)), (h_ranks, .inl (cI, 16448, .inl z_ranks)), (h_alikeBefore, .inl (cI, 16448, .inl z_alikeBefore)), (h_library, .inr (1, [.ref h_library_text, .ref h_library_owners, .ref h_library_starts, .int z_library_documents, .int z_library_indexed])), (h_library_text, .inl (cI, 16448, .inl z_library_text)), (h_library_starts, .inl (cI, 65, .inl z_library_starts))] → va_S A s.heap H locs → lv_has ls 4 [(0, .ref h_t), (2, .int x2)] → W p l e rm_OR_measureAlike s m ([.ref h_t] : List Value).toArray below meth c H locs 0 0 (MQ below (va_Qv (fun u : (Nat → Int32) => post u) (fun u t => cAft (dC, dI) classes (TYS cI cJ cB cZ) A [(h_t, .inr (3, [.ref h_sorted, .ref h_ranks, .ref h_alikeBefore, .ref h_piecesUpTo, .ref h_sorter, .ref h_library, .int z_first, .int z_size, .int z_locatedRank, .int z_locatedLength])), (h_sorted, .inl (cI, 16448, .inl z_sorted)), (h_ranks, .inl (cI, 16448, .inl z_ranks)), (h_alikeBefore, .inl (cI, 16448, .inl u)), (h_library, .inr (1, [.ref h_library_text, .ref h_library_owners, .ref h_library_starts, .int z_library_documents, .int z_library_indexed])), (h_library_text, .inl (cI, 16448, .inl z_library_text)), (h_library_starts, .inl (cI, 65, .inl z_library_starts))] t) A) ([.ref h_t] : List Value).toArray s 0 0 A) (F0 m 63 ls [.int k0]) := by
  obtain ⟨hx, hb, hml, hown, hw⟩ := id F
  intro x2 k0 z_alikeBefore hv H locs ls hP hD hS hl
  refine lv_istore_n (lv' := [(1, .int k0), (0, .ref h_t), (2, .int x2)]) hx hb d_OR_measureAlike_63 rfl hl (by decide) rfl (fun ls hl => ?_)
  refine lv_iinc (v := x2 + 1) (lv' := [(2, .int (x2 + 1)), (1, .int k0), (0, .ref h_t)]) hx hb d_OR_measureAlike_64 hl (k := 2) rfl (iinc_v (by decide)) (by decide) rfl (fun ls hl => ?_)
  refine lv_goto (tgt := 4) hx hb d_OR_measureAlike_67 (by decide) ?_
  exact hK4 k0 (x2 + 1) z_alikeBefore hv _ _ _ hP hD hS (lv_sub hl [2, 1, 0] rfl)

set_option maxHeartbeats 4000000 in
set_option maxRecDepth 100000 in
theorem wk_OR_measureAlike_44 {p : Program} {l : Launch} {e : Env} {s : State} {m : MethodId} {below : List Frame} {meth : Method} {c : Code} {A : Nat → Prop} {dC : Nat → ClassId} {dI : Nat → Nat → Nat} {cI cJ cB cZ : ClassId} {h_t : Nat} {h_sorted : Nat} {h_ranks : Nat} {h_alikeBefore : Nat} {h_piecesUpTo : Nat} {h_sorter : Nat} {h_library : Nat} {h_library_text : Nat} {h_library_owners : Nat} {h_library_starts : Nat} {z_size : Int32} {z_sorted : Nat → Int32} {z_ranks : Nat → Int32} {z_library_indexed : Int32} {z_library_text : Nat → Int32} {z_library_starts : Nat → Int32} {z_first : Int32} {z_locatedRank : Int32} {z_locatedLength : Int32} {z_library_documents : Int32} {post : (Nat → Int32) → Prop} {K4 : Int32 → Int32 → (Nat → Int32) → Prop} (F : CallFix p m c b_OR_measureAlike 4 s ([.ref h_t] : List Value).toArray WT "SuffixIndex$SuffixOrder") (hr : meth.sig.returnType = none) (hlk : meth.locks = false) (hK : va_K (dC, dI) classes (TYS cI cJ cB cZ) s) (hA : ∀ q, s.heap.size ≤ q → A q) (hK4 : ∀ (x1 : Int32) (x2 : Int32) (z_alikeBefore : Nat → Int32), K4 x1 x2 z_alikeBefore → ∀ (H : Heap) (locs : List Loc) (ls : Array Slot), va_P (dC, dI) classes [(h_t, .inr (3, [.ref h_sorted, .ref h_ranks, .ref h_alikeBefore, .ref h_piecesUpTo, .ref h_sorter, .ref h_library, .int z_first, .int z_size, .int z_locatedRank, .int z_locatedLength])), (h_sorted, .inl (cI, 16448, .inl z_sorted)), (h_ranks, .inl (cI, 16448, .inl z_ranks)), (h_alikeBefore, .inl (cI, 16448, .inl z_alikeBefore)), (h_library, .inr (1, [.ref h_library_text, .ref h_library_owners, .ref h_library_starts, .int z_library_documents, .int z_library_indexed])), (h_library_text, .inl (cI, 16448, .inl z_library_text)), (h_library_starts, .inl (cI, 65, .inl z_library_starts))] H → va_D A [(h_t, .inr (3, [.ref h_sorted, .ref h_ranks, .ref h_alikeBefore, .ref h_piecesUpTo, .ref h_sorter, .ref h_library, .int z_first, .int z_size, .int z_locatedRank, .int z_locatedLength])), (h_sorted, .inl (cI, 16448, .inl z_sorted)), (h_ranks, .inl (cI, 16448, .inl z_ranks)), (h_alikeBefore, .inl (cI, 16448, .inl z_alikeBefore)), (h_library, .inr (1, [.ref h_library_text, .ref h_library_owners, .ref h_library_starts, .int z_library_documents, .int z_library_indexed])), (h_library_text, .inl (cI, 16448, .inl z_library_text)), (h_library_starts, .inl (cI, 65, .inl z_library_starts))] → va_S A s.heap H locs → lv_has ls 4 [(0, .ref h_t), (1, .int x1), (2, .int x2)] → W p l e rm_OR_measureAlike s m ([.ref h_t] : List Value).toArray below meth c H locs 0 0 (MQ below (va_Qv (fun u : (Nat → Int32) => post u) (fun u t => cAft (dC, dI) classes (TYS cI cJ cB cZ) A [(h_t, .inr (3, [.ref h_sorted, .ref h_ranks, .ref h_alikeBefore, .ref h_piecesUpTo, .ref h_sorter, .ref h_library, .int z_first, .int z_size, .int z_locatedRank, .int z_locatedLength])), (h_sorted, .inl (cI, 16448, .inl z_sorted)), (h_ranks, .inl (cI, 16448, .inl z_ranks)), (h_alikeBefore, .inl (cI, 16448, .inl u)), (h_library, .inr (1, [.ref h_library_text, .ref h_library_owners, .ref h_library_starts, .int z_library_documents, .int z_library_indexed])), (h_library_text, .inl (cI, 16448, .inl z_library_text)), (h_library_starts, .inl (cI, 65, .inl z_library_starts))] t) A) ([.ref h_t] : List Value).toArray s 0 0 A) (F0 m 4 ls [])) : ∀ (x2 : Int32) (x3 : Int32) (k0 : Int32) (z_alikeBefore : Nat → Int32), vc_OR_measureAlike_44 z_size z_sorted z_ranks z_library_indexed z_library_text z_library_starts post K4 x2 x3 k0 z_alikeBefore → ∀ (H : Heap) (locs : List Loc) (ls : Array Slot), va_P (dC, dI) classes [(h_t, .inr (3, [.ref h_sorted, .ref h_ranks, .ref h_alikeBefore, .ref h_piecesUpTo, .ref h_sorter, .ref h_library, .int z_first, .int z_size, .int z_locatedRank, .int z_locatedLength])), (h_sorted, .inl (cI, 16448, .inl z_sorted)), (h_ranks, .inl (cI, 16448, .inl z_ranks)), (h_alikeBefore, .inl (cI, 16448, .inl z_alikeBefore)), (h_library, .inr (1, [.ref h_library_text, .ref h_library_owners, .ref h_library_starts, .int z_library_documents, .int z_library_indexed])), (h_library_text, .inl (cI, 16448, .inl z_library_text)), (h_library_starts, .inl (cI, 65, .inl z_library_starts))] H → va_D A [(h_t, .inr (3, [.ref h_sorted, .ref h_ranks, .ref h_alikeBefore, .ref h_piecesUpTo, .ref h_sorter, .ref h_library, .int z_first, .int z_size, .int z_locatedRank, .int z_locatedLength])), (h_sorted, .inl (cI, 16448, .inl z_sorted)), (h_ranks, .inl (cI, 16448, .inl z_ranks)), (h_alikeBefore, .inl (cI, 16448, .inl z_alikeBefore)), (h_library, .inr (1, [.ref h_library_text, .ref h_library_owners, .ref h_library_starts, .int z_library_documents, .int z_library_indexed])), (h_library_text, .inl (cI, 16448, .inl z_library_text)), (h_library_starts, .inl (cI, 65, .inl z_library_starts))] → va_S A s.heap H locs → lv_has ls 4 [(0, .ref h_t), (2, .int x2), (3, .int x3)] → W p l e rm_OR_measureAlike s m ([.ref h_t] : List Value).toArray below meth c H locs 0 0 (MQ below (va_Qv (fun u : (Nat → Int32) => post u) (fun u t => cAft (dC, dI) classes (TYS cI cJ cB cZ) A [(h_t, .inr (3, [.ref h_sorted, .ref h_ranks, .ref h_alikeBefore, .ref h_piecesUpTo, .ref h_sorter, .ref h_library, .int z_first, .int z_size, .int z_locatedRank, .int z_locatedLength])), (h_sorted, .inl (cI, 16448, .inl z_sorted)), (h_ranks, .inl (cI, 16448, .inl z_ranks)), (h_alikeBefore, .inl (cI, 16448, .inl u)), (h_library, .inr (1, [.ref h_library_text, .ref h_library_owners, .ref h_library_starts, .int z_library_documents, .int z_library_indexed])), (h_library_text, .inl (cI, 16448, .inl z_library_text)), (h_library_starts, .inl (cI, 65, .inl z_library_starts))] t) A) ([.ref h_t] : List Value).toArray s 0 0 A) (F0 m 44 ls [.int k0]) := by
  obtain ⟨hx, hb, hml, hown, hw⟩ := id F
  intro x2 x3 k0 z_alikeBefore hv H locs ls hP hD hS hl
  refine lv_istore_n (lv' := [(1, .int k0), (0, .ref h_t), (2, .int x2), (3, .int x3)]) hx hb d_OR_measureAlike_44 rfl hl (by decide) rfl (fun ls hl => ?_)
  refine lv_aload_n hx hb d_OR_measureAlike_45 rfl (lv_at hl 1 rfl) ?_
  refine va_get (D := (dC, dI)) (ci := 3) (v := .ref h_alikeBefore) (C := "SuffixIndex$SuffixOrder") (T := F_OR) (N := 10) hx hb hw i_OR hown hK hP 0 rfl rfl 2 (by decide) (hw _ m_126) (fun _ h9 => h9) rfl d_OR_measureAlike_46 ?_
  refine lv_iload_n hx hb d_OR_measureAlike_49 rfl (lv_at hl 3 rfl) ?_
  refine lv_iload_n hx hb d_OR_measureAlike_50 rfl (lv_at hl 0 rfl) ?_
  obtain ⟨hin, hv⟩ := hv
  refine va_iast hx hb hK hP hD hS 3 0 rfl rfl hin d_OR_measureAlike_51 (fun H locs hP hD hS => ?_)
  have hP : va_P (dC, dI) classes [(h_t, .inr (3, [.ref h_sorted, .ref h_ranks, .ref h_alikeBefore, .ref h_piecesUpTo, .ref h_sorter, .ref h_library, .int z_first, .int z_size, .int z_locatedRank, .int z_locatedLength])), (h_sorted, .inl (cI, 16448, .inl z_sorted)), (h_ranks, .inl (cI, 16448, .inl z_ranks)), (h_alikeBefore, .inl (cI, 16448, .inl (upd z_alikeBefore x3.toNatClampNeg k0))), (h_library, .inr (1, [.ref h_library_text, .ref h_library_owners, .ref h_library_starts, .int z_library_documents, .int z_library_indexed])), (h_library_text, .inl (cI, 16448, .inl z_library_text)), (h_library_starts, .inl (cI, 65, .inl z_library_starts))] H := hP
  have hD : va_D A [(h_t, .inr (3, [.ref h_sorted, .ref h_ranks, .ref h_alikeBefore, .ref h_piecesUpTo, .ref h_sorter, .ref h_library, .int z_first, .int z_size, .int z_locatedRank, .int z_locatedLength])), (h_sorted, .inl (cI, 16448, .inl z_sorted)), (h_ranks, .inl (cI, 16448, .inl z_ranks)), (h_alikeBefore, .inl (cI, 16448, .inl (upd z_alikeBefore x3.toNatClampNeg k0))), (h_library, .inr (1, [.ref h_library_text, .ref h_library_owners, .ref h_library_starts, .int z_library_documents, .int z_library_indexed])), (h_library_text, .inl (cI, 16448, .inl z_library_text)), (h_library_starts, .inl (cI, 65, .inl z_library_starts))] := hD
  refine lv_iload_n hx hb d_OR_measureAlike_52 rfl (lv_at hl 0 rfl) ?_
  obtain ⟨hvt, hvf⟩ := hv
  refine lv_if_le (tgt := 62) hx hb d_OR_measureAlike_53 (by decide) (fun c1 => ?_) (fun c1 => ?_)
  · have hv := hvt c1
    refine lv_iconst (v := 0) hx hb d_OR_measureAlike_62 (by decide) ?_
    exact wk_OR_measureAlike_63 F hr hlk hK hA hK4 x2 0 (upd z_alikeBefore x3.toNatClampNeg k0) hv _ _ _ hP hD hS (lv_sub hl [1, 2] rfl)
  · have hv := hvf c1
    refine lv_iload_n hx hb d_OR_measureAlike_56 rfl (lv_at hl 0 rfl) ?_
    refine lv_iconst (v := 1) hx hb d_OR_measureAlike_57 (by decide) ?_
    refine lv_isub hx hb d_OR_measureAlike_58 ?_
    refine lv_goto (tgt := 63) hx hb d_OR_measureAlike_59 (by decide) ?_
    exact wk_OR_measureAlike_63 F hr hlk hK hA hK4 x2 (k0 - 1) (upd z_alikeBefore x3.toNatClampNeg k0) hv _ _ _ hP hD hS (lv_sub hl [1, 2] rfl)

set_option maxHeartbeats 4000000 in
set_option maxRecDepth 100000 in
theorem wk_OR_measureAlike_4 {p : Program} {l : Launch} {e : Env} {s : State} {m : MethodId} {below : List Frame} {meth : Method} {c : Code} {A : Nat → Prop} {dC : Nat → ClassId} {dI : Nat → Nat → Nat} {cI cJ cB cZ : ClassId} {h_t : Nat} {h_sorted : Nat} {h_ranks : Nat} {h_alikeBefore : Nat} {h_piecesUpTo : Nat} {h_sorter : Nat} {h_library : Nat} {h_library_text : Nat} {h_library_owners : Nat} {h_library_starts : Nat} {z_size : Int32} {z_sorted : Nat → Int32} {z_ranks : Nat → Int32} {z_library_indexed : Int32} {z_library_text : Nat → Int32} {z_library_starts : Nat → Int32} {z_first : Int32} {z_locatedRank : Int32} {z_locatedLength : Int32} {z_library_documents : Int32} {post : (Nat → Int32) → Prop} (F : CallFix p m c b_OR_measureAlike 4 s ([.ref h_t] : List Value).toArray WT "SuffixIndex$SuffixOrder") (hr : meth.sig.returnType = none) (hlk : meth.locks = false) (hK : va_K (dC, dI) classes (TYS cI cJ cB cZ) s) (hA : ∀ q, s.heap.size ≤ q → A q) : ∀ (k : Nat) (x1 : Int32) (x2 : Int32) (z_alikeBefore : Nat → Int32), vc_OR_measureAlike_4 z_size z_sorted z_ranks z_library_indexed z_library_text z_library_starts post k x1 x2 z_alikeBefore → ∀ (H : Heap) (locs : List Loc) (ls : Array Slot), va_P (dC, dI) classes [(h_t, .inr (3, [.ref h_sorted, .ref h_ranks, .ref h_alikeBefore, .ref h_piecesUpTo, .ref h_sorter, .ref h_library, .int z_first, .int z_size, .int z_locatedRank, .int z_locatedLength])), (h_sorted, .inl (cI, 16448, .inl z_sorted)), (h_ranks, .inl (cI, 16448, .inl z_ranks)), (h_alikeBefore, .inl (cI, 16448, .inl z_alikeBefore)), (h_library, .inr (1, [.ref h_library_text, .ref h_library_owners, .ref h_library_starts, .int z_library_documents, .int z_library_indexed])), (h_library_text, .inl (cI, 16448, .inl z_library_text)), (h_library_starts, .inl (cI, 65, .inl z_library_starts))] H → va_D A [(h_t, .inr (3, [.ref h_sorted, .ref h_ranks, .ref h_alikeBefore, .ref h_piecesUpTo, .ref h_sorter, .ref h_library, .int z_first, .int z_size, .int z_locatedRank, .int z_locatedLength])), (h_sorted, .inl (cI, 16448, .inl z_sorted)), (h_ranks, .inl (cI, 16448, .inl z_ranks)), (h_alikeBefore, .inl (cI, 16448, .inl z_alikeBefore)), (h_library, .inr (1, [.ref h_library_text, .ref h_library_owners, .ref h_library_starts, .int z_library_documents, .int z_library_indexed])), (h_library_text, .inl (cI, 16448, .inl z_library_text)), (h_library_starts, .inl (cI, 65, .inl z_library_starts))] → va_S A s.heap H locs → lv_has ls 4 [(0, .ref h_t), (1, .int x1), (2, .int x2)] → W p l e rm_OR_measureAlike s m ([.ref h_t] : List Value).toArray below meth c H locs 0 0 (MQ below (va_Qv (fun u : (Nat → Int32) => post u) (fun u t => cAft (dC, dI) classes (TYS cI cJ cB cZ) A [(h_t, .inr (3, [.ref h_sorted, .ref h_ranks, .ref h_alikeBefore, .ref h_piecesUpTo, .ref h_sorter, .ref h_library, .int z_first, .int z_size, .int z_locatedRank, .int z_locatedLength])), (h_sorted, .inl (cI, 16448, .inl z_sorted)), (h_ranks, .inl (cI, 16448, .inl z_ranks)), (h_alikeBefore, .inl (cI, 16448, .inl u)), (h_library, .inr (1, [.ref h_library_text, .ref h_library_owners, .ref h_library_starts, .int z_library_documents, .int z_library_indexed])), (h_library_text, .inl (cI, 16448, .inl z_library_text)), (h_library_starts, .inl (cI, 65, .inl z_library_starts))] t) A) ([.ref h_t] : List Value).toArray s 0 0 A) (F0 m 4 ls []) := by
  obtain ⟨hx, hb, hml, hown, hw⟩ := id F
  intro k
  induction k with
  | zero =>
    intro x1 x2 z_alikeBefore hv
    exact False.elim hv
  | succ k ih =>
    intro x1 x2 z_alikeBefore hv H locs ls hP hD hS hl
    refine lv_iload_n hx hb d_OR_measureAlike_4 rfl (lv_at hl 2 rfl) ?_
    refine lv_aload_n hx hb d_OR_measureAlike_5 rfl (lv_at hl 0 rfl) ?_
    refine va_get (D := (dC, dI)) (ci := 3) (v := .int z_size) (C := "SuffixIndex$SuffixOrder") (T := F_OR) (N := 10) hx hb hw i_OR hown hK hP 0 rfl rfl 7 (by decide) (hw _ m_137) (fun _ h9 => h9) rfl d_OR_measureAlike_6 ?_
    obtain ⟨hvt, hvf⟩ := hv
    refine lv_icmp_ge (tgt := 70) hx hb d_OR_measureAlike_9 (by decide) (fun c2 => ?_) (fun c2 => ?_)
    · have hv := hvt c2
      exact W.vret hx hb hr (fun t ht hW => ⟨⟨z_alikeBefore, rfl, hv, by rw [ht]; exact hP, va_K.moved hW.alike hK, hD⟩, hS.F ht⟩) hS.2.2 d_OR_measureAlike_70
    · have hv := hvf c2
      refine lv_aload_n hx hb d_OR_measureAlike_12 rfl (lv_at hl 0 rfl) ?_
      refine va_get (D := (dC, dI)) (ci := 3) (v := .ref h_ranks) (C := "SuffixIndex$SuffixOrder") (T := F_OR) (N := 10) hx hb hw i_OR hown hK hP 0 rfl rfl 1 (by decide) (hw _ m_122) (fun _ h9 => h9) rfl d_OR_measureAlike_13 ?_
      refine lv_iload_n hx hb d_OR_measureAlike_16 rfl (lv_at hl 2 rfl) ?_
      obtain ⟨hin, hv⟩ := hv
      refine va_iald hx hb hK hP 2 0 rfl rfl hin d_OR_measureAlike_17 ?_
      refine lv_istore_n (lv' := [(3, .int (z_ranks x2.toNatClampNeg)), (0, .ref h_t), (1, .int x1), (2, .int x2)]) hx hb d_OR_measureAlike_18 rfl hl (by decide) rfl (fun ls hl => ?_)
      refine lv_iload_n hx hb d_OR_measureAlike_19 rfl (lv_at hl 0 rfl) ?_
      obtain ⟨hvt, hvf⟩ := hv
      refine lv_if_ne (tgt := 27) hx hb d_OR_measureAlike_20 (by decide) (fun c3 => ?_) (fun c3 => ?_)
      · have hv := hvt c3
        refine lv_aload_n hx hb d_OR_measureAlike_27 rfl (lv_at hl 1 rfl) ?_
        refine va_get (D := (dC, dI)) (ci := 3) (v := .ref h_library) (C := "SuffixIndex$SuffixOrder") (T := F_OR) (N := 10) hx hb hw i_OR hown hK hP 0 rfl rfl 5 (by decide) (hw _ m_132) (fun _ h9 => h9) rfl d_OR_measureAlike_28 ?_
        refine lv_iload_n hx hb d_OR_measureAlike_31 rfl (lv_at hl 3 rfl) ?_
        refine lv_aload_n hx hb d_OR_measureAlike_32 rfl (lv_at hl 1 rfl) ?_
        refine va_get (D := (dC, dI)) (ci := 3) (v := .ref h_sorted) (C := "SuffixIndex$SuffixOrder") (T := F_OR) (N := 10) hx hb hw i_OR hown hK hP 0 rfl rfl 0 (by decide) (hw _ m_118) (fun _ h9 => h9) rfl d_OR_measureAlike_33 ?_
        refine lv_iload_n hx hb d_OR_measureAlike_36 rfl (lv_at hl 0 rfl) ?_
        refine lv_iconst (v := 1) hx hb d_OR_measureAlike_37 (by decide) ?_
        refine lv_isub hx hb d_OR_measureAlike_38 ?_
        obtain ⟨hin, hv⟩ := hv
        refine va_iald hx hb hK hP 1 0 rfl rfl hin d_OR_measureAlike_39 ?_
        refine lv_iload_n hx hb d_OR_measureAlike_40 rfl (lv_at hl 2 rfl) ?_
        refine cV_i (wr := [(h_t, .inr (3, [.ref h_sorted, .ref h_ranks, .ref h_alikeBefore, .ref h_piecesUpTo, .ref h_sorter, .ref h_library, .int z_first, .int z_size, .int z_locatedRank, .int z_locatedLength])), (h_sorted, .inl (cI, 16448, .inl z_sorted)), (h_ranks, .inl (cI, 16448, .inl z_ranks)), (h_alikeBefore, .inl (cI, 16448, .inl z_alikeBefore))]) (rest := []) (c_LB_alike l dC dI cI cJ cB cZ h_library h_library_text h_library_owners h_library_starts H.size z_library_documents z_library_indexed z_library_text z_library_starts x2 (z_sorted ((z_ranks x2.toNatClampNeg) - 1).toNatClampNeg) x1 _ hv) F (cw_V (fun _ h => h) 3 hw m_673 m_674 m_675 m_3 m_676 rfl rfl (by decide +kernel) ⟨by decide, by decide⟩) hK hP hD hS hA [4, 5, 6] [0, 1, 2, 3] rfl rfl rfl rfl (by decide) 0 1 rfl rfl rfl hl.1 rfl (Nat.le_of_ble_eq_true rfl) d_OR_measureAlike_41 ⟨Nat.le_of_ble_eq_true rfl, Nat.le_of_ble_eq_true rfl⟩ (fun r4 u H locs hv hP hD hS => ?_)
        have hP : va_P (dC, dI) classes [(h_t, .inr (3, [.ref h_sorted, .ref h_ranks, .ref h_alikeBefore, .ref h_piecesUpTo, .ref h_sorter, .ref h_library, .int z_first, .int z_size, .int z_locatedRank, .int z_locatedLength])), (h_sorted, .inl (cI, 16448, .inl z_sorted)), (h_ranks, .inl (cI, 16448, .inl z_ranks)), (h_alikeBefore, .inl (cI, 16448, .inl z_alikeBefore)), (h_library, .inr (1, [.ref h_library_text, .ref h_library_owners, .ref h_library_starts, .int z_library_documents, .int z_library_indexed])), (h_library_text, .inl (cI, 16448, .inl z_library_text)), (h_library_starts, .inl (cI, 65, .inl z_library_starts))] H := P_sub hP [0, 1, 2, 3, 4, 5, 6] rfl
        have hD : va_D A [(h_t, .inr (3, [.ref h_sorted, .ref h_ranks, .ref h_alikeBefore, .ref h_piecesUpTo, .ref h_sorter, .ref h_library, .int z_first, .int z_size, .int z_locatedRank, .int z_locatedLength])), (h_sorted, .inl (cI, 16448, .inl z_sorted)), (h_ranks, .inl (cI, 16448, .inl z_ranks)), (h_alikeBefore, .inl (cI, 16448, .inl z_alikeBefore)), (h_library, .inr (1, [.ref h_library_text, .ref h_library_owners, .ref h_library_starts, .int z_library_documents, .int z_library_indexed])), (h_library_text, .inl (cI, 16448, .inl z_library_text)), (h_library_starts, .inl (cI, 65, .inl z_library_starts))] := hD.sub [0, 1, 2, 3, 4, 5, 6] rfl rfl
        exact wk_OR_measureAlike_44 F hr hlk hK hA ih x2 (z_ranks x2.toNatClampNeg) r4 z_alikeBefore hv _ _ _ hP hD hS (lv_sub hl [1, 3, 0] rfl)
      · have hv := hvf c3
        refine lv_iconst (v := 0) hx hb d_OR_measureAlike_23 (by decide) ?_
        refine lv_goto (tgt := 44) hx hb d_OR_measureAlike_24 (by decide) ?_
        exact wk_OR_measureAlike_44 F hr hlk hK hA ih x2 (z_ranks x2.toNatClampNeg) 0 z_alikeBefore hv _ _ _ hP hD hS (lv_sub hl [1, 3, 0] rfl)

set_option maxHeartbeats 4000000 in
set_option maxRecDepth 100000 in
theorem c_OR_measureAlike (l : Launch) (dC : Nat → ClassId) (dI : Nat → Nat → Nat) (cI cJ cB cZ : ClassId) (h_t : Nat) (h_sorted : Nat) (h_ranks : Nat) (h_alikeBefore : Nat) (h_piecesUpTo : Nat) (h_sorter : Nat) (h_library : Nat) (h_library_text : Nat) (h_library_owners : Nat) (h_library_starts : Nat) (sz : Nat) (z_first : Int32) (z_size : Int32) (z_locatedRank : Int32) (z_locatedLength : Int32) (z_sorted : Nat → Int32) (z_ranks : Nat → Int32) (z_alikeBefore : Nat → Int32) (z_library_documents : Int32) (z_library_indexed : Int32) (z_library_text : Nat → Int32) (z_library_starts : Nat → Int32) (post : (Nat → Int32) → Prop) (hv : vc_OR_measureAlike z_size z_sorted z_ranks z_library_indexed z_library_text z_library_starts post z_alikeBefore) : Met l y_OR_measureAlike (Cond.code y_OR_measureAlike b_OR_measureAlike 4 none :: WT) rm_OR_measureAlike (cPre (dC, dI) classes (TYS cI cJ cB cZ) [(h_t, .inr (3, [.ref h_sorted, .ref h_ranks, .ref h_alikeBefore, .ref h_piecesUpTo, .ref h_sorter, .ref h_library, .int z_first, .int z_size, .int z_locatedRank, .int z_locatedLength])), (h_sorted, .inl (cI, 16448, .inl z_sorted)), (h_ranks, .inl (cI, 16448, .inl z_ranks)), (h_alikeBefore, .inl (cI, 16448, .inl z_alikeBefore)), (h_library, .inr (1, [.ref h_library_text, .ref h_library_owners, .ref h_library_starts, .int z_library_documents, .int z_library_indexed])), (h_library_text, .inl (cI, 16448, .inl z_library_text)), (h_library_starts, .inl (cI, 65, .inl z_library_starts))] sz [.ref h_t]) (va_Qv (fun u : (Nat → Int32) => post u) (fun u t => cAft (dC, dI) classes (TYS cI cJ cB cZ) (va_A [(h_t, .inr (3, [.ref h_sorted, .ref h_ranks, .ref h_alikeBefore, .ref h_piecesUpTo, .ref h_sorter, .ref h_library, .int z_first, .int z_size, .int z_locatedRank, .int z_locatedLength])), (h_sorted, .inl (cI, 16448, .inl z_sorted)), (h_ranks, .inl (cI, 16448, .inl z_ranks)), (h_alikeBefore, .inl (cI, 16448, .inl z_alikeBefore)), (h_library, .inr (1, [.ref h_library_text, .ref h_library_owners, .ref h_library_starts, .int z_library_documents, .int z_library_indexed])), (h_library_text, .inl (cI, 16448, .inl z_library_text)), (h_library_starts, .inl (cI, 65, .inl z_library_starts))] sz) [(h_t, .inr (3, [.ref h_sorted, .ref h_ranks, .ref h_alikeBefore, .ref h_piecesUpTo, .ref h_sorter, .ref h_library, .int z_first, .int z_size, .int z_locatedRank, .int z_locatedLength])), (h_sorted, .inl (cI, 16448, .inl z_sorted)), (h_ranks, .inl (cI, 16448, .inl z_ranks)), (h_alikeBefore, .inl (cI, 16448, .inl u)), (h_library, .inr (1, [.ref h_library_text, .ref h_library_owners, .ref h_library_starts, .int z_library_documents, .int z_library_indexed])), (h_library_text, .inl (cI, 16448, .inl z_library_text)), (h_library_starts, .inl (cI, 65, .inl z_library_starts))] t) (va_A [(h_t, .inr (3, [.ref h_sorted, .ref h_ranks, .ref h_alikeBefore, .ref h_piecesUpTo, .ref h_sorter, .ref h_library, .int z_first, .int z_size, .int z_locatedRank, .int z_locatedLength])), (h_sorted, .inl (cI, 16448, .inl z_sorted)), (h_ranks, .inl (cI, 16448, .inl z_ranks)), (h_alikeBefore, .inl (cI, 16448, .inl z_alikeBefore)), (h_library, .inr (1, [.ref h_library_text, .ref h_library_owners, .ref h_library_starts, .int z_library_documents, .int z_library_indexed])), (h_library_text, .inl (cI, 16448, .inl z_library_text)), (h_library_starts, .inl (cI, 65, .inl z_library_starts))] sz)) 0 0 (va_A [(h_t, .inr (3, [.ref h_sorted, .ref h_ranks, .ref h_alikeBefore, .ref h_piecesUpTo, .ref h_sorter, .ref h_library, .int z_first, .int z_size, .int z_locatedRank, .int z_locatedLength])), (h_sorted, .inl (cI, 16448, .inl z_sorted)), (h_ranks, .inl (cI, 16448, .inl z_ranks)), (h_alikeBefore, .inl (cI, 16448, .inl z_alikeBefore)), (h_library, .inr (1, [.ref h_library_text, .ref h_library_owners, .ref h_library_starts, .int z_library_documents, .int z_library_indexed])), (h_library_text, .inl (cI, 16448, .inl z_library_text)), (h_library_starts, .inl (cI, 65, .inl z_library_starts))] sz) := by
  refine Met.ofW (cc := b_OR_measureAlike) (maxL := 4) (ret := none) (by decide) rfl ?_
  intro p e s m args below meth c s₁ B hml hq
  obtain ⟨rfl, hsz, hP, hK, hD0⟩ := hq
  have hts := atoms_spec (ws := Cond.code y_OR_measureAlike b_OR_measureAlike 4 none :: WT) B.pre
  have hw : ∀ w ∈ WT, w.before ([.ref h_t] : List Value).toArray s = true := fun w h => hts w (List.mem_cons_of_mem _ h)
  have hx := B.exec
  have hb := B.bytes
  have hr := B.returns
  have hlk := B.notSynchronized
  have hown : s.vm.findClass "SuffixIndex$SuffixOrder" = some m.cls := findClass_of_methodNamed B.named
  have F : CallFix p m c b_OR_measureAlike 4 s ([.ref h_t] : List Value).toArray WT "SuffixIndex$SuffixOrder" := ⟨hx, hb, hml, hown, hw⟩
  subst hsz
  have hD := hD0.self (sz := s.heap.size)
  generalize hAe : va_A [(h_t, .inr (3, [.ref h_sorted, .ref h_ranks, .ref h_alikeBefore, .ref h_piecesUpTo, .ref h_sorter, .ref h_library, .int z_first, .int z_size, .int z_locatedRank, .int z_locatedLength])), (h_sorted, .inl (cI, 16448, .inl z_sorted)), (h_ranks, .inl (cI, 16448, .inl z_ranks)), (h_alikeBefore, .inl (cI, 16448, .inl z_alikeBefore)), (h_library, .inr (1, [.ref h_library_text, .ref h_library_owners, .ref h_library_starts, .int z_library_documents, .int z_library_indexed])), (h_library_text, .inl (cI, 16448, .inl z_library_text)), (h_library_starts, .inl (cI, 65, .inl z_library_starts))] s.heap.size = A at hD ⊢
  have hA : ∀ q : Nat, s.heap.size ≤ q → A q := fun q h => by rw [← hAe]; exact Or.inr h
  have hS : va_S A s.heap s.heap [] := va_S.rf
  have hl := lv_entry ([.ref h_t]) (n := 4) (Nat.le_of_ble_eq_true rfl)
  rw [lg_entry_eq]
  generalize (lg_sl ([.ref h_t]) ++ List.replicate (4 - (lg_sl ([.ref h_t])).length) Slot.unset).toArray = ls at hl ⊢
  have hl : lv_has ls 4 [(0, .ref h_t)] := hl
  show W p l e rm_OR_measureAlike s m _ below meth c s.heap [] 0 0 _ _
  have hP : va_P (dC, dI) classes [(h_t, .inr (3, [.ref h_sorted, .ref h_ranks, .ref h_alikeBefore, .ref h_piecesUpTo, .ref h_sorter, .ref h_library, .int z_first, .int z_size, .int z_locatedRank, .int z_locatedLength])), (h_sorted, .inl (cI, 16448, .inl z_sorted)), (h_ranks, .inl (cI, 16448, .inl z_ranks)), (h_alikeBefore, .inl (cI, 16448, .inl z_alikeBefore)), (h_library, .inr (1, [.ref h_library_text, .ref h_library_owners, .ref h_library_starts, .int z_library_documents, .int z_library_indexed])), (h_library_text, .inl (cI, 16448, .inl z_library_text)), (h_library_starts, .inl (cI, 65, .inl z_library_starts))] s.heap := hP
  obtain ⟨H, hHe⟩ : ∃ H, H = s.heap := ⟨_, rfl⟩
  have hS : va_S A s.heap H [] := by rw [hHe]; exact hS
  rw [← hHe] at hP
  suffices hgoal : W p l e rm_OR_measureAlike s m ([.ref h_t] : List Value).toArray below meth c H [] 0 0 (MQ below (va_Qv (fun u : (Nat → Int32) => post u) (fun u t => cAft (dC, dI) classes (TYS cI cJ cB cZ) A [(h_t, .inr (3, [.ref h_sorted, .ref h_ranks, .ref h_alikeBefore, .ref h_piecesUpTo, .ref h_sorter, .ref h_library, .int z_first, .int z_size, .int z_locatedRank, .int z_locatedLength])), (h_sorted, .inl (cI, 16448, .inl z_sorted)), (h_ranks, .inl (cI, 16448, .inl z_ranks)), (h_alikeBefore, .inl (cI, 16448, .inl u)), (h_library, .inr (1, [.ref h_library_text, .ref h_library_owners, .ref h_library_starts, .int z_library_documents, .int z_library_indexed])), (h_library_text, .inl (cI, 16448, .inl z_library_text)), (h_library_starts, .inl (cI, 65, .inl z_library_starts))] t) A) ([.ref h_t] : List Value).toArray s 0 0 A) (F0 m 0 ls []) by rw [hHe] at hgoal; exact hgoal
  refine lv_iconst (v := 0) hx hb d_OR_measureAlike_0 (by decide) ?_
  refine lv_istore_n (lv' := [(1, .int 0), (0, .ref h_t)]) hx hb d_OR_measureAlike_1 rfl hl (by decide) rfl (fun ls hl => ?_)
  refine lv_iconst (v := 0) hx hb d_OR_measureAlike_2 (by decide) ?_
  refine lv_istore_n (lv' := [(2, .int 0), (1, .int 0), (0, .ref h_t)]) hx hb d_OR_measureAlike_3 rfl hl (by decide) rfl (fun ls hl => ?_)
  obtain ⟨j, hv⟩ := hv
  exact wk_OR_measureAlike_4 F hr hlk hK hA j 0 0 z_alikeBefore hv _ _ _ hP hD hS (lv_sub hl [2, 1, 0] rfl)

set_option maxHeartbeats 4000000 in
set_option maxRecDepth 100000 in
theorem wk_OR_sumPieces_7 {p : Program} {l : Launch} {e : Env} {s : State} {m : MethodId} {below : List Frame} {meth : Method} {c : Code} {A : Nat → Prop} {dC : Nat → ClassId} {dI : Nat → Nat → Nat} {cI cJ cB cZ : ClassId} {h_t : Nat} {h_sorted : Nat} {h_ranks : Nat} {h_alikeBefore : Nat} {h_piecesUpTo : Nat} {h_sorter : Nat} {h_library : Nat} {h_library_text : Nat} {h_library_owners : Nat} {h_library_starts : Nat} {z_first : Int32} {z_size : Int32} {z_sorted : Nat → Int32} {z_alikeBefore : Nat → Int32} {z_library_owners : Nat → Int32} {z_library_starts : Nat → Int32} {z_locatedRank : Int32} {z_locatedLength : Int32} {z_library_documents : Int32} {z_library_indexed : Int32} {post : (Nat → Int64) → Prop} (F : CallFix p m c b_OR_sumPieces 4 s ([.ref h_t] : List Value).toArray WT "SuffixIndex$SuffixOrder") (hr : meth.sig.returnType = none) (hlk : meth.locks = false) (hK : va_K (dC, dI) classes (TYS cI cJ cB cZ) s) (hA : ∀ q, s.heap.size ≤ q → A q) : ∀ (k : Nat) (x1 : Int64) (x3 : Int32) (z_piecesUpTo : Nat → Int64), vc_OR_sumPieces_7 z_first z_size z_sorted z_alikeBefore z_library_owners z_library_starts post k x1 x3 z_piecesUpTo → ∀ (H : Heap) (locs : List Loc) (ls : Array Slot), va_P (dC, dI) classes [(h_t, .inr (3, [.ref h_sorted, .ref h_ranks, .ref h_alikeBefore, .ref h_piecesUpTo, .ref h_sorter, .ref h_library, .int z_first, .int z_size, .int z_locatedRank, .int z_locatedLength])), (h_sorted, .inl (cI, 16448, .inl z_sorted)), (h_alikeBefore, .inl (cI, 16448, .inl z_alikeBefore)), (h_piecesUpTo, .inl (cJ, 16448, .inr (.inl z_piecesUpTo))), (h_library, .inr (1, [.ref h_library_text, .ref h_library_owners, .ref h_library_starts, .int z_library_documents, .int z_library_indexed])), (h_library_owners, .inl (cI, 16448, .inl z_library_owners)), (h_library_starts, .inl (cI, 65, .inl z_library_starts))] H → va_D A [(h_t, .inr (3, [.ref h_sorted, .ref h_ranks, .ref h_alikeBefore, .ref h_piecesUpTo, .ref h_sorter, .ref h_library, .int z_first, .int z_size, .int z_locatedRank, .int z_locatedLength])), (h_sorted, .inl (cI, 16448, .inl z_sorted)), (h_alikeBefore, .inl (cI, 16448, .inl z_alikeBefore)), (h_piecesUpTo, .inl (cJ, 16448, .inr (.inl z_piecesUpTo))), (h_library, .inr (1, [.ref h_library_text, .ref h_library_owners, .ref h_library_starts, .int z_library_documents, .int z_library_indexed])), (h_library_owners, .inl (cI, 16448, .inl z_library_owners)), (h_library_starts, .inl (cI, 65, .inl z_library_starts))] → va_S A s.heap H locs → lv_has ls 4 [(0, .ref h_t), (1, .long x1), (3, .int x3)] → W p l e rm_OR_sumPieces s m ([.ref h_t] : List Value).toArray below meth c H locs 0 0 (MQ below (va_Qv (fun u : (Nat → Int64) => post u) (fun u t => cAft (dC, dI) classes (TYS cI cJ cB cZ) A [(h_t, .inr (3, [.ref h_sorted, .ref h_ranks, .ref h_alikeBefore, .ref h_piecesUpTo, .ref h_sorter, .ref h_library, .int z_first, .int z_size, .int z_locatedRank, .int z_locatedLength])), (h_sorted, .inl (cI, 16448, .inl z_sorted)), (h_alikeBefore, .inl (cI, 16448, .inl z_alikeBefore)), (h_piecesUpTo, .inl (cJ, 16448, .inr (.inl u))), (h_library, .inr (1, [.ref h_library_text, .ref h_library_owners, .ref h_library_starts, .int z_library_documents, .int z_library_indexed])), (h_library_owners, .inl (cI, 16448, .inl z_library_owners)), (h_library_starts, .inl (cI, 65, .inl z_library_starts))] t) A) ([.ref h_t] : List Value).toArray s 0 0 A) (F0 m 7 ls []) := by
  obtain ⟨hx, hb, hml, hown, hw⟩ := id F
  intro k
  induction k with
  | zero =>
    intro x1 x3 z_piecesUpTo hv
    exact False.elim hv
  | succ k ih =>
    intro x1 x3 z_piecesUpTo hv H locs ls hP hD hS hl
    refine lv_iload_n hx hb d_OR_sumPieces_7 rfl (lv_at hl 2 rfl) ?_
    refine lv_aload_n hx hb d_OR_sumPieces_8 rfl (lv_at hl 0 rfl) ?_
    refine va_get (D := (dC, dI)) (ci := 3) (v := .int z_size) (C := "SuffixIndex$SuffixOrder") (T := F_OR) (N := 10) hx hb hw i_OR hown hK hP 0 rfl rfl 7 (by decide) (hw _ m_137) (fun _ h9 => h9) rfl d_OR_sumPieces_9 ?_
    obtain ⟨hvt, hvf⟩ := hv
    refine lv_icmp_ge (tgt := 52) hx hb d_OR_sumPieces_12 (by decide) (fun c1 => ?_) (fun c1 => ?_)
    · have hv := hvt c1
      exact W.vret hx hb hr (fun t ht hW => ⟨⟨z_piecesUpTo, rfl, hv, by rw [ht]; exact hP, va_K.moved hW.alike hK, hD⟩, hS.F ht⟩) hS.2.2 d_OR_sumPieces_52
    · have hv := hvf c1
      refine lv_lload_n hx hb d_OR_sumPieces_15 rfl (lv_at hl 1 rfl) ?_
      refine lv_aload_n hx hb d_OR_sumPieces_16 rfl (lv_at hl 0 rfl) ?_
      refine va_get (D := (dC, dI)) (ci := 3) (v := .ref h_library) (C := "SuffixIndex$SuffixOrder") (T := F_OR) (N := 10) hx hb hw i_OR hown hK hP 0 rfl rfl 5 (by decide) (hw _ m_132) (fun _ h9 => h9) rfl d_OR_sumPieces_17 ?_
      refine lv_aload_n hx hb d_OR_sumPieces_20 rfl (lv_at hl 0 rfl) ?_
      refine va_get (D := (dC, dI)) (ci := 3) (v := .ref h_sorted) (C := "SuffixIndex$SuffixOrder") (T := F_OR) (N := 10) hx hb hw i_OR hown hK hP 0 rfl rfl 0 (by decide) (hw _ m_118) (fun _ h9 => h9) rfl d_OR_sumPieces_21 ?_
      refine lv_iload_n hx hb d_OR_sumPieces_24 rfl (lv_at hl 2 rfl) ?_
      obtain ⟨hin, hv⟩ := hv
      refine va_iald hx hb hK hP 1 0 rfl rfl hin d_OR_sumPieces_25 ?_
      refine cV_i (wr := [(h_t, .inr (3, [.ref h_sorted, .ref h_ranks, .ref h_alikeBefore, .ref h_piecesUpTo, .ref h_sorter, .ref h_library, .int z_first, .int z_size, .int z_locatedRank, .int z_locatedLength])), (h_sorted, .inl (cI, 16448, .inl z_sorted)), (h_alikeBefore, .inl (cI, 16448, .inl z_alikeBefore)), (h_piecesUpTo, .inl (cJ, 16448, .inr (.inl z_piecesUpTo)))]) (rest := [.long x1]) (c_LB_lengthFrom l dC dI cI cJ cB cZ h_library h_library_text h_library_owners h_library_starts H.size z_library_documents z_library_indexed z_library_owners z_library_starts (z_sorted x3.toNatClampNeg) _ hv) F (cw_V (fun _ h => h) 1 hw m_683 m_684 m_685 m_3 m_686 rfl rfl (by decide +kernel) ⟨by decide, by decide⟩) hK hP hD hS hA [4, 5, 6] [0, 1, 2, 3] rfl rfl rfl rfl (by decide) 0 1 rfl rfl rfl hl.1 rfl (Nat.le_of_ble_eq_true rfl) d_OR_sumPieces_26 ⟨Nat.le_of_ble_eq_true rfl, Nat.le_of_ble_eq_true rfl⟩ (fun r2 u H locs hv hP hD hS => ?_)
      have hP : va_P (dC, dI) classes [(h_t, .inr (3, [.ref h_sorted, .ref h_ranks, .ref h_alikeBefore, .ref h_piecesUpTo, .ref h_sorter, .ref h_library, .int z_first, .int z_size, .int z_locatedRank, .int z_locatedLength])), (h_sorted, .inl (cI, 16448, .inl z_sorted)), (h_alikeBefore, .inl (cI, 16448, .inl z_alikeBefore)), (h_piecesUpTo, .inl (cJ, 16448, .inr (.inl z_piecesUpTo))), (h_library, .inr (1, [.ref h_library_text, .ref h_library_owners, .ref h_library_starts, .int z_library_documents, .int z_library_indexed])), (h_library_owners, .inl (cI, 16448, .inl z_library_owners)), (h_library_starts, .inl (cI, 65, .inl z_library_starts))] H := P_sub hP [0, 1, 2, 3, 4, 5, 6] rfl
      have hD : va_D A [(h_t, .inr (3, [.ref h_sorted, .ref h_ranks, .ref h_alikeBefore, .ref h_piecesUpTo, .ref h_sorter, .ref h_library, .int z_first, .int z_size, .int z_locatedRank, .int z_locatedLength])), (h_sorted, .inl (cI, 16448, .inl z_sorted)), (h_alikeBefore, .inl (cI, 16448, .inl z_alikeBefore)), (h_piecesUpTo, .inl (cJ, 16448, .inr (.inl z_piecesUpTo))), (h_library, .inr (1, [.ref h_library_text, .ref h_library_owners, .ref h_library_starts, .int z_library_documents, .int z_library_indexed])), (h_library_owners, .inl (cI, 16448, .inl z_library_owners)), (h_library_starts, .inl (cI, 65, .inl z_library_starts))] := hD.sub [0, 1, 2, 3, 4, 5, 6] rfl rfl
      refine lv_aload_n hx hb d_OR_sumPieces_29 rfl (lv_at hl 0 rfl) ?_
      refine va_get (D := (dC, dI)) (ci := 3) (v := .ref h_alikeBefore) (C := "SuffixIndex$SuffixOrder") (T := F_OR) (N := 10) hx hb hw i_OR hown hK hP 0 rfl rfl 2 (by decide) (hw _ m_126) (fun _ h9 => h9) rfl d_OR_sumPieces_30 ?_
      refine lv_iload_n hx hb d_OR_sumPieces_33 rfl (lv_at hl 2 rfl) ?_
      obtain ⟨hin, hv⟩ := hv
      refine va_iald hx hb hK hP 2 0 rfl rfl hin d_OR_sumPieces_34 ?_
      refine lv_isub hx hb d_OR_sumPieces_35 ?_
      refine lv_i2l hx hb d_OR_sumPieces_36 rfl ?_
      refine lv_ladd hx hb d_OR_sumPieces_37 ?_
      refine lv_lstore_n (lv' := [(1, .long (x1 + ((r2 - (z_alikeBefore x3.toNatClampNeg)).toInt64))), (0, .ref h_t), (3, .int x3)]) hx hb d_OR_sumPieces_38 rfl hl (by decide) rfl (fun ls hl => ?_)
      refine lv_aload_n hx hb d_OR_sumPieces_39 rfl (lv_at hl 1 rfl) ?_
      refine va_get (D := (dC, dI)) (ci := 3) (v := .ref h_piecesUpTo) (C := "SuffixIndex$SuffixOrder") (T := F_OR) (N := 10) hx hb hw i_OR hown hK hP 0 rfl rfl 3 (by decide) (hw _ m_130) (fun _ h9 => h9) rfl d_OR_sumPieces_40 ?_
      refine lv_iload_n hx hb d_OR_sumPieces_43 rfl (lv_at hl 2 rfl) ?_
      refine lv_lload_n hx hb d_OR_sumPieces_44 rfl (lv_at hl 0 rfl) ?_
      obtain ⟨hin, hv⟩ := hv
      refine va_last hx hb hK hP hD hS 3 1 rfl rfl hin d_OR_sumPieces_45 (fun H locs hP hD hS => ?_)
      have hP : va_P (dC, dI) classes [(h_t, .inr (3, [.ref h_sorted, .ref h_ranks, .ref h_alikeBefore, .ref h_piecesUpTo, .ref h_sorter, .ref h_library, .int z_first, .int z_size, .int z_locatedRank, .int z_locatedLength])), (h_sorted, .inl (cI, 16448, .inl z_sorted)), (h_alikeBefore, .inl (cI, 16448, .inl z_alikeBefore)), (h_piecesUpTo, .inl (cJ, 16448, .inr (.inl (vp_updL z_piecesUpTo x3.toNatClampNeg (x1 + ((r2 - (z_alikeBefore x3.toNatClampNeg)).toInt64)))))), (h_library, .inr (1, [.ref h_library_text, .ref h_library_owners, .ref h_library_starts, .int z_library_documents, .int z_library_indexed])), (h_library_owners, .inl (cI, 16448, .inl z_library_owners)), (h_library_starts, .inl (cI, 65, .inl z_library_starts))] H := hP
      have hD : va_D A [(h_t, .inr (3, [.ref h_sorted, .ref h_ranks, .ref h_alikeBefore, .ref h_piecesUpTo, .ref h_sorter, .ref h_library, .int z_first, .int z_size, .int z_locatedRank, .int z_locatedLength])), (h_sorted, .inl (cI, 16448, .inl z_sorted)), (h_alikeBefore, .inl (cI, 16448, .inl z_alikeBefore)), (h_piecesUpTo, .inl (cJ, 16448, .inr (.inl (vp_updL z_piecesUpTo x3.toNatClampNeg (x1 + ((r2 - (z_alikeBefore x3.toNatClampNeg)).toInt64)))))), (h_library, .inr (1, [.ref h_library_text, .ref h_library_owners, .ref h_library_starts, .int z_library_documents, .int z_library_indexed])), (h_library_owners, .inl (cI, 16448, .inl z_library_owners)), (h_library_starts, .inl (cI, 65, .inl z_library_starts))] := hD
      refine lv_iinc (v := x3 + 1) (lv' := [(3, .int (x3 + 1)), (1, .long (x1 + ((r2 - (z_alikeBefore x3.toNatClampNeg)).toInt64))), (0, .ref h_t)]) hx hb d_OR_sumPieces_46 hl (k := 2) rfl (iinc_v (by decide)) (by decide) rfl (fun ls hl => ?_)
      refine lv_goto (tgt := 7) hx hb d_OR_sumPieces_49 (by decide) ?_
      exact ih (x1 + ((r2 - (z_alikeBefore x3.toNatClampNeg)).toInt64)) (x3 + 1) (vp_updL z_piecesUpTo x3.toNatClampNeg (x1 + ((r2 - (z_alikeBefore x3.toNatClampNeg)).toInt64))) hv _ _ _ hP hD hS (lv_sub hl [2, 1, 0] rfl)

set_option maxHeartbeats 4000000 in
set_option maxRecDepth 100000 in
theorem c_OR_sumPieces (l : Launch) (dC : Nat → ClassId) (dI : Nat → Nat → Nat) (cI cJ cB cZ : ClassId) (h_t : Nat) (h_sorted : Nat) (h_ranks : Nat) (h_alikeBefore : Nat) (h_piecesUpTo : Nat) (h_sorter : Nat) (h_library : Nat) (h_library_text : Nat) (h_library_owners : Nat) (h_library_starts : Nat) (sz : Nat) (z_first : Int32) (z_size : Int32) (z_locatedRank : Int32) (z_locatedLength : Int32) (z_sorted : Nat → Int32) (z_alikeBefore : Nat → Int32) (z_piecesUpTo : Nat → Int64) (z_library_documents : Int32) (z_library_indexed : Int32) (z_library_owners : Nat → Int32) (z_library_starts : Nat → Int32) (post : (Nat → Int64) → Prop) (hv : vc_OR_sumPieces z_first z_size z_sorted z_alikeBefore z_library_owners z_library_starts post z_piecesUpTo) : Met l y_OR_sumPieces (Cond.code y_OR_sumPieces b_OR_sumPieces 4 none :: WT) rm_OR_sumPieces (cPre (dC, dI) classes (TYS cI cJ cB cZ) [(h_t, .inr (3, [.ref h_sorted, .ref h_ranks, .ref h_alikeBefore, .ref h_piecesUpTo, .ref h_sorter, .ref h_library, .int z_first, .int z_size, .int z_locatedRank, .int z_locatedLength])), (h_sorted, .inl (cI, 16448, .inl z_sorted)), (h_alikeBefore, .inl (cI, 16448, .inl z_alikeBefore)), (h_piecesUpTo, .inl (cJ, 16448, .inr (.inl z_piecesUpTo))), (h_library, .inr (1, [.ref h_library_text, .ref h_library_owners, .ref h_library_starts, .int z_library_documents, .int z_library_indexed])), (h_library_owners, .inl (cI, 16448, .inl z_library_owners)), (h_library_starts, .inl (cI, 65, .inl z_library_starts))] sz [.ref h_t]) (va_Qv (fun u : (Nat → Int64) => post u) (fun u t => cAft (dC, dI) classes (TYS cI cJ cB cZ) (va_A [(h_t, .inr (3, [.ref h_sorted, .ref h_ranks, .ref h_alikeBefore, .ref h_piecesUpTo, .ref h_sorter, .ref h_library, .int z_first, .int z_size, .int z_locatedRank, .int z_locatedLength])), (h_sorted, .inl (cI, 16448, .inl z_sorted)), (h_alikeBefore, .inl (cI, 16448, .inl z_alikeBefore)), (h_piecesUpTo, .inl (cJ, 16448, .inr (.inl z_piecesUpTo))), (h_library, .inr (1, [.ref h_library_text, .ref h_library_owners, .ref h_library_starts, .int z_library_documents, .int z_library_indexed])), (h_library_owners, .inl (cI, 16448, .inl z_library_owners)), (h_library_starts, .inl (cI, 65, .inl z_library_starts))] sz) [(h_t, .inr (3, [.ref h_sorted, .ref h_ranks, .ref h_alikeBefore, .ref h_piecesUpTo, .ref h_sorter, .ref h_library, .int z_first, .int z_size, .int z_locatedRank, .int z_locatedLength])), (h_sorted, .inl (cI, 16448, .inl z_sorted)), (h_alikeBefore, .inl (cI, 16448, .inl z_alikeBefore)), (h_piecesUpTo, .inl (cJ, 16448, .inr (.inl u))), (h_library, .inr (1, [.ref h_library_text, .ref h_library_owners, .ref h_library_starts, .int z_library_documents, .int z_library_indexed])), (h_library_owners, .inl (cI, 16448, .inl z_library_owners)), (h_library_starts, .inl (cI, 65, .inl z_library_starts))] t) (va_A [(h_t, .inr (3, [.ref h_sorted, .ref h_ranks, .ref h_alikeBefore, .ref h_piecesUpTo, .ref h_sorter, .ref h_library, .int z_first, .int z_size, .int z_locatedRank, .int z_locatedLength])), (h_sorted, .inl (cI, 16448, .inl z_sorted)), (h_alikeBefore, .inl (cI, 16448, .inl z_alikeBefore)), (h_piecesUpTo, .inl (cJ, 16448, .inr (.inl z_piecesUpTo))), (h_library, .inr (1, [.ref h_library_text, .ref h_library_owners, .ref h_library_starts, .int z_library_documents, .int z_library_indexed])), (h_library_owners, .inl (cI, 16448, .inl z_library_owners)), (h_library_starts, .inl (cI, 65, .inl z_library_starts))] sz)) 0 0 (va_A [(h_t, .inr (3, [.ref h_sorted, .ref h_ranks, .ref h_alikeBefore, .ref h_piecesUpTo, .ref h_sorter, .ref h_library, .int z_first, .int z_size, .int z_locatedRank, .int z_locatedLength])), (h_sorted, .inl (cI, 16448, .inl z_sorted)), (h_alikeBefore, .inl (cI, 16448, .inl z_alikeBefore)), (h_piecesUpTo, .inl (cJ, 16448, .inr (.inl z_piecesUpTo))), (h_library, .inr (1, [.ref h_library_text, .ref h_library_owners, .ref h_library_starts, .int z_library_documents, .int z_library_indexed])), (h_library_owners, .inl (cI, 16448, .inl z_library_owners)), (h_library_starts, .inl (cI, 65, .inl z_library_starts))] sz) := by
  refine Met.ofW (cc := b_OR_sumPieces) (maxL := 4) (ret := none) (by decide) rfl ?_
  intro p e s m args below meth c s₁ B hml hq
  obtain ⟨rfl, hsz, hP, hK, hD0⟩ := hq
  have hts := atoms_spec (ws := Cond.code y_OR_sumPieces b_OR_sumPieces 4 none :: WT) B.pre
  have hw : ∀ w ∈ WT, w.before ([.ref h_t] : List Value).toArray s = true := fun w h => hts w (List.mem_cons_of_mem _ h)
  have hx := B.exec
  have hb := B.bytes
  have hr := B.returns
  have hlk := B.notSynchronized
  have hown : s.vm.findClass "SuffixIndex$SuffixOrder" = some m.cls := findClass_of_methodNamed B.named
  have F : CallFix p m c b_OR_sumPieces 4 s ([.ref h_t] : List Value).toArray WT "SuffixIndex$SuffixOrder" := ⟨hx, hb, hml, hown, hw⟩
  subst hsz
  have hD := hD0.self (sz := s.heap.size)
  generalize hAe : va_A [(h_t, .inr (3, [.ref h_sorted, .ref h_ranks, .ref h_alikeBefore, .ref h_piecesUpTo, .ref h_sorter, .ref h_library, .int z_first, .int z_size, .int z_locatedRank, .int z_locatedLength])), (h_sorted, .inl (cI, 16448, .inl z_sorted)), (h_alikeBefore, .inl (cI, 16448, .inl z_alikeBefore)), (h_piecesUpTo, .inl (cJ, 16448, .inr (.inl z_piecesUpTo))), (h_library, .inr (1, [.ref h_library_text, .ref h_library_owners, .ref h_library_starts, .int z_library_documents, .int z_library_indexed])), (h_library_owners, .inl (cI, 16448, .inl z_library_owners)), (h_library_starts, .inl (cI, 65, .inl z_library_starts))] s.heap.size = A at hD ⊢
  have hA : ∀ q : Nat, s.heap.size ≤ q → A q := fun q h => by rw [← hAe]; exact Or.inr h
  have hS : va_S A s.heap s.heap [] := va_S.rf
  have hl := lv_entry ([.ref h_t]) (n := 4) (Nat.le_of_ble_eq_true rfl)
  rw [lg_entry_eq]
  generalize (lg_sl ([.ref h_t]) ++ List.replicate (4 - (lg_sl ([.ref h_t])).length) Slot.unset).toArray = ls at hl ⊢
  have hl : lv_has ls 4 [(0, .ref h_t)] := hl
  show W p l e rm_OR_sumPieces s m _ below meth c s.heap [] 0 0 _ _
  have hP : va_P (dC, dI) classes [(h_t, .inr (3, [.ref h_sorted, .ref h_ranks, .ref h_alikeBefore, .ref h_piecesUpTo, .ref h_sorter, .ref h_library, .int z_first, .int z_size, .int z_locatedRank, .int z_locatedLength])), (h_sorted, .inl (cI, 16448, .inl z_sorted)), (h_alikeBefore, .inl (cI, 16448, .inl z_alikeBefore)), (h_piecesUpTo, .inl (cJ, 16448, .inr (.inl z_piecesUpTo))), (h_library, .inr (1, [.ref h_library_text, .ref h_library_owners, .ref h_library_starts, .int z_library_documents, .int z_library_indexed])), (h_library_owners, .inl (cI, 16448, .inl z_library_owners)), (h_library_starts, .inl (cI, 65, .inl z_library_starts))] s.heap := hP
  obtain ⟨H, hHe⟩ : ∃ H, H = s.heap := ⟨_, rfl⟩
  have hS : va_S A s.heap H [] := by rw [hHe]; exact hS
  rw [← hHe] at hP
  suffices hgoal : W p l e rm_OR_sumPieces s m ([.ref h_t] : List Value).toArray below meth c H [] 0 0 (MQ below (va_Qv (fun u : (Nat → Int64) => post u) (fun u t => cAft (dC, dI) classes (TYS cI cJ cB cZ) A [(h_t, .inr (3, [.ref h_sorted, .ref h_ranks, .ref h_alikeBefore, .ref h_piecesUpTo, .ref h_sorter, .ref h_library, .int z_first, .int z_size, .int z_locatedRank, .int z_locatedLength])), (h_sorted, .inl (cI, 16448, .inl z_sorted)), (h_alikeBefore, .inl (cI, 16448, .inl z_alikeBefore)), (h_piecesUpTo, .inl (cJ, 16448, .inr (.inl u))), (h_library, .inr (1, [.ref h_library_text, .ref h_library_owners, .ref h_library_starts, .int z_library_documents, .int z_library_indexed])), (h_library_owners, .inl (cI, 16448, .inl z_library_owners)), (h_library_starts, .inl (cI, 65, .inl z_library_starts))] t) A) ([.ref h_t] : List Value).toArray s 0 0 A) (F0 m 0 ls []) by rw [hHe] at hgoal; exact hgoal
  refine lv_lconst (v := 0) hx hb d_OR_sumPieces_0 (by decide) ?_
  refine lv_lstore_n (lv' := [(1, .long 0), (0, .ref h_t)]) hx hb d_OR_sumPieces_1 rfl hl (by decide) rfl (fun ls hl => ?_)
  refine lv_aload_n hx hb d_OR_sumPieces_2 rfl (lv_at hl 1 rfl) ?_
  refine va_get (D := (dC, dI)) (ci := 3) (v := .int z_first) (C := "SuffixIndex$SuffixOrder") (T := F_OR) (N := 10) hx hb hw i_OR hown hK hP 0 rfl rfl 6 (by decide) (hw _ m_133) (fun _ h9 => h9) rfl d_OR_sumPieces_3 ?_
  refine lv_istore_n (lv' := [(3, .int z_first), (1, .long 0), (0, .ref h_t)]) hx hb d_OR_sumPieces_6 rfl hl (by decide) rfl (fun ls hl => ?_)
  obtain ⟨j, hv⟩ := hv
  exact wk_OR_sumPieces_7 F hr hlk hK hA j 0 z_first z_piecesUpTo hv _ _ _ hP hD hS (lv_sub hl [2, 1, 0] rfl)

set_option maxHeartbeats 4000000 in
set_option maxRecDepth 100000 in
theorem c_OR_renew (l : Launch) (dC : Nat → ClassId) (dI : Nat → Nat → Nat) (cI cJ cB cZ : ClassId) (h_t : Nat) (h_sorted : Nat) (h_ranks : Nat) (h_alikeBefore : Nat) (h_piecesUpTo : Nat) (h_sorter : Nat) (h_library : Nat) (h_sorter_byTail : Nat) (h_sorter_newRanks : Nat) (h_sorter_tally : Nat) (h_library_text : Nat) (h_library_owners : Nat) (h_library_starts : Nat) (sz : Nat) (z_first : Int32) (z_size : Int32) (z_locatedRank : Int32) (z_locatedLength : Int32) (z_sorted : Nat → Int32) (z_ranks : Nat → Int32) (z_alikeBefore : Nat → Int32) (z_piecesUpTo : Nat → Int64) (z_sorter_size : Int32) (z_sorter_byTail : Nat → Int32) (z_sorter_newRanks : Nat → Int32) (z_sorter_tally : Nat → Int32) (z_library_documents : Int32) (z_library_indexed : Int32) (z_library_text : Nat → Int32) (z_library_owners : Nat → Int32) (z_library_starts : Nat → Int32) (post : Int32 → Int32 → (Nat → Int32) → (Nat → Int32) → (Nat → Int32) → (Nat → Int64) → Int32 → (Nat → Int32) → (Nat → Int32) → (Nat → Int32) → Prop) (hv : vc_OR_renew z_library_indexed z_library_text z_library_owners z_library_starts post z_first z_size z_sorted z_ranks z_alikeBefore z_piecesUpTo z_sorter_size z_sorter_byTail z_sorter_newRanks z_sorter_tally) : Met l y_OR_renew (Cond.code y_OR_renew b_OR_renew 1 none :: WT) rm_OR_renew (cPre (dC, dI) classes (TYS cI cJ cB cZ) [(h_t, .inr (3, [.ref h_sorted, .ref h_ranks, .ref h_alikeBefore, .ref h_piecesUpTo, .ref h_sorter, .ref h_library, .int z_first, .int z_size, .int z_locatedRank, .int z_locatedLength])), (h_sorted, .inl (cI, 16448, .inl z_sorted)), (h_ranks, .inl (cI, 16448, .inl z_ranks)), (h_alikeBefore, .inl (cI, 16448, .inl z_alikeBefore)), (h_piecesUpTo, .inl (cJ, 16448, .inr (.inl z_piecesUpTo))), (h_sorter, .inr (2, [.ref h_sorter_byTail, .ref h_sorter_newRanks, .ref h_sorter_tally, .int z_sorter_size])), (h_sorter_byTail, .inl (cI, 16448, .inl z_sorter_byTail)), (h_sorter_newRanks, .inl (cI, 16448, .inl z_sorter_newRanks)), (h_sorter_tally, .inl (cI, 16448, .inl z_sorter_tally)), (h_library, .inr (1, [.ref h_library_text, .ref h_library_owners, .ref h_library_starts, .int z_library_documents, .int z_library_indexed])), (h_library_text, .inl (cI, 16448, .inl z_library_text)), (h_library_owners, .inl (cI, 16448, .inl z_library_owners)), (h_library_starts, .inl (cI, 65, .inl z_library_starts))] sz [.ref h_t]) (va_Qv (fun u : Int32 × Int32 × (Nat → Int32) × (Nat → Int32) × (Nat → Int32) × (Nat → Int64) × Int32 × (Nat → Int32) × (Nat → Int32) × (Nat → Int32) => post u.1 u.2.1 u.2.2.1 u.2.2.2.1 u.2.2.2.2.1 u.2.2.2.2.2.1 u.2.2.2.2.2.2.1 u.2.2.2.2.2.2.2.1 u.2.2.2.2.2.2.2.2.1 u.2.2.2.2.2.2.2.2.2) (fun u t => cAft (dC, dI) classes (TYS cI cJ cB cZ) (va_A [(h_t, .inr (3, [.ref h_sorted, .ref h_ranks, .ref h_alikeBefore, .ref h_piecesUpTo, .ref h_sorter, .ref h_library, .int z_first, .int z_size, .int z_locatedRank, .int z_locatedLength])), (h_sorted, .inl (cI, 16448, .inl z_sorted)), (h_ranks, .inl (cI, 16448, .inl z_ranks)), (h_alikeBefore, .inl (cI, 16448, .inl z_alikeBefore)), (h_piecesUpTo, .inl (cJ, 16448, .inr (.inl z_piecesUpTo))), (h_sorter, .inr (2, [.ref h_sorter_byTail, .ref h_sorter_newRanks, .ref h_sorter_tally, .int z_sorter_size])), (h_sorter_byTail, .inl (cI, 16448, .inl z_sorter_byTail)), (h_sorter_newRanks, .inl (cI, 16448, .inl z_sorter_newRanks)), (h_sorter_tally, .inl (cI, 16448, .inl z_sorter_tally)), (h_library, .inr (1, [.ref h_library_text, .ref h_library_owners, .ref h_library_starts, .int z_library_documents, .int z_library_indexed])), (h_library_text, .inl (cI, 16448, .inl z_library_text)), (h_library_owners, .inl (cI, 16448, .inl z_library_owners)), (h_library_starts, .inl (cI, 65, .inl z_library_starts))] sz) [(h_t, .inr (3, [.ref h_sorted, .ref h_ranks, .ref h_alikeBefore, .ref h_piecesUpTo, .ref h_sorter, .ref h_library, .int u.1, .int u.2.1, .int z_locatedRank, .int z_locatedLength])), (h_sorted, .inl (cI, 16448, .inl u.2.2.1)), (h_ranks, .inl (cI, 16448, .inl u.2.2.2.1)), (h_alikeBefore, .inl (cI, 16448, .inl u.2.2.2.2.1)), (h_piecesUpTo, .inl (cJ, 16448, .inr (.inl u.2.2.2.2.2.1))), (h_sorter, .inr (2, [.ref h_sorter_byTail, .ref h_sorter_newRanks, .ref h_sorter_tally, .int u.2.2.2.2.2.2.1])), (h_sorter_byTail, .inl (cI, 16448, .inl u.2.2.2.2.2.2.2.1)), (h_sorter_newRanks, .inl (cI, 16448, .inl u.2.2.2.2.2.2.2.2.1)), (h_sorter_tally, .inl (cI, 16448, .inl u.2.2.2.2.2.2.2.2.2)), (h_library, .inr (1, [.ref h_library_text, .ref h_library_owners, .ref h_library_starts, .int z_library_documents, .int z_library_indexed])), (h_library_text, .inl (cI, 16448, .inl z_library_text)), (h_library_owners, .inl (cI, 16448, .inl z_library_owners)), (h_library_starts, .inl (cI, 65, .inl z_library_starts))] t) (va_A [(h_t, .inr (3, [.ref h_sorted, .ref h_ranks, .ref h_alikeBefore, .ref h_piecesUpTo, .ref h_sorter, .ref h_library, .int z_first, .int z_size, .int z_locatedRank, .int z_locatedLength])), (h_sorted, .inl (cI, 16448, .inl z_sorted)), (h_ranks, .inl (cI, 16448, .inl z_ranks)), (h_alikeBefore, .inl (cI, 16448, .inl z_alikeBefore)), (h_piecesUpTo, .inl (cJ, 16448, .inr (.inl z_piecesUpTo))), (h_sorter, .inr (2, [.ref h_sorter_byTail, .ref h_sorter_newRanks, .ref h_sorter_tally, .int z_sorter_size])), (h_sorter_byTail, .inl (cI, 16448, .inl z_sorter_byTail)), (h_sorter_newRanks, .inl (cI, 16448, .inl z_sorter_newRanks)), (h_sorter_tally, .inl (cI, 16448, .inl z_sorter_tally)), (h_library, .inr (1, [.ref h_library_text, .ref h_library_owners, .ref h_library_starts, .int z_library_documents, .int z_library_indexed])), (h_library_text, .inl (cI, 16448, .inl z_library_text)), (h_library_owners, .inl (cI, 16448, .inl z_library_owners)), (h_library_starts, .inl (cI, 65, .inl z_library_starts))] sz)) 0 0 (va_A [(h_t, .inr (3, [.ref h_sorted, .ref h_ranks, .ref h_alikeBefore, .ref h_piecesUpTo, .ref h_sorter, .ref h_library, .int z_first, .int z_size, .int z_locatedRank, .int z_locatedLength])), (h_sorted, .inl (cI, 16448, .inl z_sorted)), (h_ranks, .inl (cI, 16448, .inl z_ranks)), (h_alikeBefore, .inl (cI, 16448, .inl z_alikeBefore)), (h_piecesUpTo, .inl (cJ, 16448, .inr (.inl z_piecesUpTo))), (h_sorter, .inr (2, [.ref h_sorter_byTail, .ref h_sorter_newRanks, .ref h_sorter_tally, .int z_sorter_size])), (h_sorter_byTail, .inl (cI, 16448, .inl z_sorter_byTail)), (h_sorter_newRanks, .inl (cI, 16448, .inl z_sorter_newRanks)), (h_sorter_tally, .inl (cI, 16448, .inl z_sorter_tally)), (h_library, .inr (1, [.ref h_library_text, .ref h_library_owners, .ref h_library_starts, .int z_library_documents, .int z_library_indexed])), (h_library_text, .inl (cI, 16448, .inl z_library_text)), (h_library_owners, .inl (cI, 16448, .inl z_library_owners)), (h_library_starts, .inl (cI, 65, .inl z_library_starts))] sz) := by
  refine Met.ofW (cc := b_OR_renew) (maxL := 1) (ret := none) (by decide) rfl ?_
  intro p e s m args below meth c s₁ B hml hq
  obtain ⟨rfl, hsz, hP, hK, hD0⟩ := hq
  have hts := atoms_spec (ws := Cond.code y_OR_renew b_OR_renew 1 none :: WT) B.pre
  have hw : ∀ w ∈ WT, w.before ([.ref h_t] : List Value).toArray s = true := fun w h => hts w (List.mem_cons_of_mem _ h)
  have hx := B.exec
  have hb := B.bytes
  have hr := B.returns
  have hlk := B.notSynchronized
  have hown : s.vm.findClass "SuffixIndex$SuffixOrder" = some m.cls := findClass_of_methodNamed B.named
  have F : CallFix p m c b_OR_renew 1 s ([.ref h_t] : List Value).toArray WT "SuffixIndex$SuffixOrder" := ⟨hx, hb, hml, hown, hw⟩
  subst hsz
  have hD := hD0.self (sz := s.heap.size)
  generalize hAe : va_A [(h_t, .inr (3, [.ref h_sorted, .ref h_ranks, .ref h_alikeBefore, .ref h_piecesUpTo, .ref h_sorter, .ref h_library, .int z_first, .int z_size, .int z_locatedRank, .int z_locatedLength])), (h_sorted, .inl (cI, 16448, .inl z_sorted)), (h_ranks, .inl (cI, 16448, .inl z_ranks)), (h_alikeBefore, .inl (cI, 16448, .inl z_alikeBefore)), (h_piecesUpTo, .inl (cJ, 16448, .inr (.inl z_piecesUpTo))), (h_sorter, .inr (2, [.ref h_sorter_byTail, .ref h_sorter_newRanks, .ref h_sorter_tally, .int z_sorter_size])), (h_sorter_byTail, .inl (cI, 16448, .inl z_sorter_byTail)), (h_sorter_newRanks, .inl (cI, 16448, .inl z_sorter_newRanks)), (h_sorter_tally, .inl (cI, 16448, .inl z_sorter_tally)), (h_library, .inr (1, [.ref h_library_text, .ref h_library_owners, .ref h_library_starts, .int z_library_documents, .int z_library_indexed])), (h_library_text, .inl (cI, 16448, .inl z_library_text)), (h_library_owners, .inl (cI, 16448, .inl z_library_owners)), (h_library_starts, .inl (cI, 65, .inl z_library_starts))] s.heap.size = A at hD ⊢
  have hA : ∀ q : Nat, s.heap.size ≤ q → A q := fun q h => by rw [← hAe]; exact Or.inr h
  have hS : va_S A s.heap s.heap [] := va_S.rf
  have hl := lv_entry ([.ref h_t]) (n := 1) (Nat.le_of_ble_eq_true rfl)
  rw [lg_entry_eq]
  generalize (lg_sl ([.ref h_t]) ++ List.replicate (1 - (lg_sl ([.ref h_t])).length) Slot.unset).toArray = ls at hl ⊢
  have hl : lv_has ls 1 [(0, .ref h_t)] := hl
  show W p l e rm_OR_renew s m _ below meth c s.heap [] 0 0 _ _
  have hP : va_P (dC, dI) classes [(h_t, .inr (3, [.ref h_sorted, .ref h_ranks, .ref h_alikeBefore, .ref h_piecesUpTo, .ref h_sorter, .ref h_library, .int z_first, .int z_size, .int z_locatedRank, .int z_locatedLength])), (h_sorted, .inl (cI, 16448, .inl z_sorted)), (h_ranks, .inl (cI, 16448, .inl z_ranks)), (h_alikeBefore, .inl (cI, 16448, .inl z_alikeBefore)), (h_piecesUpTo, .inl (cJ, 16448, .inr (.inl z_piecesUpTo))), (h_sorter, .inr (2, [.ref h_sorter_byTail, .ref h_sorter_newRanks, .ref h_sorter_tally, .int z_sorter_size])), (h_sorter_byTail, .inl (cI, 16448, .inl z_sorter_byTail)), (h_sorter_newRanks, .inl (cI, 16448, .inl z_sorter_newRanks)), (h_sorter_tally, .inl (cI, 16448, .inl z_sorter_tally)), (h_library, .inr (1, [.ref h_library_text, .ref h_library_owners, .ref h_library_starts, .int z_library_documents, .int z_library_indexed])), (h_library_text, .inl (cI, 16448, .inl z_library_text)), (h_library_owners, .inl (cI, 16448, .inl z_library_owners)), (h_library_starts, .inl (cI, 65, .inl z_library_starts))] s.heap := hP
  obtain ⟨H, hHe⟩ : ∃ H, H = s.heap := ⟨_, rfl⟩
  have hS : va_S A s.heap H [] := by rw [hHe]; exact hS
  rw [← hHe] at hP
  suffices hgoal : W p l e rm_OR_renew s m ([.ref h_t] : List Value).toArray below meth c H [] 0 0 (MQ below (va_Qv (fun u : Int32 × Int32 × (Nat → Int32) × (Nat → Int32) × (Nat → Int32) × (Nat → Int64) × Int32 × (Nat → Int32) × (Nat → Int32) × (Nat → Int32) => post u.1 u.2.1 u.2.2.1 u.2.2.2.1 u.2.2.2.2.1 u.2.2.2.2.2.1 u.2.2.2.2.2.2.1 u.2.2.2.2.2.2.2.1 u.2.2.2.2.2.2.2.2.1 u.2.2.2.2.2.2.2.2.2) (fun u t => cAft (dC, dI) classes (TYS cI cJ cB cZ) A [(h_t, .inr (3, [.ref h_sorted, .ref h_ranks, .ref h_alikeBefore, .ref h_piecesUpTo, .ref h_sorter, .ref h_library, .int u.1, .int u.2.1, .int z_locatedRank, .int z_locatedLength])), (h_sorted, .inl (cI, 16448, .inl u.2.2.1)), (h_ranks, .inl (cI, 16448, .inl u.2.2.2.1)), (h_alikeBefore, .inl (cI, 16448, .inl u.2.2.2.2.1)), (h_piecesUpTo, .inl (cJ, 16448, .inr (.inl u.2.2.2.2.2.1))), (h_sorter, .inr (2, [.ref h_sorter_byTail, .ref h_sorter_newRanks, .ref h_sorter_tally, .int u.2.2.2.2.2.2.1])), (h_sorter_byTail, .inl (cI, 16448, .inl u.2.2.2.2.2.2.2.1)), (h_sorter_newRanks, .inl (cI, 16448, .inl u.2.2.2.2.2.2.2.2.1)), (h_sorter_tally, .inl (cI, 16448, .inl u.2.2.2.2.2.2.2.2.2)), (h_library, .inr (1, [.ref h_library_text, .ref h_library_owners, .ref h_library_starts, .int z_library_documents, .int z_library_indexed])), (h_library_text, .inl (cI, 16448, .inl z_library_text)), (h_library_owners, .inl (cI, 16448, .inl z_library_owners)), (h_library_starts, .inl (cI, 65, .inl z_library_starts))] t) A) ([.ref h_t] : List Value).toArray s 0 0 A) (F0 m 0 ls []) by rw [hHe] at hgoal; exact hgoal
  refine lv_aload_n hx hb d_OR_renew_0 rfl (lv_at hl 0 rfl) ?_
  refine lv_aload_n hx hb d_OR_renew_1 rfl (lv_at hl 0 rfl) ?_
  refine va_get (D := (dC, dI)) (ci := 3) (v := .ref h_library) (C := "SuffixIndex$SuffixOrder") (T := F_OR) (N := 10) hx hb hw i_OR hown hK hP 0 rfl rfl 5 (by decide) (hw _ m_132) (fun _ h9 => h9) rfl d_OR_renew_2 ?_
  refine va_get (D := (dC, dI)) (ci := 1) (v := .int z_library_indexed) (C := "SuffixIndex$Library") (T := F_LB) (N := 5) hx hb hw i_LB hown hK hP 9 rfl rfl 4 (by decide) (hw _ m_77) (fun _ h9 => h9) rfl d_OR_renew_5 ?_
  refine va_put (D := (dC, dI)) (ci := 3) (v := .int z_library_indexed) (ty := .int) (C := "SuffixIndex$SuffixOrder") (T := F_OR) (N := 10) hx hb hw i_OR t_OR t_OR_ok n_OR hown hK hP hD hS 0 rfl rfl 6 (by decide) (hw _ m_133) (fun _ h9 => h9) rfl (by decide +kernel) rfl rfl (Nat.le_of_ble_eq_true rfl) d_OR_renew_8 (fun H locs hP hD hS => ?_)
  have hP : va_P (dC, dI) classes [(h_t, .inr (3, [.ref h_sorted, .ref h_ranks, .ref h_alikeBefore, .ref h_piecesUpTo, .ref h_sorter, .ref h_library, .int z_library_indexed, .int z_size, .int z_locatedRank, .int z_locatedLength])), (h_sorted, .inl (cI, 16448, .inl z_sorted)), (h_ranks, .inl (cI, 16448, .inl z_ranks)), (h_alikeBefore, .inl (cI, 16448, .inl z_alikeBefore)), (h_piecesUpTo, .inl (cJ, 16448, .inr (.inl z_piecesUpTo))), (h_sorter, .inr (2, [.ref h_sorter_byTail, .ref h_sorter_newRanks, .ref h_sorter_tally, .int z_sorter_size])), (h_sorter_byTail, .inl (cI, 16448, .inl z_sorter_byTail)), (h_sorter_newRanks, .inl (cI, 16448, .inl z_sorter_newRanks)), (h_sorter_tally, .inl (cI, 16448, .inl z_sorter_tally)), (h_library, .inr (1, [.ref h_library_text, .ref h_library_owners, .ref h_library_starts, .int z_library_documents, .int z_library_indexed])), (h_library_text, .inl (cI, 16448, .inl z_library_text)), (h_library_owners, .inl (cI, 16448, .inl z_library_owners)), (h_library_starts, .inl (cI, 65, .inl z_library_starts))] H := hP
  have hD : va_D A [(h_t, .inr (3, [.ref h_sorted, .ref h_ranks, .ref h_alikeBefore, .ref h_piecesUpTo, .ref h_sorter, .ref h_library, .int z_library_indexed, .int z_size, .int z_locatedRank, .int z_locatedLength])), (h_sorted, .inl (cI, 16448, .inl z_sorted)), (h_ranks, .inl (cI, 16448, .inl z_ranks)), (h_alikeBefore, .inl (cI, 16448, .inl z_alikeBefore)), (h_piecesUpTo, .inl (cJ, 16448, .inr (.inl z_piecesUpTo))), (h_sorter, .inr (2, [.ref h_sorter_byTail, .ref h_sorter_newRanks, .ref h_sorter_tally, .int z_sorter_size])), (h_sorter_byTail, .inl (cI, 16448, .inl z_sorter_byTail)), (h_sorter_newRanks, .inl (cI, 16448, .inl z_sorter_newRanks)), (h_sorter_tally, .inl (cI, 16448, .inl z_sorter_tally)), (h_library, .inr (1, [.ref h_library_text, .ref h_library_owners, .ref h_library_starts, .int z_library_documents, .int z_library_indexed])), (h_library_text, .inl (cI, 16448, .inl z_library_text)), (h_library_owners, .inl (cI, 16448, .inl z_library_owners)), (h_library_starts, .inl (cI, 65, .inl z_library_starts))] := hD
  refine lv_aload_n hx hb d_OR_renew_11 rfl (lv_at hl 0 rfl) ?_
  refine lv_aload_n hx hb d_OR_renew_12 rfl (lv_at hl 0 rfl) ?_
  refine va_get (D := (dC, dI)) (ci := 3) (v := .ref h_library) (C := "SuffixIndex$SuffixOrder") (T := F_OR) (N := 10) hx hb hw i_OR hown hK hP 0 rfl rfl 5 (by decide) (hw _ m_132) (fun _ h9 => h9) rfl d_OR_renew_13 ?_
  refine cV_i (wr := [(h_t, .inr (3, [.ref h_sorted, .ref h_ranks, .ref h_alikeBefore, .ref h_piecesUpTo, .ref h_sorter, .ref h_library, .int z_library_indexed, .int z_size, .int z_locatedRank, .int z_locatedLength])), (h_sorted, .inl (cI, 16448, .inl z_sorted)), (h_ranks, .inl (cI, 16448, .inl z_ranks)), (h_alikeBefore, .inl (cI, 16448, .inl z_alikeBefore)), (h_piecesUpTo, .inl (cJ, 16448, .inr (.inl z_piecesUpTo))), (h_sorter, .inr (2, [.ref h_sorter_byTail, .ref h_sorter_newRanks, .ref h_sorter_tally, .int z_sorter_size])), (h_sorter_byTail, .inl (cI, 16448, .inl z_sorter_byTail)), (h_sorter_newRanks, .inl (cI, 16448, .inl z_sorter_newRanks)), (h_sorter_tally, .inl (cI, 16448, .inl z_sorter_tally)), (h_library_text, .inl (cI, 16448, .inl z_library_text)), (h_library_owners, .inl (cI, 16448, .inl z_library_owners))]) (rest := [.ref h_t]) (c_LB_indexedText l dC dI cI cJ cB cZ h_library h_library_text h_library_owners h_library_starts H.size z_library_documents z_library_indexed z_library_starts _ hv) F (cw_V (fun _ h => h) 0 hw m_307 m_308 m_309 m_3 m_310 rfl rfl (by decide +kernel) ⟨by decide, by decide⟩) hK hP hD hS hA [9, 12] [0, 1, 2, 3, 4, 5, 6, 7, 8, 10, 11] rfl rfl rfl rfl (by decide) 0 1 rfl rfl rfl hl.1 rfl (Nat.le_of_ble_eq_true rfl) d_OR_renew_16 ⟨Nat.le_of_ble_eq_true rfl, Nat.le_of_ble_eq_true rfl⟩ (fun r1 u H locs hv hP hD hS => ?_)
  have hP : va_P (dC, dI) classes [(h_t, .inr (3, [.ref h_sorted, .ref h_ranks, .ref h_alikeBefore, .ref h_piecesUpTo, .ref h_sorter, .ref h_library, .int z_library_indexed, .int z_size, .int z_locatedRank, .int z_locatedLength])), (h_sorted, .inl (cI, 16448, .inl z_sorted)), (h_ranks, .inl (cI, 16448, .inl z_ranks)), (h_alikeBefore, .inl (cI, 16448, .inl z_alikeBefore)), (h_piecesUpTo, .inl (cJ, 16448, .inr (.inl z_piecesUpTo))), (h_sorter, .inr (2, [.ref h_sorter_byTail, .ref h_sorter_newRanks, .ref h_sorter_tally, .int z_sorter_size])), (h_sorter_byTail, .inl (cI, 16448, .inl z_sorter_byTail)), (h_sorter_newRanks, .inl (cI, 16448, .inl z_sorter_newRanks)), (h_sorter_tally, .inl (cI, 16448, .inl z_sorter_tally)), (h_library, .inr (1, [.ref h_library_text, .ref h_library_owners, .ref h_library_starts, .int z_library_documents, .int z_library_indexed])), (h_library_text, .inl (cI, 16448, .inl z_library_text)), (h_library_owners, .inl (cI, 16448, .inl z_library_owners)), (h_library_starts, .inl (cI, 65, .inl z_library_starts))] H := P_sub hP [0, 1, 2, 3, 4, 5, 6, 7, 8, 11, 9, 10, 12] rfl
  have hD : va_D A [(h_t, .inr (3, [.ref h_sorted, .ref h_ranks, .ref h_alikeBefore, .ref h_piecesUpTo, .ref h_sorter, .ref h_library, .int z_library_indexed, .int z_size, .int z_locatedRank, .int z_locatedLength])), (h_sorted, .inl (cI, 16448, .inl z_sorted)), (h_ranks, .inl (cI, 16448, .inl z_ranks)), (h_alikeBefore, .inl (cI, 16448, .inl z_alikeBefore)), (h_piecesUpTo, .inl (cJ, 16448, .inr (.inl z_piecesUpTo))), (h_sorter, .inr (2, [.ref h_sorter_byTail, .ref h_sorter_newRanks, .ref h_sorter_tally, .int z_sorter_size])), (h_sorter_byTail, .inl (cI, 16448, .inl z_sorter_byTail)), (h_sorter_newRanks, .inl (cI, 16448, .inl z_sorter_newRanks)), (h_sorter_tally, .inl (cI, 16448, .inl z_sorter_tally)), (h_library, .inr (1, [.ref h_library_text, .ref h_library_owners, .ref h_library_starts, .int z_library_documents, .int z_library_indexed])), (h_library_text, .inl (cI, 16448, .inl z_library_text)), (h_library_owners, .inl (cI, 16448, .inl z_library_owners)), (h_library_starts, .inl (cI, 65, .inl z_library_starts))] := hD.sub [0, 1, 2, 3, 4, 5, 6, 7, 8, 11, 9, 10, 12] rfl rfl
  refine va_put (D := (dC, dI)) (ci := 3) (v := .int r1) (ty := .int) (C := "SuffixIndex$SuffixOrder") (T := F_OR) (N := 10) hx hb hw i_OR t_OR t_OR_ok n_OR hown hK hP hD hS 0 rfl rfl 7 (by decide) (hw _ m_137) (fun _ h9 => h9) rfl (by decide +kernel) rfl rfl (Nat.le_of_ble_eq_true rfl) d_OR_renew_19 (fun H locs hP hD hS => ?_)
  have hP : va_P (dC, dI) classes [(h_t, .inr (3, [.ref h_sorted, .ref h_ranks, .ref h_alikeBefore, .ref h_piecesUpTo, .ref h_sorter, .ref h_library, .int z_library_indexed, .int r1, .int z_locatedRank, .int z_locatedLength])), (h_sorted, .inl (cI, 16448, .inl z_sorted)), (h_ranks, .inl (cI, 16448, .inl z_ranks)), (h_alikeBefore, .inl (cI, 16448, .inl z_alikeBefore)), (h_piecesUpTo, .inl (cJ, 16448, .inr (.inl z_piecesUpTo))), (h_sorter, .inr (2, [.ref h_sorter_byTail, .ref h_sorter_newRanks, .ref h_sorter_tally, .int z_sorter_size])), (h_sorter_byTail, .inl (cI, 16448, .inl z_sorter_byTail)), (h_sorter_newRanks, .inl (cI, 16448, .inl z_sorter_newRanks)), (h_sorter_tally, .inl (cI, 16448, .inl z_sorter_tally)), (h_library, .inr (1, [.ref h_library_text, .ref h_library_owners, .ref h_library_starts, .int z_library_documents, .int z_library_indexed])), (h_library_text, .inl (cI, 16448, .inl z_library_text)), (h_library_owners, .inl (cI, 16448, .inl z_library_owners)), (h_library_starts, .inl (cI, 65, .inl z_library_starts))] H := hP
  have hD : va_D A [(h_t, .inr (3, [.ref h_sorted, .ref h_ranks, .ref h_alikeBefore, .ref h_piecesUpTo, .ref h_sorter, .ref h_library, .int z_library_indexed, .int r1, .int z_locatedRank, .int z_locatedLength])), (h_sorted, .inl (cI, 16448, .inl z_sorted)), (h_ranks, .inl (cI, 16448, .inl z_ranks)), (h_alikeBefore, .inl (cI, 16448, .inl z_alikeBefore)), (h_piecesUpTo, .inl (cJ, 16448, .inr (.inl z_piecesUpTo))), (h_sorter, .inr (2, [.ref h_sorter_byTail, .ref h_sorter_newRanks, .ref h_sorter_tally, .int z_sorter_size])), (h_sorter_byTail, .inl (cI, 16448, .inl z_sorter_byTail)), (h_sorter_newRanks, .inl (cI, 16448, .inl z_sorter_newRanks)), (h_sorter_tally, .inl (cI, 16448, .inl z_sorter_tally)), (h_library, .inr (1, [.ref h_library_text, .ref h_library_owners, .ref h_library_starts, .int z_library_documents, .int z_library_indexed])), (h_library_text, .inl (cI, 16448, .inl z_library_text)), (h_library_owners, .inl (cI, 16448, .inl z_library_owners)), (h_library_starts, .inl (cI, 65, .inl z_library_starts))] := hD
  refine lv_aload_n hx hb d_OR_renew_22 rfl (lv_at hl 0 rfl) ?_
  refine va_get (D := (dC, dI)) (ci := 3) (v := .int r1) (C := "SuffixIndex$SuffixOrder") (T := F_OR) (N := 10) hx hb hw i_OR hown hK hP 0 rfl rfl 7 (by decide) (hw _ m_137) (fun _ h9 => h9) rfl d_OR_renew_23 ?_
  obtain ⟨hvt, hvf⟩ := hv
  refine lv_if_le (tgt := 63) hx hb d_OR_renew_26 (by decide) (fun c2 => ?_) (fun c2 => ?_)
  · have hv := hvt c2
    exact W.vret hx hb hr (fun t ht hW => ⟨⟨(z_library_indexed, r1, z_sorted, z_ranks, z_alikeBefore, z_piecesUpTo, z_sorter_size, z_sorter_byTail, z_sorter_newRanks, z_sorter_tally), rfl, hv, by rw [ht]; exact hP, va_K.moved hW.alike hK, hD⟩, hS.F ht⟩) hS.2.2 d_OR_renew_63
  · have hv := hvf c2
    refine lv_aload_n hx hb d_OR_renew_29 rfl (lv_at hl 0 rfl) ?_
    refine va_get (D := (dC, dI)) (ci := 3) (v := .ref h_sorter) (C := "SuffixIndex$SuffixOrder") (T := F_OR) (N := 10) hx hb hw i_OR hown hK hP 0 rfl rfl 4 (by decide) (hw _ m_131) (fun _ h9 => h9) rfl d_OR_renew_30 ?_
    refine lv_aload_n hx hb d_OR_renew_33 rfl (lv_at hl 0 rfl) ?_
    refine va_get (D := (dC, dI)) (ci := 3) (v := .ref h_library) (C := "SuffixIndex$SuffixOrder") (T := F_OR) (N := 10) hx hb hw i_OR hown hK hP 0 rfl rfl 5 (by decide) (hw _ m_132) (fun _ h9 => h9) rfl d_OR_renew_34 ?_
    refine va_get (D := (dC, dI)) (ci := 1) (v := .ref h_library_text) (C := "SuffixIndex$Library") (T := F_LB) (N := 5) hx hb hw i_LB hown hK hP 9 rfl rfl 0 (by decide) (hw _ m_66) (fun _ h9 => h9) rfl d_OR_renew_37 ?_
    refine lv_aload_n hx hb d_OR_renew_40 rfl (lv_at hl 0 rfl) ?_
    refine va_get (D := (dC, dI)) (ci := 3) (v := .int r1) (C := "SuffixIndex$SuffixOrder") (T := F_OR) (N := 10) hx hb hw i_OR hown hK hP 0 rfl rfl 7 (by decide) (hw _ m_137) (fun _ h9 => h9) rfl d_OR_renew_41 ?_
    refine lv_aload_n hx hb d_OR_renew_44 rfl (lv_at hl 0 rfl) ?_
    refine va_get (D := (dC, dI)) (ci := 3) (v := .ref h_sorted) (C := "SuffixIndex$SuffixOrder") (T := F_OR) (N := 10) hx hb hw i_OR hown hK hP 0 rfl rfl 0 (by decide) (hw _ m_118) (fun _ h9 => h9) rfl d_OR_renew_45 ?_
    refine lv_aload_n hx hb d_OR_renew_48 rfl (lv_at hl 0 rfl) ?_
    refine va_get (D := (dC, dI)) (ci := 3) (v := .ref h_ranks) (C := "SuffixIndex$SuffixOrder") (T := F_OR) (N := 10) hx hb hw i_OR hown hK hP 0 rfl rfl 1 (by decide) (hw _ m_122) (fun _ h9 => h9) rfl d_OR_renew_49 ?_
    refine cV_v (wr := [(h_t, .inr (3, [.ref h_sorted, .ref h_ranks, .ref h_alikeBefore, .ref h_piecesUpTo, .ref h_sorter, .ref h_library, .int z_library_indexed, .int r1, .int z_locatedRank, .int z_locatedLength])), (h_alikeBefore, .inl (cI, 16448, .inl z_alikeBefore)), (h_piecesUpTo, .inl (cJ, 16448, .inr (.inl z_piecesUpTo))), (h_library, .inr (1, [.ref h_library_text, .ref h_library_owners, .ref h_library_starts, .int z_library_documents, .int z_library_indexed])), (h_library_owners, .inl (cI, 16448, .inl z_library_owners)), (h_library_starts, .inl (cI, 65, .inl z_library_starts))]) (rest := []) (c_SO_sort l dC dI cI cJ cB cZ h_sorter h_sorter_byTail h_sorter_newRanks h_sorter_tally h_library_text h_sorted h_ranks 16448 16448 16448 H.size z_sorter_size z_sorter_byTail z_sorter_newRanks z_sorter_tally z_library_text z_sorted z_ranks r1 _ hv) F (cw_V (fun _ h => h) 4 hw m_311 m_312 m_313 m_5 m_314 rfl rfl (by decide +kernel) ⟨by decide, by decide⟩) hK hP hD hS hA [5, 6, 7, 8, 10, 1, 2] [0, 3, 4, 9, 11, 12] rfl rfl rfl rfl (by decide) 0 2 rfl rfl rfl hl.1 rfl (Nat.le_of_ble_eq_true rfl) d_OR_renew_52 ⟨Nat.le_of_ble_eq_true rfl, Nat.le_of_ble_eq_true rfl⟩ (fun u H locs hv hP hD hS => ?_)
    obtain ⟨u3_0, u3_1, u3_2, u3_3, u3_4, u3_5⟩ := u
    have hP : va_P (dC, dI) classes [(h_t, .inr (3, [.ref h_sorted, .ref h_ranks, .ref h_alikeBefore, .ref h_piecesUpTo, .ref h_sorter, .ref h_library, .int z_library_indexed, .int r1, .int z_locatedRank, .int z_locatedLength])), (h_sorted, .inl (cI, 16448, .inl u3_4)), (h_ranks, .inl (cI, 16448, .inl u3_5)), (h_alikeBefore, .inl (cI, 16448, .inl z_alikeBefore)), (h_piecesUpTo, .inl (cJ, 16448, .inr (.inl z_piecesUpTo))), (h_sorter, .inr (2, [.ref h_sorter_byTail, .ref h_sorter_newRanks, .ref h_sorter_tally, .int u3_0])), (h_sorter_byTail, .inl (cI, 16448, .inl u3_1)), (h_sorter_newRanks, .inl (cI, 16448, .inl u3_2)), (h_sorter_tally, .inl (cI, 16448, .inl u3_3)), (h_library, .inr (1, [.ref h_library_text, .ref h_library_owners, .ref h_library_starts, .int z_library_documents, .int z_library_indexed])), (h_library_text, .inl (cI, 16448, .inl z_library_text)), (h_library_owners, .inl (cI, 16448, .inl z_library_owners)), (h_library_starts, .inl (cI, 65, .inl z_library_starts))] H := P_sub hP [0, 11, 12, 1, 2, 6, 7, 8, 9, 3, 10, 4, 5] rfl
    have hD : va_D A [(h_t, .inr (3, [.ref h_sorted, .ref h_ranks, .ref h_alikeBefore, .ref h_piecesUpTo, .ref h_sorter, .ref h_library, .int z_library_indexed, .int r1, .int z_locatedRank, .int z_locatedLength])), (h_sorted, .inl (cI, 16448, .inl u3_4)), (h_ranks, .inl (cI, 16448, .inl u3_5)), (h_alikeBefore, .inl (cI, 16448, .inl z_alikeBefore)), (h_piecesUpTo, .inl (cJ, 16448, .inr (.inl z_piecesUpTo))), (h_sorter, .inr (2, [.ref h_sorter_byTail, .ref h_sorter_newRanks, .ref h_sorter_tally, .int u3_0])), (h_sorter_byTail, .inl (cI, 16448, .inl u3_1)), (h_sorter_newRanks, .inl (cI, 16448, .inl u3_2)), (h_sorter_tally, .inl (cI, 16448, .inl u3_3)), (h_library, .inr (1, [.ref h_library_text, .ref h_library_owners, .ref h_library_starts, .int z_library_documents, .int z_library_indexed])), (h_library_text, .inl (cI, 16448, .inl z_library_text)), (h_library_owners, .inl (cI, 16448, .inl z_library_owners)), (h_library_starts, .inl (cI, 65, .inl z_library_starts))] := hD.sub [0, 11, 12, 1, 2, 6, 7, 8, 9, 3, 10, 4, 5] rfl rfl
    refine lv_aload_n hx hb d_OR_renew_55 rfl (lv_at hl 0 rfl) ?_
    refine cV_v (wr := [(h_piecesUpTo, .inl (cJ, 16448, .inr (.inl z_piecesUpTo))), (h_sorter, .inr (2, [.ref h_sorter_byTail, .ref h_sorter_newRanks, .ref h_sorter_tally, .int u3_0])), (h_sorter_byTail, .inl (cI, 16448, .inl u3_1)), (h_sorter_newRanks, .inl (cI, 16448, .inl u3_2)), (h_sorter_tally, .inl (cI, 16448, .inl u3_3)), (h_library_owners, .inl (cI, 16448, .inl z_library_owners))]) (rest := []) (c_OR_measureAlike l dC dI cI cJ cB cZ h_t h_sorted h_ranks h_alikeBefore h_piecesUpTo h_sorter h_library h_library_text h_library_owners h_library_starts H.size z_library_indexed r1 z_locatedRank z_locatedLength u3_4 u3_5 z_alikeBefore z_library_documents z_library_indexed z_library_text z_library_starts _ hv) F (cw_V (fun _ h => h) 0 hw m_669 m_671 ms_6 m_4 m_672 rfl rfl (by decide +kernel) ⟨by decide, by decide⟩) hK hP hD hS hA [0, 1, 2, 3, 9, 10, 12] [4, 5, 6, 7, 8, 11] rfl rfl rfl rfl (by decide) 0 3 rfl rfl rfl hl.1 rfl (Nat.le_of_ble_eq_true rfl) d_OR_renew_56 ⟨Nat.le_of_ble_eq_true rfl, Nat.le_of_ble_eq_true rfl⟩ (fun u H locs hv hP hD hS => ?_)
    obtain ⟨u4_0, rfl⟩ : ∃ z, z = u := ⟨_, rfl⟩
    have hP : va_P (dC, dI) classes [(h_t, .inr (3, [.ref h_sorted, .ref h_ranks, .ref h_alikeBefore, .ref h_piecesUpTo, .ref h_sorter, .ref h_library, .int z_library_indexed, .int r1, .int z_locatedRank, .int z_locatedLength])), (h_sorted, .inl (cI, 16448, .inl u3_4)), (h_ranks, .inl (cI, 16448, .inl u3_5)), (h_alikeBefore, .inl (cI, 16448, .inl u4_0)), (h_piecesUpTo, .inl (cJ, 16448, .inr (.inl z_piecesUpTo))), (h_sorter, .inr (2, [.ref h_sorter_byTail, .ref h_sorter_newRanks, .ref h_sorter_tally, .int u3_0])), (h_sorter_byTail, .inl (cI, 16448, .inl u3_1)), (h_sorter_newRanks, .inl (cI, 16448, .inl u3_2)), (h_sorter_tally, .inl (cI, 16448, .inl u3_3)), (h_library, .inr (1, [.ref h_library_text, .ref h_library_owners, .ref h_library_starts, .int z_library_documents, .int z_library_indexed])), (h_library_text, .inl (cI, 16448, .inl z_library_text)), (h_library_owners, .inl (cI, 16448, .inl z_library_owners)), (h_library_starts, .inl (cI, 65, .inl z_library_starts))] H := P_sub hP [6, 7, 8, 9, 0, 1, 2, 3, 4, 10, 11, 5, 12] rfl
    have hD : va_D A [(h_t, .inr (3, [.ref h_sorted, .ref h_ranks, .ref h_alikeBefore, .ref h_piecesUpTo, .ref h_sorter, .ref h_library, .int z_library_indexed, .int r1, .int z_locatedRank, .int z_locatedLength])), (h_sorted, .inl (cI, 16448, .inl u3_4)), (h_ranks, .inl (cI, 16448, .inl u3_5)), (h_alikeBefore, .inl (cI, 16448, .inl u4_0)), (h_piecesUpTo, .inl (cJ, 16448, .inr (.inl z_piecesUpTo))), (h_sorter, .inr (2, [.ref h_sorter_byTail, .ref h_sorter_newRanks, .ref h_sorter_tally, .int u3_0])), (h_sorter_byTail, .inl (cI, 16448, .inl u3_1)), (h_sorter_newRanks, .inl (cI, 16448, .inl u3_2)), (h_sorter_tally, .inl (cI, 16448, .inl u3_3)), (h_library, .inr (1, [.ref h_library_text, .ref h_library_owners, .ref h_library_starts, .int z_library_documents, .int z_library_indexed])), (h_library_text, .inl (cI, 16448, .inl z_library_text)), (h_library_owners, .inl (cI, 16448, .inl z_library_owners)), (h_library_starts, .inl (cI, 65, .inl z_library_starts))] := hD.sub [6, 7, 8, 9, 0, 1, 2, 3, 4, 10, 11, 5, 12] rfl rfl
    refine lv_aload_n hx hb d_OR_renew_59 rfl (lv_at hl 0 rfl) ?_
    refine cV_v (wr := [(h_ranks, .inl (cI, 16448, .inl u3_5)), (h_sorter, .inr (2, [.ref h_sorter_byTail, .ref h_sorter_newRanks, .ref h_sorter_tally, .int u3_0])), (h_sorter_byTail, .inl (cI, 16448, .inl u3_1)), (h_sorter_newRanks, .inl (cI, 16448, .inl u3_2)), (h_sorter_tally, .inl (cI, 16448, .inl u3_3)), (h_library_text, .inl (cI, 16448, .inl z_library_text))]) (rest := []) (c_OR_sumPieces l dC dI cI cJ cB cZ h_t h_sorted h_ranks h_alikeBefore h_piecesUpTo h_sorter h_library h_library_text h_library_owners h_library_starts H.size z_library_indexed r1 z_locatedRank z_locatedLength u3_4 u4_0 z_piecesUpTo z_library_documents z_library_indexed z_library_owners z_library_starts _ hv) F (cw_V (fun _ h => h) 0 hw m_679 m_681 ms_7 m_4 m_682 rfl rfl (by decide +kernel) ⟨by decide, by decide⟩) hK hP hD hS hA [0, 1, 3, 4, 9, 11, 12] [2, 5, 6, 7, 8, 10] rfl rfl rfl rfl (by decide) 0 3 rfl rfl rfl hl.1 rfl (Nat.le_of_ble_eq_true rfl) d_OR_renew_60 ⟨Nat.le_of_ble_eq_true rfl, Nat.le_of_ble_eq_true rfl⟩ (fun u H locs hv hP hD hS => ?_)
    obtain ⟨u5_0, rfl⟩ : ∃ z, z = u := ⟨_, rfl⟩
    have hP : va_P (dC, dI) classes [(h_t, .inr (3, [.ref h_sorted, .ref h_ranks, .ref h_alikeBefore, .ref h_piecesUpTo, .ref h_sorter, .ref h_library, .int z_library_indexed, .int r1, .int z_locatedRank, .int z_locatedLength])), (h_sorted, .inl (cI, 16448, .inl u3_4)), (h_ranks, .inl (cI, 16448, .inl u3_5)), (h_alikeBefore, .inl (cI, 16448, .inl u4_0)), (h_piecesUpTo, .inl (cJ, 16448, .inr (.inl u5_0))), (h_sorter, .inr (2, [.ref h_sorter_byTail, .ref h_sorter_newRanks, .ref h_sorter_tally, .int u3_0])), (h_sorter_byTail, .inl (cI, 16448, .inl u3_1)), (h_sorter_newRanks, .inl (cI, 16448, .inl u3_2)), (h_sorter_tally, .inl (cI, 16448, .inl u3_3)), (h_library, .inr (1, [.ref h_library_text, .ref h_library_owners, .ref h_library_starts, .int z_library_documents, .int z_library_indexed])), (h_library_text, .inl (cI, 16448, .inl z_library_text)), (h_library_owners, .inl (cI, 16448, .inl z_library_owners)), (h_library_starts, .inl (cI, 65, .inl z_library_starts))] H := P_sub hP [6, 7, 0, 8, 9, 1, 2, 3, 4, 10, 5, 11, 12] rfl
    have hD : va_D A [(h_t, .inr (3, [.ref h_sorted, .ref h_ranks, .ref h_alikeBefore, .ref h_piecesUpTo, .ref h_sorter, .ref h_library, .int z_library_indexed, .int r1, .int z_locatedRank, .int z_locatedLength])), (h_sorted, .inl (cI, 16448, .inl u3_4)), (h_ranks, .inl (cI, 16448, .inl u3_5)), (h_alikeBefore, .inl (cI, 16448, .inl u4_0)), (h_piecesUpTo, .inl (cJ, 16448, .inr (.inl u5_0))), (h_sorter, .inr (2, [.ref h_sorter_byTail, .ref h_sorter_newRanks, .ref h_sorter_tally, .int u3_0])), (h_sorter_byTail, .inl (cI, 16448, .inl u3_1)), (h_sorter_newRanks, .inl (cI, 16448, .inl u3_2)), (h_sorter_tally, .inl (cI, 16448, .inl u3_3)), (h_library, .inr (1, [.ref h_library_text, .ref h_library_owners, .ref h_library_starts, .int z_library_documents, .int z_library_indexed])), (h_library_text, .inl (cI, 16448, .inl z_library_text)), (h_library_owners, .inl (cI, 16448, .inl z_library_owners)), (h_library_starts, .inl (cI, 65, .inl z_library_starts))] := hD.sub [6, 7, 0, 8, 9, 1, 2, 3, 4, 10, 5, 11, 12] rfl rfl
    exact W.vret hx hb hr (fun t ht hW => ⟨⟨(z_library_indexed, r1, u3_4, u3_5, u4_0, u5_0, u3_0, u3_1, u3_2, u3_3), rfl, hv, by rw [ht]; exact hP, va_K.moved hW.alike hK, hD⟩, hS.F ht⟩) hS.2.2 d_OR_renew_63

set_option maxHeartbeats 4000000 in
set_option maxRecDepth 100000 in
theorem c_OR_differentPieces (l : Launch) (dC : Nat → ClassId) (dI : Nat → Nat → Nat) (cI cJ cB cZ : ClassId) (h_t : Nat) (h_sorted : Nat) (h_ranks : Nat) (h_alikeBefore : Nat) (h_piecesUpTo : Nat) (h_sorter : Nat) (h_library : Nat) (sz : Nat) (z_first : Int32) (z_size : Int32) (z_locatedRank : Int32) (z_locatedLength : Int32) (z_piecesUpTo : Nat → Int64) (post : Int64 → Prop) (hv : vc_OR_differentPieces z_size z_piecesUpTo post ) : Met l y_OR_differentPieces (Cond.code y_OR_differentPieces b_OR_differentPieces 1 (some .long) :: WT) rm_OR_differentPieces (cPre (dC, dI) classes (TYS cI cJ cB cZ) [(h_t, .inr (3, [.ref h_sorted, .ref h_ranks, .ref h_alikeBefore, .ref h_piecesUpTo, .ref h_sorter, .ref h_library, .int z_first, .int z_size, .int z_locatedRank, .int z_locatedLength])), (h_piecesUpTo, .inl (cJ, 16448, .inr (.inl z_piecesUpTo)))] sz [.ref h_t]) (va_Ql (fun (r : Int64) (u : Unit) => post r ) (fun u t => cAft (dC, dI) classes (TYS cI cJ cB cZ) (va_A [(h_t, .inr (3, [.ref h_sorted, .ref h_ranks, .ref h_alikeBefore, .ref h_piecesUpTo, .ref h_sorter, .ref h_library, .int z_first, .int z_size, .int z_locatedRank, .int z_locatedLength])), (h_piecesUpTo, .inl (cJ, 16448, .inr (.inl z_piecesUpTo)))] sz) [(h_t, .inr (3, [.ref h_sorted, .ref h_ranks, .ref h_alikeBefore, .ref h_piecesUpTo, .ref h_sorter, .ref h_library, .int z_first, .int z_size, .int z_locatedRank, .int z_locatedLength])), (h_piecesUpTo, .inl (cJ, 16448, .inr (.inl z_piecesUpTo)))] t) (va_A [(h_t, .inr (3, [.ref h_sorted, .ref h_ranks, .ref h_alikeBefore, .ref h_piecesUpTo, .ref h_sorter, .ref h_library, .int z_first, .int z_size, .int z_locatedRank, .int z_locatedLength])), (h_piecesUpTo, .inl (cJ, 16448, .inr (.inl z_piecesUpTo)))] sz)) 0 0 (va_A [(h_t, .inr (3, [.ref h_sorted, .ref h_ranks, .ref h_alikeBefore, .ref h_piecesUpTo, .ref h_sorter, .ref h_library, .int z_first, .int z_size, .int z_locatedRank, .int z_locatedLength])), (h_piecesUpTo, .inl (cJ, 16448, .inr (.inl z_piecesUpTo)))] sz) := by
  refine Met.ofW (cc := b_OR_differentPieces) (maxL := 1) (ret := (some .long)) (by decide) rfl ?_
  intro p e s m args below meth c s₁ B hml hq
  obtain ⟨rfl, hsz, hP, hK, hD0⟩ := hq
  have hts := atoms_spec (ws := Cond.code y_OR_differentPieces b_OR_differentPieces 1 (some .long) :: WT) B.pre
  have hw : ∀ w ∈ WT, w.before ([.ref h_t] : List Value).toArray s = true := fun w h => hts w (List.mem_cons_of_mem _ h)
  have hx := B.exec
  have hb := B.bytes
  have hr := B.returns
  have hlk := B.notSynchronized
  have hown : s.vm.findClass "SuffixIndex$SuffixOrder" = some m.cls := findClass_of_methodNamed B.named
  have F : CallFix p m c b_OR_differentPieces 1 s ([.ref h_t] : List Value).toArray WT "SuffixIndex$SuffixOrder" := ⟨hx, hb, hml, hown, hw⟩
  subst hsz
  have hD := hD0.self (sz := s.heap.size)
  generalize hAe : va_A [(h_t, .inr (3, [.ref h_sorted, .ref h_ranks, .ref h_alikeBefore, .ref h_piecesUpTo, .ref h_sorter, .ref h_library, .int z_first, .int z_size, .int z_locatedRank, .int z_locatedLength])), (h_piecesUpTo, .inl (cJ, 16448, .inr (.inl z_piecesUpTo)))] s.heap.size = A at hD ⊢
  have hA : ∀ q : Nat, s.heap.size ≤ q → A q := fun q h => by rw [← hAe]; exact Or.inr h
  have hS : va_S A s.heap s.heap [] := va_S.rf
  have hl := lv_entry ([.ref h_t]) (n := 1) (Nat.le_of_ble_eq_true rfl)
  rw [lg_entry_eq]
  generalize (lg_sl ([.ref h_t]) ++ List.replicate (1 - (lg_sl ([.ref h_t])).length) Slot.unset).toArray = ls at hl ⊢
  have hl : lv_has ls 1 [(0, .ref h_t)] := hl
  show W p l e rm_OR_differentPieces s m _ below meth c s.heap [] 0 0 _ _
  have hP : va_P (dC, dI) classes [(h_t, .inr (3, [.ref h_sorted, .ref h_ranks, .ref h_alikeBefore, .ref h_piecesUpTo, .ref h_sorter, .ref h_library, .int z_first, .int z_size, .int z_locatedRank, .int z_locatedLength])), (h_piecesUpTo, .inl (cJ, 16448, .inr (.inl z_piecesUpTo)))] s.heap := hP
  obtain ⟨H, hHe⟩ : ∃ H, H = s.heap := ⟨_, rfl⟩
  have hS : va_S A s.heap H [] := by rw [hHe]; exact hS
  rw [← hHe] at hP
  suffices hgoal : W p l e rm_OR_differentPieces s m ([.ref h_t] : List Value).toArray below meth c H [] 0 0 (MQ below (va_Ql (fun (r : Int64) (u : Unit) => post r ) (fun u t => cAft (dC, dI) classes (TYS cI cJ cB cZ) A [(h_t, .inr (3, [.ref h_sorted, .ref h_ranks, .ref h_alikeBefore, .ref h_piecesUpTo, .ref h_sorter, .ref h_library, .int z_first, .int z_size, .int z_locatedRank, .int z_locatedLength])), (h_piecesUpTo, .inl (cJ, 16448, .inr (.inl z_piecesUpTo)))] t) A) ([.ref h_t] : List Value).toArray s 0 0 A) (F0 m 0 ls []) by rw [hHe] at hgoal; exact hgoal
  refine lv_aload_n hx hb d_OR_differentPieces_0 rfl (lv_at hl 0 rfl) ?_
  refine va_get (D := (dC, dI)) (ci := 3) (v := .int z_size) (C := "SuffixIndex$SuffixOrder") (T := F_OR) (N := 10) hx hb hw i_OR hown hK hP 0 rfl rfl 7 (by decide) (hw _ m_137) (fun _ h9 => h9) rfl d_OR_differentPieces_1 ?_
  obtain ⟨hvt, hvf⟩ := hv
  refine lv_if_ne (tgt := 11) hx hb d_OR_differentPieces_4 (by decide) (fun c1 => ?_) (fun c1 => ?_)
  · have hv := hvt c1
    refine lv_aload_n hx hb d_OR_differentPieces_11 rfl (lv_at hl 0 rfl) ?_
    refine va_get (D := (dC, dI)) (ci := 3) (v := .ref h_piecesUpTo) (C := "SuffixIndex$SuffixOrder") (T := F_OR) (N := 10) hx hb hw i_OR hown hK hP 0 rfl rfl 3 (by decide) (hw _ m_130) (fun _ h9 => h9) rfl d_OR_differentPieces_12 ?_
    refine lv_aload_n hx hb d_OR_differentPieces_15 rfl (lv_at hl 0 rfl) ?_
    refine va_get (D := (dC, dI)) (ci := 3) (v := .int z_size) (C := "SuffixIndex$SuffixOrder") (T := F_OR) (N := 10) hx hb hw i_OR hown hK hP 0 rfl rfl 7 (by decide) (hw _ m_137) (fun _ h9 => h9) rfl d_OR_differentPieces_16 ?_
    refine lv_iconst (v := 1) hx hb d_OR_differentPieces_19 (by decide) ?_
    refine lv_isub hx hb d_OR_differentPieces_20 ?_
    obtain ⟨hin, hv⟩ := hv
    refine va_lald hx hb hK hP 1 1 rfl rfl hin d_OR_differentPieces_21 ?_
    exact W.lret (v := (z_piecesUpTo (z_size - 1).toNatClampNeg)) hx hb hr (fun t ht hW => ⟨⟨(z_piecesUpTo (z_size - 1).toNatClampNeg), (), rfl, hv, by rw [ht]; exact hP, va_K.moved hW.alike hK, hD⟩, hS.F ht⟩) hS.2.2 d_OR_differentPieces_22
  · have hv := hvf c1
    refine lv_lconst (v := 0) hx hb d_OR_differentPieces_7 (by decide) ?_
    refine lv_goto (tgt := 22) hx hb d_OR_differentPieces_8 (by decide) ?_
    exact W.lret (v := 0) hx hb hr (fun t ht hW => ⟨⟨0, (), rfl, hv, by rw [ht]; exact hP, va_K.moved hW.alike hK, hD⟩, hS.F ht⟩) hS.2.2 d_OR_differentPieces_22

set_option maxHeartbeats 4000000 in
set_option maxRecDepth 100000 in
theorem wk_OR_rankOfPiece_51 {p : Program} {l : Launch} {e : Env} {s : State} {m : MethodId} {below : List Frame} {meth : Method} {c : Code} {A : Nat → Prop} {dC : Nat → ClassId} {dI : Nat → Nat → Nat} {cI cJ cB cZ : ClassId} {h_t : Nat} {h_sorted : Nat} {h_ranks : Nat} {h_alikeBefore : Nat} {h_piecesUpTo : Nat} {h_sorter : Nat} {h_library : Nat} {a_p1 : Int64} {z_first : Int32} {z_size : Int32} {z_piecesUpTo : Nat → Int64} {z_locatedRank : Int32} {z_locatedLength : Int32} {post : Int32 → Prop} {K13 : Int32 → Int32 → Prop} (F : CallFix p m c b_OR_rankOfPiece 6 s ([.ref h_t, .long a_p1] : List Value).toArray WT "SuffixIndex$SuffixOrder") (hr : meth.sig.returnType = (some .int)) (hlk : meth.locks = false) (hK : va_K (dC, dI) classes (TYS cI cJ cB cZ) s) (hA : ∀ q, s.heap.size ≤ q → A q) (hK13 : ∀ (x3 : Int32) (x4 : Int32), K13 x3 x4 → ∀ (H : Heap) (locs : List Loc) (ls : Array Slot), va_P (dC, dI) classes [(h_t, .inr (3, [.ref h_sorted, .ref h_ranks, .ref h_alikeBefore, .ref h_piecesUpTo, .ref h_sorter, .ref h_library, .int z_first, .int z_size, .int z_locatedRank, .int z_locatedLength])), (h_piecesUpTo, .inl (cJ, 16448, .inr (.inl z_piecesUpTo)))] H → va_D A [(h_t, .inr (3, [.ref h_sorted, .ref h_ranks, .ref h_alikeBefore, .ref h_piecesUpTo, .ref h_sorter, .ref h_library, .int z_first, .int z_size, .int z_locatedRank, .int z_locatedLength])), (h_piecesUpTo, .inl (cJ, 16448, .inr (.inl z_piecesUpTo)))] → va_S A s.heap H locs → lv_has ls 6 [(0, .ref h_t), (1, .long a_p1), (3, .int x3), (4, .int x4)] → W p l e rm_OR_rankOfPiece s m ([.ref h_t, .long a_p1] : List Value).toArray below meth c H locs 0 0 (MQ below (va_Qi (fun (r : Int32) (u : Unit) => post r ) (fun u t => cAft (dC, dI) classes (TYS cI cJ cB cZ) A [(h_t, .inr (3, [.ref h_sorted, .ref h_ranks, .ref h_alikeBefore, .ref h_piecesUpTo, .ref h_sorter, .ref h_library, .int z_first, .int z_size, .int z_locatedRank, .int z_locatedLength])), (h_piecesUpTo, .inl (cJ, 16448, .inr (.inl z_piecesUpTo)))] t) A) ([.ref h_t, .long a_p1] : List Value).toArray s 0 0 A) (F0 m 13 ls [])) : ∀ (x3 : Int32) (x4 : Int32), vc_OR_rankOfPiece_51 a_p1 z_first z_size z_piecesUpTo post K13 x3 x4 → ∀ (H : Heap) (locs : List Loc) (ls : Array Slot), va_P (dC, dI) classes [(h_t, .inr (3, [.ref h_sorted, .ref h_ranks, .ref h_alikeBefore, .ref h_piecesUpTo, .ref h_sorter, .ref h_library, .int z_first, .int z_size, .int z_locatedRank, .int z_locatedLength])), (h_piecesUpTo, .inl (cJ, 16448, .inr (.inl z_piecesUpTo)))] H → va_D A [(h_t, .inr (3, [.ref h_sorted, .ref h_ranks, .ref h_alikeBefore, .ref h_piecesUpTo, .ref h_sorter, .ref h_library, .int z_first, .int z_size, .int z_locatedRank, .int z_locatedLength])), (h_piecesUpTo, .inl (cJ, 16448, .inr (.inl z_piecesUpTo)))] → va_S A s.heap H locs → lv_has ls 6 [(0, .ref h_t), (1, .long a_p1), (3, .int x3), (4, .int x4)] → W p l e rm_OR_rankOfPiece s m ([.ref h_t, .long a_p1] : List Value).toArray below meth c H locs 0 0 (MQ below (va_Qi (fun (r : Int32) (u : Unit) => post r ) (fun u t => cAft (dC, dI) classes (TYS cI cJ cB cZ) A [(h_t, .inr (3, [.ref h_sorted, .ref h_ranks, .ref h_alikeBefore, .ref h_piecesUpTo, .ref h_sorter, .ref h_library, .int z_first, .int z_size, .int z_locatedRank, .int z_locatedLength])), (h_piecesUpTo, .inl (cJ, 16448, .inr (.inl z_piecesUpTo)))] t) A) ([.ref h_t, .long a_p1] : List Value).toArray s 0 0 A) (F0 m 51 ls []) := by
  obtain ⟨hx, hb, hml, hown, hw⟩ := id F
  intro x3 x4 hv H locs ls hP hD hS hl
  refine lv_goto (tgt := 13) hx hb d_OR_rankOfPiece_51 (by decide) ?_
  exact hK13 x3 x4 hv _ _ _ hP hD hS (lv_sub hl [0, 1, 2, 3] rfl)

set_option maxHeartbeats 4000000 in
set_option maxRecDepth 100000 in
theorem wk_OR_rankOfPiece_13 {p : Program} {l : Launch} {e : Env} {s : State} {m : MethodId} {below : List Frame} {meth : Method} {c : Code} {A : Nat → Prop} {dC : Nat → ClassId} {dI : Nat → Nat → Nat} {cI cJ cB cZ : ClassId} {h_t : Nat} {h_sorted : Nat} {h_ranks : Nat} {h_alikeBefore : Nat} {h_piecesUpTo : Nat} {h_sorter : Nat} {h_library : Nat} {a_p1 : Int64} {z_first : Int32} {z_size : Int32} {z_piecesUpTo : Nat → Int64} {z_locatedRank : Int32} {z_locatedLength : Int32} {post : Int32 → Prop} (F : CallFix p m c b_OR_rankOfPiece 6 s ([.ref h_t, .long a_p1] : List Value).toArray WT "SuffixIndex$SuffixOrder") (hr : meth.sig.returnType = (some .int)) (hlk : meth.locks = false) (hK : va_K (dC, dI) classes (TYS cI cJ cB cZ) s) (hA : ∀ q, s.heap.size ≤ q → A q) : ∀ (k : Nat) (x3 : Int32) (x4 : Int32), vc_OR_rankOfPiece_13 a_p1 z_first z_size z_piecesUpTo post k x3 x4 → ∀ (H : Heap) (locs : List Loc) (ls : Array Slot), va_P (dC, dI) classes [(h_t, .inr (3, [.ref h_sorted, .ref h_ranks, .ref h_alikeBefore, .ref h_piecesUpTo, .ref h_sorter, .ref h_library, .int z_first, .int z_size, .int z_locatedRank, .int z_locatedLength])), (h_piecesUpTo, .inl (cJ, 16448, .inr (.inl z_piecesUpTo)))] H → va_D A [(h_t, .inr (3, [.ref h_sorted, .ref h_ranks, .ref h_alikeBefore, .ref h_piecesUpTo, .ref h_sorter, .ref h_library, .int z_first, .int z_size, .int z_locatedRank, .int z_locatedLength])), (h_piecesUpTo, .inl (cJ, 16448, .inr (.inl z_piecesUpTo)))] → va_S A s.heap H locs → lv_has ls 6 [(0, .ref h_t), (1, .long a_p1), (3, .int x3), (4, .int x4)] → W p l e rm_OR_rankOfPiece s m ([.ref h_t, .long a_p1] : List Value).toArray below meth c H locs 0 0 (MQ below (va_Qi (fun (r : Int32) (u : Unit) => post r ) (fun u t => cAft (dC, dI) classes (TYS cI cJ cB cZ) A [(h_t, .inr (3, [.ref h_sorted, .ref h_ranks, .ref h_alikeBefore, .ref h_piecesUpTo, .ref h_sorter, .ref h_library, .int z_first, .int z_size, .int z_locatedRank, .int z_locatedLength])), (h_piecesUpTo, .inl (cJ, 16448, .inr (.inl z_piecesUpTo)))] t) A) ([.ref h_t, .long a_p1] : List Value).toArray s 0 0 A) (F0 m 13 ls []) := by
  obtain ⟨hx, hb, hml, hown, hw⟩ := id F
  intro k
  induction k with
  | zero =>
    intro x3 x4 hv
    exact False.elim hv
  | succ k ih =>
    intro x3 x4 hv H locs ls hP hD hS hl
    refine lv_iload_n hx hb d_OR_rankOfPiece_13 rfl (lv_at hl 2 rfl) ?_
    refine lv_iload hx hb d_OR_rankOfPiece_14 (lv_at hl 3 rfl) ?_
    obtain ⟨hvt, hvf⟩ := hv
    refine lv_icmp_ge (tgt := 54) hx hb d_OR_rankOfPiece_16 (by decide) (fun c1 => ?_) (fun c1 => ?_)
    · have hv := hvt c1
      refine lv_iload_n hx hb d_OR_rankOfPiece_54 rfl (lv_at hl 2 rfl) ?_
      exact W.iret (v := x3) hx hb hr (fun t ht hW => ⟨⟨x3, (), rfl, hv, by rw [ht]; exact hP, va_K.moved hW.alike hK, hD⟩, hS.F ht⟩) hS.2.2 d_OR_rankOfPiece_55
    · have hv := hvf c1
      refine lv_iload_n hx hb d_OR_rankOfPiece_19 rfl (lv_at hl 2 rfl) ?_
      refine lv_iload hx hb d_OR_rankOfPiece_20 (lv_at hl 3 rfl) ?_
      refine lv_iadd hx hb d_OR_rankOfPiece_22 ?_
      refine lv_iconst (v := 1) hx hb d_OR_rankOfPiece_23 (by decide) ?_
      refine lv_iushr hx hb d_OR_rankOfPiece_24 rfl ?_
      refine lv_istore (lv' := [(5, .int (((x3 + x4).toUInt32 >>> ((1 : Int32).toUInt32 &&& Int32.toUInt32 31)).toInt32)), (0, .ref h_t), (1, .long a_p1), (3, .int x3), (4, .int x4)]) hx hb d_OR_rankOfPiece_25 hl (by decide) rfl (fun ls hl => ?_)
      refine lv_aload_n hx hb d_OR_rankOfPiece_27 rfl (lv_at hl 1 rfl) ?_
      refine va_get (D := (dC, dI)) (ci := 3) (v := .ref h_piecesUpTo) (C := "SuffixIndex$SuffixOrder") (T := F_OR) (N := 10) hx hb hw i_OR hown hK hP 0 rfl rfl 3 (by decide) (hw _ m_130) (fun _ h9 => h9) rfl d_OR_rankOfPiece_28 ?_
      refine lv_iload hx hb d_OR_rankOfPiece_31 (lv_at hl 0 rfl) ?_
      obtain ⟨hin, hv⟩ := hv
      refine va_lald hx hb hK hP 1 1 rfl rfl hin d_OR_rankOfPiece_33 ?_
      refine lv_lload_n hx hb d_OR_rankOfPiece_34 rfl (lv_at hl 2 rfl) ?_
      refine W.lcmp hx hb d_OR_rankOfPiece_35 ?_
      obtain ⟨hvt, hvf⟩ := hv
      refine lv_if_le (tgt := 46) hx hb d_OR_rankOfPiece_36 (by decide) (fun c2 => ?_) (fun c2 => ?_)
      · have hv := hvt c2
        refine lv_iload hx hb d_OR_rankOfPiece_46 (lv_at hl 0 rfl) ?_
        refine lv_iconst (v := 1) hx hb d_OR_rankOfPiece_48 (by decide) ?_
        refine lv_iadd hx hb d_OR_rankOfPiece_49 ?_
        refine lv_istore_n (lv' := [(3, .int ((((x3 + x4).toUInt32 >>> ((1 : Int32).toUInt32 &&& Int32.toUInt32 31)).toInt32) + 1)), (5, .int (((x3 + x4).toUInt32 >>> ((1 : Int32).toUInt32 &&& Int32.toUInt32 31)).toInt32)), (0, .ref h_t), (1, .long a_p1), (4, .int x4)]) hx hb d_OR_rankOfPiece_50 rfl hl (by decide) rfl (fun ls hl => ?_)
        exact wk_OR_rankOfPiece_51 F hr hlk hK hA ih ((((x3 + x4).toUInt32 >>> ((1 : Int32).toUInt32 &&& Int32.toUInt32 31)).toInt32) + 1) x4 hv _ _ _ hP hD hS (lv_sub hl [2, 3, 0, 4] rfl)
      · have hv := hvf c2
        refine lv_iload hx hb d_OR_rankOfPiece_39 (lv_at hl 0 rfl) ?_
        refine lv_istore (lv' := [(4, .int (((x3 + x4).toUInt32 >>> ((1 : Int32).toUInt32 &&& Int32.toUInt32 31)).toInt32)), (5, .int (((x3 + x4).toUInt32 >>> ((1 : Int32).toUInt32 &&& Int32.toUInt32 31)).toInt32)), (0, .ref h_t), (1, .long a_p1), (3, .int x3)]) hx hb d_OR_rankOfPiece_41 hl (by decide) rfl (fun ls hl => ?_)
        refine lv_goto (tgt := 51) hx hb d_OR_rankOfPiece_43 (by decide) ?_
        exact wk_OR_rankOfPiece_51 F hr hlk hK hA ih x3 (((x3 + x4).toUInt32 >>> ((1 : Int32).toUInt32 &&& Int32.toUInt32 31)).toInt32) hv _ _ _ hP hD hS (lv_sub hl [2, 3, 4, 0] rfl)

set_option maxHeartbeats 4000000 in
set_option maxRecDepth 100000 in
theorem c_OR_rankOfPiece (l : Launch) (dC : Nat → ClassId) (dI : Nat → Nat → Nat) (cI cJ cB cZ : ClassId) (h_t : Nat) (h_sorted : Nat) (h_ranks : Nat) (h_alikeBefore : Nat) (h_piecesUpTo : Nat) (h_sorter : Nat) (h_library : Nat) (sz : Nat) (z_first : Int32) (z_size : Int32) (z_locatedRank : Int32) (z_locatedLength : Int32) (z_piecesUpTo : Nat → Int64) (a_p1 : Int64) (post : Int32 → Prop) (hv : vc_OR_rankOfPiece a_p1 z_first z_size z_piecesUpTo post ) : Met l y_OR_rankOfPiece (Cond.code y_OR_rankOfPiece b_OR_rankOfPiece 6 (some .int) :: WT) rm_OR_rankOfPiece (cPre (dC, dI) classes (TYS cI cJ cB cZ) [(h_t, .inr (3, [.ref h_sorted, .ref h_ranks, .ref h_alikeBefore, .ref h_piecesUpTo, .ref h_sorter, .ref h_library, .int z_first, .int z_size, .int z_locatedRank, .int z_locatedLength])), (h_piecesUpTo, .inl (cJ, 16448, .inr (.inl z_piecesUpTo)))] sz [.ref h_t, .long a_p1]) (va_Qi (fun (r : Int32) (u : Unit) => post r ) (fun u t => cAft (dC, dI) classes (TYS cI cJ cB cZ) (va_A [(h_t, .inr (3, [.ref h_sorted, .ref h_ranks, .ref h_alikeBefore, .ref h_piecesUpTo, .ref h_sorter, .ref h_library, .int z_first, .int z_size, .int z_locatedRank, .int z_locatedLength])), (h_piecesUpTo, .inl (cJ, 16448, .inr (.inl z_piecesUpTo)))] sz) [(h_t, .inr (3, [.ref h_sorted, .ref h_ranks, .ref h_alikeBefore, .ref h_piecesUpTo, .ref h_sorter, .ref h_library, .int z_first, .int z_size, .int z_locatedRank, .int z_locatedLength])), (h_piecesUpTo, .inl (cJ, 16448, .inr (.inl z_piecesUpTo)))] t) (va_A [(h_t, .inr (3, [.ref h_sorted, .ref h_ranks, .ref h_alikeBefore, .ref h_piecesUpTo, .ref h_sorter, .ref h_library, .int z_first, .int z_size, .int z_locatedRank, .int z_locatedLength])), (h_piecesUpTo, .inl (cJ, 16448, .inr (.inl z_piecesUpTo)))] sz)) 0 0 (va_A [(h_t, .inr (3, [.ref h_sorted, .ref h_ranks, .ref h_alikeBefore, .ref h_piecesUpTo, .ref h_sorter, .ref h_library, .int z_first, .int z_size, .int z_locatedRank, .int z_locatedLength])), (h_piecesUpTo, .inl (cJ, 16448, .inr (.inl z_piecesUpTo)))] sz) := by
  refine Met.ofW (cc := b_OR_rankOfPiece) (maxL := 6) (ret := (some .int)) (by decide) rfl ?_
  intro p e s m args below meth c s₁ B hml hq
  obtain ⟨rfl, hsz, hP, hK, hD0⟩ := hq
  have hts := atoms_spec (ws := Cond.code y_OR_rankOfPiece b_OR_rankOfPiece 6 (some .int) :: WT) B.pre
  have hw : ∀ w ∈ WT, w.before ([.ref h_t, .long a_p1] : List Value).toArray s = true := fun w h => hts w (List.mem_cons_of_mem _ h)
  have hx := B.exec
  have hb := B.bytes
  have hr := B.returns
  have hlk := B.notSynchronized
  have hown : s.vm.findClass "SuffixIndex$SuffixOrder" = some m.cls := findClass_of_methodNamed B.named
  have F : CallFix p m c b_OR_rankOfPiece 6 s ([.ref h_t, .long a_p1] : List Value).toArray WT "SuffixIndex$SuffixOrder" := ⟨hx, hb, hml, hown, hw⟩
  subst hsz
  have hD := hD0.self (sz := s.heap.size)
  generalize hAe : va_A [(h_t, .inr (3, [.ref h_sorted, .ref h_ranks, .ref h_alikeBefore, .ref h_piecesUpTo, .ref h_sorter, .ref h_library, .int z_first, .int z_size, .int z_locatedRank, .int z_locatedLength])), (h_piecesUpTo, .inl (cJ, 16448, .inr (.inl z_piecesUpTo)))] s.heap.size = A at hD ⊢
  have hA : ∀ q : Nat, s.heap.size ≤ q → A q := fun q h => by rw [← hAe]; exact Or.inr h
  have hS : va_S A s.heap s.heap [] := va_S.rf
  have hl := lv_entry ([.ref h_t, .long a_p1]) (n := 6) (Nat.le_of_ble_eq_true rfl)
  rw [lg_entry_eq]
  generalize (lg_sl ([.ref h_t, .long a_p1]) ++ List.replicate (6 - (lg_sl ([.ref h_t, .long a_p1])).length) Slot.unset).toArray = ls at hl ⊢
  have hl : lv_has ls 6 [(0, .ref h_t), (1, .long a_p1)] := hl
  show W p l e rm_OR_rankOfPiece s m _ below meth c s.heap [] 0 0 _ _
  have hP : va_P (dC, dI) classes [(h_t, .inr (3, [.ref h_sorted, .ref h_ranks, .ref h_alikeBefore, .ref h_piecesUpTo, .ref h_sorter, .ref h_library, .int z_first, .int z_size, .int z_locatedRank, .int z_locatedLength])), (h_piecesUpTo, .inl (cJ, 16448, .inr (.inl z_piecesUpTo)))] s.heap := hP
  obtain ⟨H, hHe⟩ : ∃ H, H = s.heap := ⟨_, rfl⟩
  have hS : va_S A s.heap H [] := by rw [hHe]; exact hS
  rw [← hHe] at hP
  suffices hgoal : W p l e rm_OR_rankOfPiece s m ([.ref h_t, .long a_p1] : List Value).toArray below meth c H [] 0 0 (MQ below (va_Qi (fun (r : Int32) (u : Unit) => post r ) (fun u t => cAft (dC, dI) classes (TYS cI cJ cB cZ) A [(h_t, .inr (3, [.ref h_sorted, .ref h_ranks, .ref h_alikeBefore, .ref h_piecesUpTo, .ref h_sorter, .ref h_library, .int z_first, .int z_size, .int z_locatedRank, .int z_locatedLength])), (h_piecesUpTo, .inl (cJ, 16448, .inr (.inl z_piecesUpTo)))] t) A) ([.ref h_t, .long a_p1] : List Value).toArray s 0 0 A) (F0 m 0 ls []) by rw [hHe] at hgoal; exact hgoal
  refine lv_aload_n hx hb d_OR_rankOfPiece_0 rfl (lv_at hl 0 rfl) ?_
  refine va_get (D := (dC, dI)) (ci := 3) (v := .int z_first) (C := "SuffixIndex$SuffixOrder") (T := F_OR) (N := 10) hx hb hw i_OR hown hK hP 0 rfl rfl 6 (by decide) (hw _ m_133) (fun _ h9 => h9) rfl d_OR_rankOfPiece_1 ?_
  refine lv_istore_n (lv' := [(3, .int z_first), (0, .ref h_t), (1, .long a_p1)]) hx hb d_OR_rankOfPiece_4 rfl hl (by decide) rfl (fun ls hl => ?_)
  refine lv_aload_n hx hb d_OR_rankOfPiece_5 rfl (lv_at hl 1 rfl) ?_
  refine va_get (D := (dC, dI)) (ci := 3) (v := .int z_size) (C := "SuffixIndex$SuffixOrder") (T := F_OR) (N := 10) hx hb hw i_OR hown hK hP 0 rfl rfl 7 (by decide) (hw _ m_137) (fun _ h9 => h9) rfl d_OR_rankOfPiece_6 ?_
  refine lv_iconst (v := 1) hx hb d_OR_rankOfPiece_9 (by decide) ?_
  refine lv_isub hx hb d_OR_rankOfPiece_10 ?_
  refine lv_istore (lv' := [(4, .int (z_size - 1)), (3, .int z_first), (0, .ref h_t), (1, .long a_p1)]) hx hb d_OR_rankOfPiece_11 hl (by decide) rfl (fun ls hl => ?_)
  obtain ⟨j, hv⟩ := hv
  exact wk_OR_rankOfPiece_13 F hr hlk hK hA j z_first (z_size - 1) hv _ _ _ hP hD hS (lv_sub hl [2, 3, 1, 0] rfl)

set_option maxHeartbeats 4000000 in
set_option maxRecDepth 100000 in
theorem c_OR_lengthOfPiece (l : Launch) (dC : Nat → ClassId) (dI : Nat → Nat → Nat) (cI cJ cB cZ : ClassId) (h_t : Nat) (h_sorted : Nat) (h_ranks : Nat) (h_alikeBefore : Nat) (h_piecesUpTo : Nat) (h_sorter : Nat) (h_library : Nat) (h_library_text : Nat) (h_library_owners : Nat) (h_library_starts : Nat) (sz : Nat) (z_first : Int32) (z_size : Int32) (z_locatedRank : Int32) (z_locatedLength : Int32) (z_sorted : Nat → Int32) (z_piecesUpTo : Nat → Int64) (z_library_documents : Int32) (z_library_indexed : Int32) (z_library_owners : Nat → Int32) (z_library_starts : Nat → Int32) (a_p1 : Int64) (post : Int32 → Prop) (hv : vc_OR_lengthOfPiece a_p1 z_first z_size z_sorted z_piecesUpTo z_library_owners z_library_starts post ) : Met l y_OR_lengthOfPiece (Cond.code y_OR_lengthOfPiece b_OR_lengthOfPiece 6 (some .int) :: WT) rm_OR_lengthOfPiece (cPre (dC, dI) classes (TYS cI cJ cB cZ) [(h_t, .inr (3, [.ref h_sorted, .ref h_ranks, .ref h_alikeBefore, .ref h_piecesUpTo, .ref h_sorter, .ref h_library, .int z_first, .int z_size, .int z_locatedRank, .int z_locatedLength])), (h_sorted, .inl (cI, 16448, .inl z_sorted)), (h_piecesUpTo, .inl (cJ, 16448, .inr (.inl z_piecesUpTo))), (h_library, .inr (1, [.ref h_library_text, .ref h_library_owners, .ref h_library_starts, .int z_library_documents, .int z_library_indexed])), (h_library_owners, .inl (cI, 16448, .inl z_library_owners)), (h_library_starts, .inl (cI, 65, .inl z_library_starts))] sz [.ref h_t, .long a_p1]) (va_Qi (fun (r : Int32) (u : Unit) => post r ) (fun u t => cAft (dC, dI) classes (TYS cI cJ cB cZ) (va_A [(h_t, .inr (3, [.ref h_sorted, .ref h_ranks, .ref h_alikeBefore, .ref h_piecesUpTo, .ref h_sorter, .ref h_library, .int z_first, .int z_size, .int z_locatedRank, .int z_locatedLength])), (h_sorted, .inl (cI, 16448, .inl z_sorted)), (h_piecesUpTo, .inl (cJ, 16448, .inr (.inl z_piecesUpTo))), (h_library, .inr (1, [.ref h_library_text, .ref h_library_owners, .ref h_library_starts, .int z_library_documents, .int z_library_indexed])), (h_library_owners, .inl (cI, 16448, .inl z_library_owners)), (h_library_starts, .inl (cI, 65, .inl z_library_starts))] sz) [(h_t, .inr (3, [.ref h_sorted, .ref h_ranks, .ref h_alikeBefore, .ref h_piecesUpTo, .ref h_sorter, .ref h_library, .int z_first, .int z_size, .int z_locatedRank, .int z_locatedLength])), (h_sorted, .inl (cI, 16448, .inl z_sorted)), (h_piecesUpTo, .inl (cJ, 16448, .inr (.inl z_piecesUpTo))), (h_library, .inr (1, [.ref h_library_text, .ref h_library_owners, .ref h_library_starts, .int z_library_documents, .int z_library_indexed])), (h_library_owners, .inl (cI, 16448, .inl z_library_owners)), (h_library_starts, .inl (cI, 65, .inl z_library_starts))] t) (va_A [(h_t, .inr (3, [.ref h_sorted, .ref h_ranks, .ref h_alikeBefore, .ref h_piecesUpTo, .ref h_sorter, .ref h_library, .int z_first, .int z_size, .int z_locatedRank, .int z_locatedLength])), (h_sorted, .inl (cI, 16448, .inl z_sorted)), (h_piecesUpTo, .inl (cJ, 16448, .inr (.inl z_piecesUpTo))), (h_library, .inr (1, [.ref h_library_text, .ref h_library_owners, .ref h_library_starts, .int z_library_documents, .int z_library_indexed])), (h_library_owners, .inl (cI, 16448, .inl z_library_owners)), (h_library_starts, .inl (cI, 65, .inl z_library_starts))] sz)) 0 0 (va_A [(h_t, .inr (3, [.ref h_sorted, .ref h_ranks, .ref h_alikeBefore, .ref h_piecesUpTo, .ref h_sorter, .ref h_library, .int z_first, .int z_size, .int z_locatedRank, .int z_locatedLength])), (h_sorted, .inl (cI, 16448, .inl z_sorted)), (h_piecesUpTo, .inl (cJ, 16448, .inr (.inl z_piecesUpTo))), (h_library, .inr (1, [.ref h_library_text, .ref h_library_owners, .ref h_library_starts, .int z_library_documents, .int z_library_indexed])), (h_library_owners, .inl (cI, 16448, .inl z_library_owners)), (h_library_starts, .inl (cI, 65, .inl z_library_starts))] sz) := by
  refine Met.ofW (cc := b_OR_lengthOfPiece) (maxL := 6) (ret := (some .int)) (by decide) rfl ?_
  intro p e s m args below meth c s₁ B hml hq
  obtain ⟨rfl, hsz, hP, hK, hD0⟩ := hq
  have hts := atoms_spec (ws := Cond.code y_OR_lengthOfPiece b_OR_lengthOfPiece 6 (some .int) :: WT) B.pre
  have hw : ∀ w ∈ WT, w.before ([.ref h_t, .long a_p1] : List Value).toArray s = true := fun w h => hts w (List.mem_cons_of_mem _ h)
  have hx := B.exec
  have hb := B.bytes
  have hr := B.returns
  have hlk := B.notSynchronized
  have hown : s.vm.findClass "SuffixIndex$SuffixOrder" = some m.cls := findClass_of_methodNamed B.named
  have F : CallFix p m c b_OR_lengthOfPiece 6 s ([.ref h_t, .long a_p1] : List Value).toArray WT "SuffixIndex$SuffixOrder" := ⟨hx, hb, hml, hown, hw⟩
  subst hsz
  have hD := hD0.self (sz := s.heap.size)
  generalize hAe : va_A [(h_t, .inr (3, [.ref h_sorted, .ref h_ranks, .ref h_alikeBefore, .ref h_piecesUpTo, .ref h_sorter, .ref h_library, .int z_first, .int z_size, .int z_locatedRank, .int z_locatedLength])), (h_sorted, .inl (cI, 16448, .inl z_sorted)), (h_piecesUpTo, .inl (cJ, 16448, .inr (.inl z_piecesUpTo))), (h_library, .inr (1, [.ref h_library_text, .ref h_library_owners, .ref h_library_starts, .int z_library_documents, .int z_library_indexed])), (h_library_owners, .inl (cI, 16448, .inl z_library_owners)), (h_library_starts, .inl (cI, 65, .inl z_library_starts))] s.heap.size = A at hD ⊢
  have hA : ∀ q : Nat, s.heap.size ≤ q → A q := fun q h => by rw [← hAe]; exact Or.inr h
  have hS : va_S A s.heap s.heap [] := va_S.rf
  have hl := lv_entry ([.ref h_t, .long a_p1]) (n := 6) (Nat.le_of_ble_eq_true rfl)
  rw [lg_entry_eq]
  generalize (lg_sl ([.ref h_t, .long a_p1]) ++ List.replicate (6 - (lg_sl ([.ref h_t, .long a_p1])).length) Slot.unset).toArray = ls at hl ⊢
  have hl : lv_has ls 6 [(0, .ref h_t), (1, .long a_p1)] := hl
  show W p l e rm_OR_lengthOfPiece s m _ below meth c s.heap [] 0 0 _ _
  have hP : va_P (dC, dI) classes [(h_t, .inr (3, [.ref h_sorted, .ref h_ranks, .ref h_alikeBefore, .ref h_piecesUpTo, .ref h_sorter, .ref h_library, .int z_first, .int z_size, .int z_locatedRank, .int z_locatedLength])), (h_sorted, .inl (cI, 16448, .inl z_sorted)), (h_piecesUpTo, .inl (cJ, 16448, .inr (.inl z_piecesUpTo))), (h_library, .inr (1, [.ref h_library_text, .ref h_library_owners, .ref h_library_starts, .int z_library_documents, .int z_library_indexed])), (h_library_owners, .inl (cI, 16448, .inl z_library_owners)), (h_library_starts, .inl (cI, 65, .inl z_library_starts))] s.heap := hP
  obtain ⟨H, hHe⟩ : ∃ H, H = s.heap := ⟨_, rfl⟩
  have hS : va_S A s.heap H [] := by rw [hHe]; exact hS
  rw [← hHe] at hP
  suffices hgoal : W p l e rm_OR_lengthOfPiece s m ([.ref h_t, .long a_p1] : List Value).toArray below meth c H [] 0 0 (MQ below (va_Qi (fun (r : Int32) (u : Unit) => post r ) (fun u t => cAft (dC, dI) classes (TYS cI cJ cB cZ) A [(h_t, .inr (3, [.ref h_sorted, .ref h_ranks, .ref h_alikeBefore, .ref h_piecesUpTo, .ref h_sorter, .ref h_library, .int z_first, .int z_size, .int z_locatedRank, .int z_locatedLength])), (h_sorted, .inl (cI, 16448, .inl z_sorted)), (h_piecesUpTo, .inl (cJ, 16448, .inr (.inl z_piecesUpTo))), (h_library, .inr (1, [.ref h_library_text, .ref h_library_owners, .ref h_library_starts, .int z_library_documents, .int z_library_indexed])), (h_library_owners, .inl (cI, 16448, .inl z_library_owners)), (h_library_starts, .inl (cI, 65, .inl z_library_starts))] t) A) ([.ref h_t, .long a_p1] : List Value).toArray s 0 0 A) (F0 m 0 ls []) by rw [hHe] at hgoal; exact hgoal
  refine lv_aload_n hx hb d_OR_lengthOfPiece_0 rfl (lv_at hl 0 rfl) ?_
  refine lv_lload_n hx hb d_OR_lengthOfPiece_1 rfl (lv_at hl 1 rfl) ?_
  refine cV_i (wr := [(h_sorted, .inl (cI, 16448, .inl z_sorted)), (h_library, .inr (1, [.ref h_library_text, .ref h_library_owners, .ref h_library_starts, .int z_library_documents, .int z_library_indexed])), (h_library_owners, .inl (cI, 16448, .inl z_library_owners)), (h_library_starts, .inl (cI, 65, .inl z_library_starts))]) (rest := []) (c_OR_rankOfPiece l dC dI cI cJ cB cZ h_t h_sorted h_ranks h_alikeBefore h_piecesUpTo h_sorter h_library H.size z_first z_size z_locatedRank z_locatedLength z_piecesUpTo a_p1 _ hv) F (cw_V (fun _ h => h) 1 hw m_1001 m_994 m_995 m_4 m_996 rfl rfl (by decide +kernel) ⟨by decide, by decide⟩) hK hP hD hS hA [0, 2] [1, 3, 4, 5] rfl rfl rfl rfl (by decide) 0 3 rfl rfl rfl hl.1 rfl (Nat.le_of_ble_eq_true rfl) d_OR_lengthOfPiece_2 ⟨Nat.le_of_ble_eq_true rfl, Nat.le_of_ble_eq_true rfl⟩ (fun r1 u H locs hv hP hD hS => ?_)
  have hP : va_P (dC, dI) classes [(h_t, .inr (3, [.ref h_sorted, .ref h_ranks, .ref h_alikeBefore, .ref h_piecesUpTo, .ref h_sorter, .ref h_library, .int z_first, .int z_size, .int z_locatedRank, .int z_locatedLength])), (h_sorted, .inl (cI, 16448, .inl z_sorted)), (h_piecesUpTo, .inl (cJ, 16448, .inr (.inl z_piecesUpTo))), (h_library, .inr (1, [.ref h_library_text, .ref h_library_owners, .ref h_library_starts, .int z_library_documents, .int z_library_indexed])), (h_library_owners, .inl (cI, 16448, .inl z_library_owners)), (h_library_starts, .inl (cI, 65, .inl z_library_starts))] H := P_sub hP [4, 0, 5, 1, 2, 3] rfl
  have hD : va_D A [(h_t, .inr (3, [.ref h_sorted, .ref h_ranks, .ref h_alikeBefore, .ref h_piecesUpTo, .ref h_sorter, .ref h_library, .int z_first, .int z_size, .int z_locatedRank, .int z_locatedLength])), (h_sorted, .inl (cI, 16448, .inl z_sorted)), (h_piecesUpTo, .inl (cJ, 16448, .inr (.inl z_piecesUpTo))), (h_library, .inr (1, [.ref h_library_text, .ref h_library_owners, .ref h_library_starts, .int z_library_documents, .int z_library_indexed])), (h_library_owners, .inl (cI, 16448, .inl z_library_owners)), (h_library_starts, .inl (cI, 65, .inl z_library_starts))] := hD.sub [4, 0, 5, 1, 2, 3] rfl rfl
  refine lv_istore_n (lv' := [(3, .int r1), (0, .ref h_t), (1, .long a_p1)]) hx hb d_OR_lengthOfPiece_5 rfl hl (by decide) rfl (fun ls hl => ?_)
  refine lv_aload_n hx hb d_OR_lengthOfPiece_6 rfl (lv_at hl 1 rfl) ?_
  refine va_get (D := (dC, dI)) (ci := 3) (v := .ref h_piecesUpTo) (C := "SuffixIndex$SuffixOrder") (T := F_OR) (N := 10) hx hb hw i_OR hown hK hP 0 rfl rfl 3 (by decide) (hw _ m_130) (fun _ h9 => h9) rfl d_OR_lengthOfPiece_7 ?_
  refine lv_iload_n hx hb d_OR_lengthOfPiece_10 rfl (lv_at hl 0 rfl) ?_
  obtain ⟨hin, hv⟩ := hv
  refine va_lald hx hb hK hP 2 1 rfl rfl hin d_OR_lengthOfPiece_11 ?_
  refine lv_lconst (v := 1) hx hb d_OR_lengthOfPiece_12 (by decide) ?_
  refine lv_lsub hx hb d_OR_lengthOfPiece_13 ?_
  refine lv_lload_n hx hb d_OR_lengthOfPiece_14 rfl (lv_at hl 2 rfl) ?_
  refine lv_lsub hx hb d_OR_lengthOfPiece_15 ?_
  refine lv_lstore (lv' := [(4, .long (((z_piecesUpTo r1.toNatClampNeg) - 1) - a_p1)), (3, .int r1), (0, .ref h_t), (1, .long a_p1)]) hx hb d_OR_lengthOfPiece_16 hl (by decide) rfl (fun ls hl => ?_)
  refine lv_aload_n hx hb d_OR_lengthOfPiece_18 rfl (lv_at hl 2 rfl) ?_
  refine va_get (D := (dC, dI)) (ci := 3) (v := .ref h_library) (C := "SuffixIndex$SuffixOrder") (T := F_OR) (N := 10) hx hb hw i_OR hown hK hP 0 rfl rfl 5 (by decide) (hw _ m_132) (fun _ h9 => h9) rfl d_OR_lengthOfPiece_19 ?_
  refine lv_aload_n hx hb d_OR_lengthOfPiece_22 rfl (lv_at hl 2 rfl) ?_
  refine va_get (D := (dC, dI)) (ci := 3) (v := .ref h_sorted) (C := "SuffixIndex$SuffixOrder") (T := F_OR) (N := 10) hx hb hw i_OR hown hK hP 0 rfl rfl 0 (by decide) (hw _ m_118) (fun _ h9 => h9) rfl d_OR_lengthOfPiece_23 ?_
  refine lv_iload_n hx hb d_OR_lengthOfPiece_26 rfl (lv_at hl 1 rfl) ?_
  obtain ⟨hin, hv⟩ := hv
  refine va_iald hx hb hK hP 1 0 rfl rfl hin d_OR_lengthOfPiece_27 ?_
  refine cV_i (wr := [(h_t, .inr (3, [.ref h_sorted, .ref h_ranks, .ref h_alikeBefore, .ref h_piecesUpTo, .ref h_sorter, .ref h_library, .int z_first, .int z_size, .int z_locatedRank, .int z_locatedLength])), (h_sorted, .inl (cI, 16448, .inl z_sorted)), (h_piecesUpTo, .inl (cJ, 16448, .inr (.inl z_piecesUpTo)))]) (rest := []) (c_LB_lengthFrom l dC dI cI cJ cB cZ h_library h_library_text h_library_owners h_library_starts H.size z_library_documents z_library_indexed z_library_owners z_library_starts (z_sorted r1.toNatClampNeg) _ hv) F (cw_V (fun _ h => h) 1 hw m_683 m_684 m_685 m_3 m_686 rfl rfl (by decide +kernel) ⟨by decide, by decide⟩) hK hP hD hS hA [3, 4, 5] [0, 1, 2] rfl rfl rfl rfl (by decide) 0 1 rfl rfl rfl hl.1 rfl (Nat.le_of_ble_eq_true rfl) d_OR_lengthOfPiece_28 ⟨Nat.le_of_ble_eq_true rfl, Nat.le_of_ble_eq_true rfl⟩ (fun r2 u H locs hv hP hD hS => ?_)
  have hP : va_P (dC, dI) classes [(h_t, .inr (3, [.ref h_sorted, .ref h_ranks, .ref h_alikeBefore, .ref h_piecesUpTo, .ref h_sorter, .ref h_library, .int z_first, .int z_size, .int z_locatedRank, .int z_locatedLength])), (h_sorted, .inl (cI, 16448, .inl z_sorted)), (h_piecesUpTo, .inl (cJ, 16448, .inr (.inl z_piecesUpTo))), (h_library, .inr (1, [.ref h_library_text, .ref h_library_owners, .ref h_library_starts, .int z_library_documents, .int z_library_indexed])), (h_library_owners, .inl (cI, 16448, .inl z_library_owners)), (h_library_starts, .inl (cI, 65, .inl z_library_starts))] H := P_sub hP [0, 1, 2, 3, 4, 5] rfl
  have hD : va_D A [(h_t, .inr (3, [.ref h_sorted, .ref h_ranks, .ref h_alikeBefore, .ref h_piecesUpTo, .ref h_sorter, .ref h_library, .int z_first, .int z_size, .int z_locatedRank, .int z_locatedLength])), (h_sorted, .inl (cI, 16448, .inl z_sorted)), (h_piecesUpTo, .inl (cJ, 16448, .inr (.inl z_piecesUpTo))), (h_library, .inr (1, [.ref h_library_text, .ref h_library_owners, .ref h_library_starts, .int z_library_documents, .int z_library_indexed])), (h_library_owners, .inl (cI, 16448, .inl z_library_owners)), (h_library_starts, .inl (cI, 65, .inl z_library_starts))] := hD.sub [0, 1, 2, 3, 4, 5] rfl rfl
  refine lv_i2l hx hb d_OR_lengthOfPiece_31 rfl ?_
  refine lv_lload hx hb d_OR_lengthOfPiece_32 (lv_at hl 0 rfl) ?_
  refine lv_lsub hx hb d_OR_lengthOfPiece_34 ?_
  refine lv_l2i hx hb d_OR_lengthOfPiece_35 rfl ?_
  exact W.iret (v := (r2.toInt64 - (((z_piecesUpTo r1.toNatClampNeg) - 1) - a_p1)).toInt32) hx hb hr (fun t ht hW => ⟨⟨(r2.toInt64 - (((z_piecesUpTo r1.toNatClampNeg) - 1) - a_p1)).toInt32, (), rfl, hv, by rw [ht]; exact hP, va_K.moved hW.alike hK, hD⟩, hS.F ht⟩) hS.2.2 d_OR_lengthOfPiece_36

set_option maxHeartbeats 4000000 in
set_option maxRecDepth 100000 in
theorem wk_OR_singleLength_29 {p : Program} {l : Launch} {e : Env} {s : State} {m : MethodId} {below : List Frame} {meth : Method} {c : Code} {A : Nat → Prop} {dC : Nat → ClassId} {dI : Nat → Nat → Nat} {cI cJ cB cZ : ClassId} {h_t : Nat} {h_sorted : Nat} {h_ranks : Nat} {h_alikeBefore : Nat} {h_piecesUpTo : Nat} {h_sorter : Nat} {h_library : Nat} {a_p1 : Int32} {z_size : Int32} {z_ranks : Nat → Int32} {z_alikeBefore : Nat → Int32} {z_first : Int32} {z_locatedRank : Int32} {z_locatedLength : Int32} {post : Int32 → Prop} (F : CallFix p m c b_OR_singleLength 4 s ([.ref h_t, .int a_p1] : List Value).toArray WT "SuffixIndex$SuffixOrder") (hr : meth.sig.returnType = (some .int)) (hlk : meth.locks = false) (hK : va_K (dC, dI) classes (TYS cI cJ cB cZ) s) (hA : ∀ q, s.heap.size ≤ q → A q) : ∀ (x2 : Int32) (k0 : Int32), vc_OR_singleLength_29 a_p1 z_size z_ranks z_alikeBefore post x2 k0 → ∀ (H : Heap) (locs : List Loc) (ls : Array Slot), va_P (dC, dI) classes [(h_t, .inr (3, [.ref h_sorted, .ref h_ranks, .ref h_alikeBefore, .ref h_piecesUpTo, .ref h_sorter, .ref h_library, .int z_first, .int z_size, .int z_locatedRank, .int z_locatedLength])), (h_ranks, .inl (cI, 16448, .inl z_ranks)), (h_alikeBefore, .inl (cI, 16448, .inl z_alikeBefore))] H → va_D A [(h_t, .inr (3, [.ref h_sorted, .ref h_ranks, .ref h_alikeBefore, .ref h_piecesUpTo, .ref h_sorter, .ref h_library, .int z_first, .int z_size, .int z_locatedRank, .int z_locatedLength])), (h_ranks, .inl (cI, 16448, .inl z_ranks)), (h_alikeBefore, .inl (cI, 16448, .inl z_alikeBefore))] → va_S A s.heap H locs → lv_has ls 4 [(0, .ref h_t), (2, .int x2)] → W p l e rm_OR_singleLength s m ([.ref h_t, .int a_p1] : List Value).toArray below meth c H locs 0 0 (MQ below (va_Qi (fun (r : Int32) (u : Unit) => post r ) (fun u t => cAft (dC, dI) classes (TYS cI cJ cB cZ) A [(h_t, .inr (3, [.ref h_sorted, .ref h_ranks, .ref h_alikeBefore, .ref h_piecesUpTo, .ref h_sorter, .ref h_library, .int z_first, .int z_size, .int z_locatedRank, .int z_locatedLength])), (h_ranks, .inl (cI, 16448, .inl z_ranks)), (h_alikeBefore, .inl (cI, 16448, .inl z_alikeBefore))] t) A) ([.ref h_t, .int a_p1] : List Value).toArray s 0 0 A) (F0 m 29 ls [.int k0]) := by
  obtain ⟨hx, hb, hml, hown, hw⟩ := id F
  intro x2 k0 hv H locs ls hP hD hS hl
  refine lv_istore_n (lv' := [(3, .int k0), (0, .ref h_t), (2, .int x2)]) hx hb d_OR_singleLength_29 rfl hl (by decide) rfl (fun ls hl => ?_)
  refine lv_aload_n hx hb d_OR_singleLength_30 rfl (lv_at hl 1 rfl) ?_
  refine va_get (D := (dC, dI)) (ci := 3) (v := .ref h_alikeBefore) (C := "SuffixIndex$SuffixOrder") (T := F_OR) (N := 10) hx hb hw i_OR hown hK hP 0 rfl rfl 2 (by decide) (hw _ m_126) (fun _ h9 => h9) rfl d_OR_singleLength_31 ?_
  refine lv_iload_n hx hb d_OR_singleLength_34 rfl (lv_at hl 2 rfl) ?_
  obtain ⟨hin, hv⟩ := hv
  refine va_iald hx hb hK hP 2 0 rfl rfl hin d_OR_singleLength_35 ?_
  refine lv_iload_n hx hb d_OR_singleLength_36 rfl (lv_at hl 0 rfl) ?_
  refine va_mmax hx hb (hml.trans hl.1.symm) hown (hw _ m_816) (hw _ m_424) (hw _ m_22) (hw _ m_425) (by decide) (Nat.le_of_ble_eq_true rfl) (Nat.zero_le _) (Nat.zero_le _) d_OR_singleLength_37 ?_
  refine lv_iconst (v := 1) hx hb d_OR_singleLength_40 (by decide) ?_
  refine lv_iadd hx hb d_OR_singleLength_41 ?_
  exact W.iret (v := (if (z_alikeBefore x2.toNatClampNeg) < k0 then k0 else (z_alikeBefore x2.toNatClampNeg)) + 1) hx hb hr (fun t ht hW => ⟨⟨(if (z_alikeBefore x2.toNatClampNeg) < k0 then k0 else (z_alikeBefore x2.toNatClampNeg)) + 1, (), rfl, hv, by rw [ht]; exact hP, va_K.moved hW.alike hK, hD⟩, hS.F ht⟩) hS.2.2 d_OR_singleLength_42

set_option maxHeartbeats 4000000 in
set_option maxRecDepth 100000 in
theorem c_OR_singleLength (l : Launch) (dC : Nat → ClassId) (dI : Nat → Nat → Nat) (cI cJ cB cZ : ClassId) (h_t : Nat) (h_sorted : Nat) (h_ranks : Nat) (h_alikeBefore : Nat) (h_piecesUpTo : Nat) (h_sorter : Nat) (h_library : Nat) (sz : Nat) (z_first : Int32) (z_size : Int32) (z_locatedRank : Int32) (z_locatedLength : Int32) (z_ranks : Nat → Int32) (z_alikeBefore : Nat → Int32) (a_p1 : Int32) (post : Int32 → Prop) (hv : vc_OR_singleLength a_p1 z_size z_ranks z_alikeBefore post ) : Met l y_OR_singleLength (Cond.code y_OR_singleLength b_OR_singleLength 4 (some .int) :: WT) rm_OR_singleLength (cPre (dC, dI) classes (TYS cI cJ cB cZ) [(h_t, .inr (3, [.ref h_sorted, .ref h_ranks, .ref h_alikeBefore, .ref h_piecesUpTo, .ref h_sorter, .ref h_library, .int z_first, .int z_size, .int z_locatedRank, .int z_locatedLength])), (h_ranks, .inl (cI, 16448, .inl z_ranks)), (h_alikeBefore, .inl (cI, 16448, .inl z_alikeBefore))] sz [.ref h_t, .int a_p1]) (va_Qi (fun (r : Int32) (u : Unit) => post r ) (fun u t => cAft (dC, dI) classes (TYS cI cJ cB cZ) (va_A [(h_t, .inr (3, [.ref h_sorted, .ref h_ranks, .ref h_alikeBefore, .ref h_piecesUpTo, .ref h_sorter, .ref h_library, .int z_first, .int z_size, .int z_locatedRank, .int z_locatedLength])), (h_ranks, .inl (cI, 16448, .inl z_ranks)), (h_alikeBefore, .inl (cI, 16448, .inl z_alikeBefore))] sz) [(h_t, .inr (3, [.ref h_sorted, .ref h_ranks, .ref h_alikeBefore, .ref h_piecesUpTo, .ref h_sorter, .ref h_library, .int z_first, .int z_size, .int z_locatedRank, .int z_locatedLength])), (h_ranks, .inl (cI, 16448, .inl z_ranks)), (h_alikeBefore, .inl (cI, 16448, .inl z_alikeBefore))] t) (va_A [(h_t, .inr (3, [.ref h_sorted, .ref h_ranks, .ref h_alikeBefore, .ref h_piecesUpTo, .ref h_sorter, .ref h_library, .int z_first, .int z_size, .int z_locatedRank, .int z_locatedLength])), (h_ranks, .inl (cI, 16448, .inl z_ranks)), (h_alikeBefore, .inl (cI, 16448, .inl z_alikeBefore))] sz)) 0 0 (va_A [(h_t, .inr (3, [.ref h_sorted, .ref h_ranks, .ref h_alikeBefore, .ref h_piecesUpTo, .ref h_sorter, .ref h_library, .int z_first, .int z_size, .int z_locatedRank, .int z_locatedLength])), (h_ranks, .inl (cI, 16448, .inl z_ranks)), (h_alikeBefore, .inl (cI, 16448, .inl z_alikeBefore))] sz) := by
  refine Met.ofW (cc := b_OR_singleLength) (maxL := 4) (ret := (some .int)) (by decide) rfl ?_
  intro p e s m args below meth c s₁ B hml hq
  obtain ⟨rfl, hsz, hP, hK, hD0⟩ := hq
  have hts := atoms_spec (ws := Cond.code y_OR_singleLength b_OR_singleLength 4 (some .int) :: WT) B.pre
  have hw : ∀ w ∈ WT, w.before ([.ref h_t, .int a_p1] : List Value).toArray s = true := fun w h => hts w (List.mem_cons_of_mem _ h)
  have hx := B.exec
  have hb := B.bytes
  have hr := B.returns
  have hlk := B.notSynchronized
  have hown : s.vm.findClass "SuffixIndex$SuffixOrder" = some m.cls := findClass_of_methodNamed B.named
  have F : CallFix p m c b_OR_singleLength 4 s ([.ref h_t, .int a_p1] : List Value).toArray WT "SuffixIndex$SuffixOrder" := ⟨hx, hb, hml, hown, hw⟩
  subst hsz
  have hD := hD0.self (sz := s.heap.size)
  generalize hAe : va_A [(h_t, .inr (3, [.ref h_sorted, .ref h_ranks, .ref h_alikeBefore, .ref h_piecesUpTo, .ref h_sorter, .ref h_library, .int z_first, .int z_size, .int z_locatedRank, .int z_locatedLength])), (h_ranks, .inl (cI, 16448, .inl z_ranks)), (h_alikeBefore, .inl (cI, 16448, .inl z_alikeBefore))] s.heap.size = A at hD ⊢
  have hA : ∀ q : Nat, s.heap.size ≤ q → A q := fun q h => by rw [← hAe]; exact Or.inr h
  have hS : va_S A s.heap s.heap [] := va_S.rf
  have hl := lv_entry ([.ref h_t, .int a_p1]) (n := 4) (Nat.le_of_ble_eq_true rfl)
  rw [lg_entry_eq]
  generalize (lg_sl ([.ref h_t, .int a_p1]) ++ List.replicate (4 - (lg_sl ([.ref h_t, .int a_p1])).length) Slot.unset).toArray = ls at hl ⊢
  have hl : lv_has ls 4 [(0, .ref h_t), (1, .int a_p1)] := hl
  show W p l e rm_OR_singleLength s m _ below meth c s.heap [] 0 0 _ _
  have hP : va_P (dC, dI) classes [(h_t, .inr (3, [.ref h_sorted, .ref h_ranks, .ref h_alikeBefore, .ref h_piecesUpTo, .ref h_sorter, .ref h_library, .int z_first, .int z_size, .int z_locatedRank, .int z_locatedLength])), (h_ranks, .inl (cI, 16448, .inl z_ranks)), (h_alikeBefore, .inl (cI, 16448, .inl z_alikeBefore))] s.heap := hP
  obtain ⟨H, hHe⟩ : ∃ H, H = s.heap := ⟨_, rfl⟩
  have hS : va_S A s.heap H [] := by rw [hHe]; exact hS
  rw [← hHe] at hP
  suffices hgoal : W p l e rm_OR_singleLength s m ([.ref h_t, .int a_p1] : List Value).toArray below meth c H [] 0 0 (MQ below (va_Qi (fun (r : Int32) (u : Unit) => post r ) (fun u t => cAft (dC, dI) classes (TYS cI cJ cB cZ) A [(h_t, .inr (3, [.ref h_sorted, .ref h_ranks, .ref h_alikeBefore, .ref h_piecesUpTo, .ref h_sorter, .ref h_library, .int z_first, .int z_size, .int z_locatedRank, .int z_locatedLength])), (h_ranks, .inl (cI, 16448, .inl z_ranks)), (h_alikeBefore, .inl (cI, 16448, .inl z_alikeBefore))] t) A) ([.ref h_t, .int a_p1] : List Value).toArray s 0 0 A) (F0 m 0 ls []) by rw [hHe] at hgoal; exact hgoal
  refine lv_aload_n hx hb d_OR_singleLength_0 rfl (lv_at hl 0 rfl) ?_
  refine va_get (D := (dC, dI)) (ci := 3) (v := .ref h_ranks) (C := "SuffixIndex$SuffixOrder") (T := F_OR) (N := 10) hx hb hw i_OR hown hK hP 0 rfl rfl 1 (by decide) (hw _ m_122) (fun _ h9 => h9) rfl d_OR_singleLength_1 ?_
  refine lv_iload_n hx hb d_OR_singleLength_4 rfl (lv_at hl 1 rfl) ?_
  obtain ⟨hin, hv⟩ := hv
  refine va_iald hx hb hK hP 1 0 rfl rfl hin d_OR_singleLength_5 ?_
  refine lv_istore_n (lv' := [(2, .int (z_ranks a_p1.toNatClampNeg)), (0, .ref h_t), (1, .int a_p1)]) hx hb d_OR_singleLength_6 rfl hl (by decide) rfl (fun ls hl => ?_)
  refine lv_iload_n hx hb d_OR_singleLength_7 rfl (lv_at hl 0 rfl) ?_
  refine lv_iconst (v := 1) hx hb d_OR_singleLength_8 (by decide) ?_
  refine lv_iadd hx hb d_OR_singleLength_9 ?_
  refine lv_aload_n hx hb d_OR_singleLength_10 rfl (lv_at hl 1 rfl) ?_
  refine va_get (D := (dC, dI)) (ci := 3) (v := .int z_size) (C := "SuffixIndex$SuffixOrder") (T := F_OR) (N := 10) hx hb hw i_OR hown hK hP 0 rfl rfl 7 (by decide) (hw _ m_137) (fun _ h9 => h9) rfl d_OR_singleLength_11 ?_
  obtain ⟨hvt, hvf⟩ := hv
  refine lv_icmp_ge (tgt := 28) hx hb d_OR_singleLength_14 (by decide) (fun c1 => ?_) (fun c1 => ?_)
  · have hv := hvt c1
    refine lv_iconst (v := 0) hx hb d_OR_singleLength_28 (by decide) ?_
    exact wk_OR_singleLength_29 F hr hlk hK hA (z_ranks a_p1.toNatClampNeg) 0 hv _ _ _ hP hD hS (lv_sub hl [1, 0] rfl)
  · have hv := hvf c1
    refine lv_aload_n hx hb d_OR_singleLength_17 rfl (lv_at hl 1 rfl) ?_
    refine va_get (D := (dC, dI)) (ci := 3) (v := .ref h_alikeBefore) (C := "SuffixIndex$SuffixOrder") (T := F_OR) (N := 10) hx hb hw i_OR hown hK hP 0 rfl rfl 2 (by decide) (hw _ m_126) (fun _ h9 => h9) rfl d_OR_singleLength_18 ?_
    refine lv_iload_n hx hb d_OR_singleLength_21 rfl (lv_at hl 0 rfl) ?_
    refine lv_iconst (v := 1) hx hb d_OR_singleLength_22 (by decide) ?_
    refine lv_iadd hx hb d_OR_singleLength_23 ?_
    obtain ⟨hin, hv⟩ := hv
    refine va_iald hx hb hK hP 2 0 rfl rfl hin d_OR_singleLength_24 ?_
    refine lv_goto (tgt := 29) hx hb d_OR_singleLength_25 (by decide) ?_
    exact wk_OR_singleLength_29 F hr hlk hK hA (z_ranks a_p1.toNatClampNeg) (z_alikeBefore ((z_ranks a_p1.toNatClampNeg) + 1).toNatClampNeg) hv _ _ _ hP hD hS (lv_sub hl [1, 0] rfl)

set_option maxHeartbeats 4000000 in
set_option maxRecDepth 100000 in
theorem wk_OR_alikeWith_21 {p : Program} {l : Launch} {e : Env} {s : State} {m : MethodId} {below : List Frame} {meth : Method} {c : Code} {A : Nat → Prop} {dC : Nat → ClassId} {dI : Nat → Nat → Nat} {cI cJ cB cZ : ClassId} {h_t : Nat} {h_sorted : Nat} {h_ranks : Nat} {h_alikeBefore : Nat} {h_piecesUpTo : Nat} {h_sorter : Nat} {h_library : Nat} {h_library_text : Nat} {h_library_owners : Nat} {h_library_starts : Nat} {h_p1 : Nat} {h_p1_bytes : Nat} {a_p2 : Int32} {a_p3 : Int32} {a_p4 : Int32} {n_p1_bytes : Nat} {z_size : Int32} {z_library_text : Nat → Int32} {z_p1_length : Int32} {z_p1_bytes : Nat → Int32} {z_first : Int32} {z_locatedRank : Int32} {z_locatedLength : Int32} {z_library_documents : Int32} {z_library_indexed : Int32} {post : Int32 → Prop} (F : CallFix p m c b_OR_alikeWith 7 s ([.ref h_t, .ref h_p1, .int a_p2, .int a_p3, .int a_p4] : List Value).toArray WT "SuffixIndex$SuffixOrder") (hr : meth.sig.returnType = (some .int)) (hlk : meth.locks = false) (hK : va_K (dC, dI) classes (TYS cI cJ cB cZ) s) (hA : ∀ q, s.heap.size ≤ q → A q) : ∀ (k : Nat) (x5 : Int32) (x6 : Int32), vc_OR_alikeWith_21 a_p2 a_p3 a_p4 n_p1_bytes z_size z_library_text z_p1_length z_p1_bytes post k x5 x6 → ∀ (H : Heap) (locs : List Loc) (ls : Array Slot), va_P (dC, dI) classes [(h_t, .inr (3, [.ref h_sorted, .ref h_ranks, .ref h_alikeBefore, .ref h_piecesUpTo, .ref h_sorter, .ref h_library, .int z_first, .int z_size, .int z_locatedRank, .int z_locatedLength])), (h_library, .inr (1, [.ref h_library_text, .ref h_library_owners, .ref h_library_starts, .int z_library_documents, .int z_library_indexed])), (h_library_text, .inl (cI, 16448, .inl z_library_text)), (h_p1, .inr (0, [.ref h_p1_bytes, .int z_p1_length])), (h_p1_bytes, .inl (cI, n_p1_bytes, .inl z_p1_bytes))] H → va_D A [(h_t, .inr (3, [.ref h_sorted, .ref h_ranks, .ref h_alikeBefore, .ref h_piecesUpTo, .ref h_sorter, .ref h_library, .int z_first, .int z_size, .int z_locatedRank, .int z_locatedLength])), (h_library, .inr (1, [.ref h_library_text, .ref h_library_owners, .ref h_library_starts, .int z_library_documents, .int z_library_indexed])), (h_library_text, .inl (cI, 16448, .inl z_library_text)), (h_p1, .inr (0, [.ref h_p1_bytes, .int z_p1_length])), (h_p1_bytes, .inl (cI, n_p1_bytes, .inl z_p1_bytes))] → va_S A s.heap H locs → lv_has ls 7 [(0, .ref h_t), (1, .ref h_p1), (2, .int a_p2), (3, .int a_p3), (5, .int x5), (6, .int x6)] → W p l e rm_OR_alikeWith s m ([.ref h_t, .ref h_p1, .int a_p2, .int a_p3, .int a_p4] : List Value).toArray below meth c H locs 0 0 (MQ below (va_Qi (fun (r : Int32) (u : Unit) => post r ) (fun u t => cAft (dC, dI) classes (TYS cI cJ cB cZ) A [(h_t, .inr (3, [.ref h_sorted, .ref h_ranks, .ref h_alikeBefore, .ref h_piecesUpTo, .ref h_sorter, .ref h_library, .int z_first, .int z_size, .int z_locatedRank, .int z_locatedLength])), (h_library, .inr (1, [.ref h_library_text, .ref h_library_owners, .ref h_library_starts, .int z_library_documents, .int z_library_indexed])), (h_library_text, .inl (cI, 16448, .inl z_library_text)), (h_p1, .inr (0, [.ref h_p1_bytes, .int z_p1_length])), (h_p1_bytes, .inl (cI, n_p1_bytes, .inl z_p1_bytes))] t) A) ([.ref h_t, .ref h_p1, .int a_p2, .int a_p3, .int a_p4] : List Value).toArray s 0 0 A) (F0 m 21 ls []) := by
  obtain ⟨hx, hb, hml, hown, hw⟩ := id F
  intro k
  induction k with
  | zero =>
    intro x5 x6 hv
    exact False.elim hv
  | succ k ih =>
    intro x5 x6 hv H locs ls hP hD hS hl
    refine lv_iload hx hb d_OR_alikeWith_21 (lv_at hl 5 rfl) ?_
    refine lv_iload hx hb d_OR_alikeWith_23 (lv_at hl 4 rfl) ?_
    obtain ⟨hvt, hvf⟩ := hv
    refine lv_icmp_ge (tgt := 58) hx hb d_OR_alikeWith_25 (by decide) (fun c1 => ?_) (fun c1 => ?_)
    · have hv := hvt c1
      refine lv_iload hx hb d_OR_alikeWith_58 (lv_at hl 5 rfl) ?_
      exact W.iret (v := x6) hx hb hr (fun t ht hW => ⟨⟨x6, (), rfl, hv, by rw [ht]; exact hP, va_K.moved hW.alike hK, hD⟩, hS.F ht⟩) hS.2.2 d_OR_alikeWith_60
    · have hv := hvf c1
      refine lv_aload_n hx hb d_OR_alikeWith_28 rfl (lv_at hl 1 rfl) ?_
      refine va_get (D := (dC, dI)) (ci := 0) (v := .ref h_p1_bytes) (C := "SuffixIndex$ByteRow") (T := F_BR) (N := 2) hx hb hw i_BR hown hK hP 3 rfl rfl 0 (by decide) (hw _ m_46) (fun _ h9 => h9) rfl d_OR_alikeWith_29 ?_
      refine lv_iload_n hx hb d_OR_alikeWith_32 rfl (lv_at hl 2 rfl) ?_
      refine lv_iload hx hb d_OR_alikeWith_33 (lv_at hl 5 rfl) ?_
      refine lv_iadd hx hb d_OR_alikeWith_35 ?_
      obtain ⟨hin, hv⟩ := hv
      refine va_iald hx hb hK hP 4 0 rfl rfl hin d_OR_alikeWith_36 ?_
      refine lv_aload_n hx hb d_OR_alikeWith_37 rfl (lv_at hl 0 rfl) ?_
      refine va_get (D := (dC, dI)) (ci := 3) (v := .ref h_library) (C := "SuffixIndex$SuffixOrder") (T := F_OR) (N := 10) hx hb hw i_OR hown hK hP 0 rfl rfl 5 (by decide) (hw _ m_132) (fun _ h9 => h9) rfl d_OR_alikeWith_38 ?_
      refine va_get (D := (dC, dI)) (ci := 1) (v := .ref h_library_text) (C := "SuffixIndex$Library") (T := F_LB) (N := 5) hx hb hw i_LB hown hK hP 1 rfl rfl 0 (by decide) (hw _ m_66) (fun _ h9 => h9) rfl d_OR_alikeWith_41 ?_
      refine lv_iload_n hx hb d_OR_alikeWith_44 rfl (lv_at hl 3 rfl) ?_
      refine lv_iload hx hb d_OR_alikeWith_45 (lv_at hl 5 rfl) ?_
      refine lv_iadd hx hb d_OR_alikeWith_47 ?_
      obtain ⟨hin, hv⟩ := hv
      refine va_iald hx hb hK hP 2 0 rfl rfl hin d_OR_alikeWith_48 ?_
      obtain ⟨hvt, hvf⟩ := hv
      refine lv_icmp_ne (tgt := 58) hx hb d_OR_alikeWith_49 (by decide) (fun c2 => ?_) (fun c2 => ?_)
      · have hv := hvt c2
        refine lv_iload hx hb d_OR_alikeWith_58 (lv_at hl 5 rfl) ?_
        exact W.iret (v := x6) hx hb hr (fun t ht hW => ⟨⟨x6, (), rfl, hv, by rw [ht]; exact hP, va_K.moved hW.alike hK, hD⟩, hS.F ht⟩) hS.2.2 d_OR_alikeWith_60
      · have hv := hvf c2
        refine lv_iinc (v := x6 + 1) (lv' := [(6, .int (x6 + 1)), (0, .ref h_t), (1, .ref h_p1), (2, .int a_p2), (3, .int a_p3), (5, .int x5)]) hx hb d_OR_alikeWith_52 hl (k := 5) rfl (iinc_v (by decide)) (by decide) rfl (fun ls hl => ?_)
        refine lv_goto (tgt := 21) hx hb d_OR_alikeWith_55 (by decide) ?_
        exact ih x5 (x6 + 1) hv _ _ _ hP hD hS (lv_sub hl [1, 2, 3, 4, 5, 0] rfl)

set_option maxHeartbeats 4000000 in
set_option maxRecDepth 100000 in
theorem c_OR_alikeWith (l : Launch) (dC : Nat → ClassId) (dI : Nat → Nat → Nat) (cI cJ cB cZ : ClassId) (h_t : Nat) (h_sorted : Nat) (h_ranks : Nat) (h_alikeBefore : Nat) (h_piecesUpTo : Nat) (h_sorter : Nat) (h_library : Nat) (h_library_text : Nat) (h_library_owners : Nat) (h_library_starts : Nat) (h_p1 : Nat) (h_p1_bytes : Nat) (n_p1_bytes : Nat) (sz : Nat) (z_first : Int32) (z_size : Int32) (z_locatedRank : Int32) (z_locatedLength : Int32) (z_library_documents : Int32) (z_library_indexed : Int32) (z_library_text : Nat → Int32) (z_p1_length : Int32) (z_p1_bytes : Nat → Int32) (a_p2 : Int32) (a_p3 : Int32) (a_p4 : Int32) (post : Int32 → Prop) (hv : vc_OR_alikeWith a_p2 a_p3 a_p4 n_p1_bytes z_size z_library_text z_p1_length z_p1_bytes post ) : Met l y_OR_alikeWith (Cond.code y_OR_alikeWith b_OR_alikeWith 7 (some .int) :: WT) rm_OR_alikeWith (cPre (dC, dI) classes (TYS cI cJ cB cZ) [(h_t, .inr (3, [.ref h_sorted, .ref h_ranks, .ref h_alikeBefore, .ref h_piecesUpTo, .ref h_sorter, .ref h_library, .int z_first, .int z_size, .int z_locatedRank, .int z_locatedLength])), (h_library, .inr (1, [.ref h_library_text, .ref h_library_owners, .ref h_library_starts, .int z_library_documents, .int z_library_indexed])), (h_library_text, .inl (cI, 16448, .inl z_library_text)), (h_p1, .inr (0, [.ref h_p1_bytes, .int z_p1_length])), (h_p1_bytes, .inl (cI, n_p1_bytes, .inl z_p1_bytes))] sz [.ref h_t, .ref h_p1, .int a_p2, .int a_p3, .int a_p4]) (va_Qi (fun (r : Int32) (u : Unit) => post r ) (fun u t => cAft (dC, dI) classes (TYS cI cJ cB cZ) (va_A [(h_t, .inr (3, [.ref h_sorted, .ref h_ranks, .ref h_alikeBefore, .ref h_piecesUpTo, .ref h_sorter, .ref h_library, .int z_first, .int z_size, .int z_locatedRank, .int z_locatedLength])), (h_library, .inr (1, [.ref h_library_text, .ref h_library_owners, .ref h_library_starts, .int z_library_documents, .int z_library_indexed])), (h_library_text, .inl (cI, 16448, .inl z_library_text)), (h_p1, .inr (0, [.ref h_p1_bytes, .int z_p1_length])), (h_p1_bytes, .inl (cI, n_p1_bytes, .inl z_p1_bytes))] sz) [(h_t, .inr (3, [.ref h_sorted, .ref h_ranks, .ref h_alikeBefore, .ref h_piecesUpTo, .ref h_sorter, .ref h_library, .int z_first, .int z_size, .int z_locatedRank, .int z_locatedLength])), (h_library, .inr (1, [.ref h_library_text, .ref h_library_owners, .ref h_library_starts, .int z_library_documents, .int z_library_indexed])), (h_library_text, .inl (cI, 16448, .inl z_library_text)), (h_p1, .inr (0, [.ref h_p1_bytes, .int z_p1_length])), (h_p1_bytes, .inl (cI, n_p1_bytes, .inl z_p1_bytes))] t) (va_A [(h_t, .inr (3, [.ref h_sorted, .ref h_ranks, .ref h_alikeBefore, .ref h_piecesUpTo, .ref h_sorter, .ref h_library, .int z_first, .int z_size, .int z_locatedRank, .int z_locatedLength])), (h_library, .inr (1, [.ref h_library_text, .ref h_library_owners, .ref h_library_starts, .int z_library_documents, .int z_library_indexed])), (h_library_text, .inl (cI, 16448, .inl z_library_text)), (h_p1, .inr (0, [.ref h_p1_bytes, .int z_p1_length])), (h_p1_bytes, .inl (cI, n_p1_bytes, .inl z_p1_bytes))] sz)) 0 0 (va_A [(h_t, .inr (3, [.ref h_sorted, .ref h_ranks, .ref h_alikeBefore, .ref h_piecesUpTo, .ref h_sorter, .ref h_library, .int z_first, .int z_size, .int z_locatedRank, .int z_locatedLength])), (h_library, .inr (1, [.ref h_library_text, .ref h_library_owners, .ref h_library_starts, .int z_library_documents, .int z_library_indexed])), (h_library_text, .inl (cI, 16448, .inl z_library_text)), (h_p1, .inr (0, [.ref h_p1_bytes, .int z_p1_length])), (h_p1_bytes, .inl (cI, n_p1_bytes, .inl z_p1_bytes))] sz) := by
  refine Met.ofW (cc := b_OR_alikeWith) (maxL := 7) (ret := (some .int)) (by decide) rfl ?_
  intro p e s m args below meth c s₁ B hml hq
  obtain ⟨rfl, hsz, hP, hK, hD0⟩ := hq
  have hts := atoms_spec (ws := Cond.code y_OR_alikeWith b_OR_alikeWith 7 (some .int) :: WT) B.pre
  have hw : ∀ w ∈ WT, w.before ([.ref h_t, .ref h_p1, .int a_p2, .int a_p3, .int a_p4] : List Value).toArray s = true := fun w h => hts w (List.mem_cons_of_mem _ h)
  have hx := B.exec
  have hb := B.bytes
  have hr := B.returns
  have hlk := B.notSynchronized
  have hown : s.vm.findClass "SuffixIndex$SuffixOrder" = some m.cls := findClass_of_methodNamed B.named
  have F : CallFix p m c b_OR_alikeWith 7 s ([.ref h_t, .ref h_p1, .int a_p2, .int a_p3, .int a_p4] : List Value).toArray WT "SuffixIndex$SuffixOrder" := ⟨hx, hb, hml, hown, hw⟩
  subst hsz
  have hD := hD0.self (sz := s.heap.size)
  generalize hAe : va_A [(h_t, .inr (3, [.ref h_sorted, .ref h_ranks, .ref h_alikeBefore, .ref h_piecesUpTo, .ref h_sorter, .ref h_library, .int z_first, .int z_size, .int z_locatedRank, .int z_locatedLength])), (h_library, .inr (1, [.ref h_library_text, .ref h_library_owners, .ref h_library_starts, .int z_library_documents, .int z_library_indexed])), (h_library_text, .inl (cI, 16448, .inl z_library_text)), (h_p1, .inr (0, [.ref h_p1_bytes, .int z_p1_length])), (h_p1_bytes, .inl (cI, n_p1_bytes, .inl z_p1_bytes))] s.heap.size = A at hD ⊢
  have hA : ∀ q : Nat, s.heap.size ≤ q → A q := fun q h => by rw [← hAe]; exact Or.inr h
  have hS : va_S A s.heap s.heap [] := va_S.rf
  have hl := lv_entry ([.ref h_t, .ref h_p1, .int a_p2, .int a_p3, .int a_p4]) (n := 7) (Nat.le_of_ble_eq_true rfl)
  rw [lg_entry_eq]
  generalize (lg_sl ([.ref h_t, .ref h_p1, .int a_p2, .int a_p3, .int a_p4]) ++ List.replicate (7 - (lg_sl ([.ref h_t, .ref h_p1, .int a_p2, .int a_p3, .int a_p4])).length) Slot.unset).toArray = ls at hl ⊢
  have hl : lv_has ls 7 [(0, .ref h_t), (1, .ref h_p1), (2, .int a_p2), (3, .int a_p3), (4, .int a_p4)] := hl
  show W p l e rm_OR_alikeWith s m _ below meth c s.heap [] 0 0 _ _
  have hP : va_P (dC, dI) classes [(h_t, .inr (3, [.ref h_sorted, .ref h_ranks, .ref h_alikeBefore, .ref h_piecesUpTo, .ref h_sorter, .ref h_library, .int z_first, .int z_size, .int z_locatedRank, .int z_locatedLength])), (h_library, .inr (1, [.ref h_library_text, .ref h_library_owners, .ref h_library_starts, .int z_library_documents, .int z_library_indexed])), (h_library_text, .inl (cI, 16448, .inl z_library_text)), (h_p1, .inr (0, [.ref h_p1_bytes, .int z_p1_length])), (h_p1_bytes, .inl (cI, n_p1_bytes, .inl z_p1_bytes))] s.heap := hP
  obtain ⟨H, hHe⟩ : ∃ H, H = s.heap := ⟨_, rfl⟩
  have hS : va_S A s.heap H [] := by rw [hHe]; exact hS
  rw [← hHe] at hP
  suffices hgoal : W p l e rm_OR_alikeWith s m ([.ref h_t, .ref h_p1, .int a_p2, .int a_p3, .int a_p4] : List Value).toArray below meth c H [] 0 0 (MQ below (va_Qi (fun (r : Int32) (u : Unit) => post r ) (fun u t => cAft (dC, dI) classes (TYS cI cJ cB cZ) A [(h_t, .inr (3, [.ref h_sorted, .ref h_ranks, .ref h_alikeBefore, .ref h_piecesUpTo, .ref h_sorter, .ref h_library, .int z_first, .int z_size, .int z_locatedRank, .int z_locatedLength])), (h_library, .inr (1, [.ref h_library_text, .ref h_library_owners, .ref h_library_starts, .int z_library_documents, .int z_library_indexed])), (h_library_text, .inl (cI, 16448, .inl z_library_text)), (h_p1, .inr (0, [.ref h_p1_bytes, .int z_p1_length])), (h_p1_bytes, .inl (cI, n_p1_bytes, .inl z_p1_bytes))] t) A) ([.ref h_t, .ref h_p1, .int a_p2, .int a_p3, .int a_p4] : List Value).toArray s 0 0 A) (F0 m 0 ls []) by rw [hHe] at hgoal; exact hgoal
  refine lv_aload_n hx hb d_OR_alikeWith_0 rfl (lv_at hl 1 rfl) ?_
  refine va_get (D := (dC, dI)) (ci := 0) (v := .int z_p1_length) (C := "SuffixIndex$ByteRow") (T := F_BR) (N := 2) hx hb hw i_BR hown hK hP 3 rfl rfl 1 (by decide) (hw _ m_52) (fun _ h9 => h9) rfl d_OR_alikeWith_1 ?_
  refine lv_iload_n hx hb d_OR_alikeWith_4 rfl (lv_at hl 2 rfl) ?_
  refine lv_isub hx hb d_OR_alikeWith_5 ?_
  refine lv_aload_n hx hb d_OR_alikeWith_6 rfl (lv_at hl 0 rfl) ?_
  refine va_get (D := (dC, dI)) (ci := 3) (v := .int z_size) (C := "SuffixIndex$SuffixOrder") (T := F_OR) (N := 10) hx hb hw i_OR hown hK hP 0 rfl rfl 7 (by decide) (hw _ m_137) (fun _ h9 => h9) rfl d_OR_alikeWith_7 ?_
  refine lv_iload_n hx hb d_OR_alikeWith_10 rfl (lv_at hl 3 rfl) ?_
  refine lv_isub hx hb d_OR_alikeWith_11 ?_
  refine va_mmin hx hb (hml.trans hl.1.symm) hown (hw _ m_807) (hw _ m_442) (hw _ m_22) (hw _ m_443) (by decide) (Nat.le_of_ble_eq_true rfl) (Nat.zero_le _) (Nat.zero_le _) d_OR_alikeWith_12 ?_
  refine lv_istore (lv' := [(5, .int (if (z_size - a_p3) < (z_p1_length - a_p2) then (z_size - a_p3) else (z_p1_length - a_p2))), (0, .ref h_t), (1, .ref h_p1), (2, .int a_p2), (3, .int a_p3), (4, .int a_p4)]) hx hb d_OR_alikeWith_15 hl (by decide) rfl (fun ls hl => ?_)
  refine lv_iload hx hb d_OR_alikeWith_17 (lv_at hl 5 rfl) ?_
  refine lv_istore (lv' := [(6, .int a_p4), (5, .int (if (z_size - a_p3) < (z_p1_length - a_p2) then (z_size - a_p3) else (z_p1_length - a_p2))), (0, .ref h_t), (1, .ref h_p1), (2, .int a_p2), (3, .int a_p3), (4, .int a_p4)]) hx hb d_OR_alikeWith_19 hl (by decide) rfl (fun ls hl => ?_)
  obtain ⟨j, hv⟩ := hv
  exact wk_OR_alikeWith_21 F hr hlk hK hA j (if (z_size - a_p3) < (z_p1_length - a_p2) then (z_size - a_p3) else (z_p1_length - a_p2)) a_p4 hv _ _ _ hP hD hS (lv_sub hl [2, 3, 4, 5, 1, 0] rfl)

set_option maxHeartbeats 4000000 in
set_option maxRecDepth 100000 in
theorem c_OR_isBefore (l : Launch) (dC : Nat → ClassId) (dI : Nat → Nat → Nat) (cI cJ cB cZ : ClassId) (h_t : Nat) (h_sorted : Nat) (h_ranks : Nat) (h_alikeBefore : Nat) (h_piecesUpTo : Nat) (h_sorter : Nat) (h_library : Nat) (h_library_text : Nat) (h_library_owners : Nat) (h_library_starts : Nat) (h_p1 : Nat) (h_p1_bytes : Nat) (n_p1_bytes : Nat) (sz : Nat) (z_first : Int32) (z_size : Int32) (z_locatedRank : Int32) (z_locatedLength : Int32) (z_library_documents : Int32) (z_library_indexed : Int32) (z_library_text : Nat → Int32) (z_p1_length : Int32) (z_p1_bytes : Nat → Int32) (a_p2 : Int32) (a_p3 : Int32) (post : Int32 → Prop) (hv : vc_OR_isBefore a_p2 a_p3 n_p1_bytes z_size z_library_text z_p1_length z_p1_bytes post ) : Met l y_OR_isBefore (Cond.code y_OR_isBefore b_OR_isBefore 4 (some .boolean) :: WT) rm_OR_isBefore (cPre (dC, dI) classes (TYS cI cJ cB cZ) [(h_t, .inr (3, [.ref h_sorted, .ref h_ranks, .ref h_alikeBefore, .ref h_piecesUpTo, .ref h_sorter, .ref h_library, .int z_first, .int z_size, .int z_locatedRank, .int z_locatedLength])), (h_library, .inr (1, [.ref h_library_text, .ref h_library_owners, .ref h_library_starts, .int z_library_documents, .int z_library_indexed])), (h_library_text, .inl (cI, 16448, .inl z_library_text)), (h_p1, .inr (0, [.ref h_p1_bytes, .int z_p1_length])), (h_p1_bytes, .inl (cI, n_p1_bytes, .inl z_p1_bytes))] sz [.ref h_t, .ref h_p1, .int a_p2, .int a_p3]) (va_Qi (fun (r : Int32) (u : Unit) => post r ) (fun u t => cAft (dC, dI) classes (TYS cI cJ cB cZ) (va_A [(h_t, .inr (3, [.ref h_sorted, .ref h_ranks, .ref h_alikeBefore, .ref h_piecesUpTo, .ref h_sorter, .ref h_library, .int z_first, .int z_size, .int z_locatedRank, .int z_locatedLength])), (h_library, .inr (1, [.ref h_library_text, .ref h_library_owners, .ref h_library_starts, .int z_library_documents, .int z_library_indexed])), (h_library_text, .inl (cI, 16448, .inl z_library_text)), (h_p1, .inr (0, [.ref h_p1_bytes, .int z_p1_length])), (h_p1_bytes, .inl (cI, n_p1_bytes, .inl z_p1_bytes))] sz) [(h_t, .inr (3, [.ref h_sorted, .ref h_ranks, .ref h_alikeBefore, .ref h_piecesUpTo, .ref h_sorter, .ref h_library, .int z_first, .int z_size, .int z_locatedRank, .int z_locatedLength])), (h_library, .inr (1, [.ref h_library_text, .ref h_library_owners, .ref h_library_starts, .int z_library_documents, .int z_library_indexed])), (h_library_text, .inl (cI, 16448, .inl z_library_text)), (h_p1, .inr (0, [.ref h_p1_bytes, .int z_p1_length])), (h_p1_bytes, .inl (cI, n_p1_bytes, .inl z_p1_bytes))] t) (va_A [(h_t, .inr (3, [.ref h_sorted, .ref h_ranks, .ref h_alikeBefore, .ref h_piecesUpTo, .ref h_sorter, .ref h_library, .int z_first, .int z_size, .int z_locatedRank, .int z_locatedLength])), (h_library, .inr (1, [.ref h_library_text, .ref h_library_owners, .ref h_library_starts, .int z_library_documents, .int z_library_indexed])), (h_library_text, .inl (cI, 16448, .inl z_library_text)), (h_p1, .inr (0, [.ref h_p1_bytes, .int z_p1_length])), (h_p1_bytes, .inl (cI, n_p1_bytes, .inl z_p1_bytes))] sz)) 0 0 (va_A [(h_t, .inr (3, [.ref h_sorted, .ref h_ranks, .ref h_alikeBefore, .ref h_piecesUpTo, .ref h_sorter, .ref h_library, .int z_first, .int z_size, .int z_locatedRank, .int z_locatedLength])), (h_library, .inr (1, [.ref h_library_text, .ref h_library_owners, .ref h_library_starts, .int z_library_documents, .int z_library_indexed])), (h_library_text, .inl (cI, 16448, .inl z_library_text)), (h_p1, .inr (0, [.ref h_p1_bytes, .int z_p1_length])), (h_p1_bytes, .inl (cI, n_p1_bytes, .inl z_p1_bytes))] sz) := by
  refine Met.ofW (cc := b_OR_isBefore) (maxL := 4) (ret := (some .boolean)) (by decide) rfl ?_
  intro p e s m args below meth c s₁ B hml hq
  obtain ⟨rfl, hsz, hP, hK, hD0⟩ := hq
  have hts := atoms_spec (ws := Cond.code y_OR_isBefore b_OR_isBefore 4 (some .boolean) :: WT) B.pre
  have hw : ∀ w ∈ WT, w.before ([.ref h_t, .ref h_p1, .int a_p2, .int a_p3] : List Value).toArray s = true := fun w h => hts w (List.mem_cons_of_mem _ h)
  have hx := B.exec
  have hb := B.bytes
  have hr := B.returns
  have hlk := B.notSynchronized
  have hown : s.vm.findClass "SuffixIndex$SuffixOrder" = some m.cls := findClass_of_methodNamed B.named
  have F : CallFix p m c b_OR_isBefore 4 s ([.ref h_t, .ref h_p1, .int a_p2, .int a_p3] : List Value).toArray WT "SuffixIndex$SuffixOrder" := ⟨hx, hb, hml, hown, hw⟩
  subst hsz
  have hD := hD0.self (sz := s.heap.size)
  generalize hAe : va_A [(h_t, .inr (3, [.ref h_sorted, .ref h_ranks, .ref h_alikeBefore, .ref h_piecesUpTo, .ref h_sorter, .ref h_library, .int z_first, .int z_size, .int z_locatedRank, .int z_locatedLength])), (h_library, .inr (1, [.ref h_library_text, .ref h_library_owners, .ref h_library_starts, .int z_library_documents, .int z_library_indexed])), (h_library_text, .inl (cI, 16448, .inl z_library_text)), (h_p1, .inr (0, [.ref h_p1_bytes, .int z_p1_length])), (h_p1_bytes, .inl (cI, n_p1_bytes, .inl z_p1_bytes))] s.heap.size = A at hD ⊢
  have hA : ∀ q : Nat, s.heap.size ≤ q → A q := fun q h => by rw [← hAe]; exact Or.inr h
  have hS : va_S A s.heap s.heap [] := va_S.rf
  have hl := lv_entry ([.ref h_t, .ref h_p1, .int a_p2, .int a_p3]) (n := 4) (Nat.le_of_ble_eq_true rfl)
  rw [lg_entry_eq]
  generalize (lg_sl ([.ref h_t, .ref h_p1, .int a_p2, .int a_p3]) ++ List.replicate (4 - (lg_sl ([.ref h_t, .ref h_p1, .int a_p2, .int a_p3])).length) Slot.unset).toArray = ls at hl ⊢
  have hl : lv_has ls 4 [(0, .ref h_t), (1, .ref h_p1), (2, .int a_p2), (3, .int a_p3)] := hl
  show W p l e rm_OR_isBefore s m _ below meth c s.heap [] 0 0 _ _
  have hP : va_P (dC, dI) classes [(h_t, .inr (3, [.ref h_sorted, .ref h_ranks, .ref h_alikeBefore, .ref h_piecesUpTo, .ref h_sorter, .ref h_library, .int z_first, .int z_size, .int z_locatedRank, .int z_locatedLength])), (h_library, .inr (1, [.ref h_library_text, .ref h_library_owners, .ref h_library_starts, .int z_library_documents, .int z_library_indexed])), (h_library_text, .inl (cI, 16448, .inl z_library_text)), (h_p1, .inr (0, [.ref h_p1_bytes, .int z_p1_length])), (h_p1_bytes, .inl (cI, n_p1_bytes, .inl z_p1_bytes))] s.heap := hP
  obtain ⟨H, hHe⟩ : ∃ H, H = s.heap := ⟨_, rfl⟩
  have hS : va_S A s.heap H [] := by rw [hHe]; exact hS
  rw [← hHe] at hP
  suffices hgoal : W p l e rm_OR_isBefore s m ([.ref h_t, .ref h_p1, .int a_p2, .int a_p3] : List Value).toArray below meth c H [] 0 0 (MQ below (va_Qi (fun (r : Int32) (u : Unit) => post r ) (fun u t => cAft (dC, dI) classes (TYS cI cJ cB cZ) A [(h_t, .inr (3, [.ref h_sorted, .ref h_ranks, .ref h_alikeBefore, .ref h_piecesUpTo, .ref h_sorter, .ref h_library, .int z_first, .int z_size, .int z_locatedRank, .int z_locatedLength])), (h_library, .inr (1, [.ref h_library_text, .ref h_library_owners, .ref h_library_starts, .int z_library_documents, .int z_library_indexed])), (h_library_text, .inl (cI, 16448, .inl z_library_text)), (h_p1, .inr (0, [.ref h_p1_bytes, .int z_p1_length])), (h_p1_bytes, .inl (cI, n_p1_bytes, .inl z_p1_bytes))] t) A) ([.ref h_t, .ref h_p1, .int a_p2, .int a_p3] : List Value).toArray s 0 0 A) (F0 m 0 ls []) by rw [hHe] at hgoal; exact hgoal
  refine lv_iload_n hx hb d_OR_isBefore_0 rfl (lv_at hl 2 rfl) ?_
  refine lv_aload_n hx hb d_OR_isBefore_1 rfl (lv_at hl 1 rfl) ?_
  refine va_get (D := (dC, dI)) (ci := 0) (v := .int z_p1_length) (C := "SuffixIndex$ByteRow") (T := F_BR) (N := 2) hx hb hw i_BR hown hK hP 3 rfl rfl 1 (by decide) (hw _ m_52) (fun _ h9 => h9) rfl d_OR_isBefore_2 ?_
  obtain ⟨hvt, hvf⟩ := hv
  refine lv_icmp_ge (tgt := 38) hx hb d_OR_isBefore_5 (by decide) (fun c1 => ?_) (fun c1 => ?_)
  · have hv := hvt c1
    refine lv_iconst (v := 0) hx hb d_OR_isBefore_38 (by decide) ?_
    exact W.zret (v := 0) hx hb hr rfl (fun t ht hW => ⟨⟨0, (), rfl, hv, by rw [ht]; exact hP, va_K.moved hW.alike hK, hD⟩, hS.F ht⟩) hS.2.2 d_OR_isBefore_39
  · have hv := hvf c1
    refine lv_iload_n hx hb d_OR_isBefore_8 rfl (lv_at hl 3 rfl) ?_
    refine lv_aload_n hx hb d_OR_isBefore_9 rfl (lv_at hl 0 rfl) ?_
    refine va_get (D := (dC, dI)) (ci := 3) (v := .int z_size) (C := "SuffixIndex$SuffixOrder") (T := F_OR) (N := 10) hx hb hw i_OR hown hK hP 0 rfl rfl 7 (by decide) (hw _ m_137) (fun _ h9 => h9) rfl d_OR_isBefore_10 ?_
    obtain ⟨hvt, hvf⟩ := hv
    refine lv_icmp_ge (tgt := 38) hx hb d_OR_isBefore_13 (by decide) (fun c2 => ?_) (fun c2 => ?_)
    · have hv := hvt c2
      refine lv_iconst (v := 0) hx hb d_OR_isBefore_38 (by decide) ?_
      exact W.zret (v := 0) hx hb hr rfl (fun t ht hW => ⟨⟨0, (), rfl, hv, by rw [ht]; exact hP, va_K.moved hW.alike hK, hD⟩, hS.F ht⟩) hS.2.2 d_OR_isBefore_39
    · have hv := hvf c2
      refine lv_aload_n hx hb d_OR_isBefore_16 rfl (lv_at hl 0 rfl) ?_
      refine va_get (D := (dC, dI)) (ci := 3) (v := .ref h_library) (C := "SuffixIndex$SuffixOrder") (T := F_OR) (N := 10) hx hb hw i_OR hown hK hP 0 rfl rfl 5 (by decide) (hw _ m_132) (fun _ h9 => h9) rfl d_OR_isBefore_17 ?_
      refine va_get (D := (dC, dI)) (ci := 1) (v := .ref h_library_text) (C := "SuffixIndex$Library") (T := F_LB) (N := 5) hx hb hw i_LB hown hK hP 1 rfl rfl 0 (by decide) (hw _ m_66) (fun _ h9 => h9) rfl d_OR_isBefore_20 ?_
      refine lv_iload_n hx hb d_OR_isBefore_23 rfl (lv_at hl 3 rfl) ?_
      obtain ⟨hin, hv⟩ := hv
      refine va_iald hx hb hK hP 2 0 rfl rfl hin d_OR_isBefore_24 ?_
      refine lv_aload_n hx hb d_OR_isBefore_25 rfl (lv_at hl 1 rfl) ?_
      refine va_get (D := (dC, dI)) (ci := 0) (v := .ref h_p1_bytes) (C := "SuffixIndex$ByteRow") (T := F_BR) (N := 2) hx hb hw i_BR hown hK hP 3 rfl rfl 0 (by decide) (hw _ m_46) (fun _ h9 => h9) rfl d_OR_isBefore_26 ?_
      refine lv_iload_n hx hb d_OR_isBefore_29 rfl (lv_at hl 2 rfl) ?_
      obtain ⟨hin, hv⟩ := hv
      refine va_iald hx hb hK hP 4 0 rfl rfl hin d_OR_isBefore_30 ?_
      obtain ⟨hvt, hvf⟩ := hv
      refine lv_icmp_ge (tgt := 38) hx hb d_OR_isBefore_31 (by decide) (fun c3 => ?_) (fun c3 => ?_)
      · have hv := hvt c3
        refine lv_iconst (v := 0) hx hb d_OR_isBefore_38 (by decide) ?_
        exact W.zret (v := 0) hx hb hr rfl (fun t ht hW => ⟨⟨0, (), rfl, hv, by rw [ht]; exact hP, va_K.moved hW.alike hK, hD⟩, hS.F ht⟩) hS.2.2 d_OR_isBefore_39
      · have hv := hvf c3
        refine lv_iconst (v := 1) hx hb d_OR_isBefore_34 (by decide) ?_
        refine lv_goto (tgt := 39) hx hb d_OR_isBefore_35 (by decide) ?_
        exact W.zret (v := 1) hx hb hr rfl (fun t ht hW => ⟨⟨1, (), rfl, hv, by rw [ht]; exact hP, va_K.moved hW.alike hK, hD⟩, hS.F ht⟩) hS.2.2 d_OR_isBefore_39

set_option maxHeartbeats 4000000 in
set_option maxRecDepth 100000 in
theorem wk_OR_locate_94 {p : Program} {l : Launch} {e : Env} {s : State} {m : MethodId} {below : List Frame} {meth : Method} {c : Code} {A : Nat → Prop} {dC : Nat → ClassId} {dI : Nat → Nat → Nat} {cI cJ cB cZ : ClassId} {h_t : Nat} {h_sorted : Nat} {h_ranks : Nat} {h_alikeBefore : Nat} {h_piecesUpTo : Nat} {h_sorter : Nat} {h_library : Nat} {h_library_text : Nat} {h_library_owners : Nat} {h_library_starts : Nat} {h_p1 : Nat} {h_p1_bytes : Nat} {a_p2 : Int32} {n_p1_bytes : Nat} {z_first : Int32} {z_size : Int32} {z_sorted : Nat → Int32} {z_library_text : Nat → Int32} {z_p1_length : Int32} {z_p1_bytes : Nat → Int32} {z_library_documents : Int32} {z_library_indexed : Int32} {post : Int32 → Int32 → Prop} {K17 : Int32 → Int32 → Int32 → Int32 → Int32 → Int32 → Prop} (F : CallFix p m c b_OR_locate 10 s ([.ref h_t, .ref h_p1, .int a_p2] : List Value).toArray WT "SuffixIndex$SuffixOrder") (hr : meth.sig.returnType = none) (hlk : meth.locks = false) (hK : va_K (dC, dI) classes (TYS cI cJ cB cZ) s) (hA : ∀ q, s.heap.size ≤ q → A q) (hK17 : ∀ (x3 : Int32) (x4 : Int32) (x5 : Int32) (x6 : Int32) (z_locatedRank : Int32) (z_locatedLength : Int32), K17 x3 x4 x5 x6 z_locatedRank z_locatedLength → ∀ (H : Heap) (locs : List Loc) (ls : Array Slot), va_P (dC, dI) classes [(h_t, .inr (3, [.ref h_sorted, .ref h_ranks, .ref h_alikeBefore, .ref h_piecesUpTo, .ref h_sorter, .ref h_library, .int z_first, .int z_size, .int z_locatedRank, .int z_locatedLength])), (h_sorted, .inl (cI, 16448, .inl z_sorted)), (h_library, .inr (1, [.ref h_library_text, .ref h_library_owners, .ref h_library_starts, .int z_library_documents, .int z_library_indexed])), (h_library_text, .inl (cI, 16448, .inl z_library_text)), (h_p1, .inr (0, [.ref h_p1_bytes, .int z_p1_length])), (h_p1_bytes, .inl (cI, n_p1_bytes, .inl z_p1_bytes))] H → va_D A [(h_t, .inr (3, [.ref h_sorted, .ref h_ranks, .ref h_alikeBefore, .ref h_piecesUpTo, .ref h_sorter, .ref h_library, .int z_first, .int z_size, .int z_locatedRank, .int z_locatedLength])), (h_sorted, .inl (cI, 16448, .inl z_sorted)), (h_library, .inr (1, [.ref h_library_text, .ref h_library_owners, .ref h_library_starts, .int z_library_documents, .int z_library_indexed])), (h_library_text, .inl (cI, 16448, .inl z_library_text)), (h_p1, .inr (0, [.ref h_p1_bytes, .int z_p1_length])), (h_p1_bytes, .inl (cI, n_p1_bytes, .inl z_p1_bytes))] → va_S A s.heap H locs → lv_has ls 10 [(0, .ref h_t), (1, .ref h_p1), (2, .int a_p2), (3, .int x3), (4, .int x4), (5, .int x5), (6, .int x6)] → W p l e rm_OR_locate s m ([.ref h_t, .ref h_p1, .int a_p2] : List Value).toArray below meth c H locs 0 0 (MQ below (va_Qv (fun u : Int32 × Int32 => post u.1 u.2) (fun u t => cAft (dC, dI) classes (TYS cI cJ cB cZ) A [(h_t, .inr (3, [.ref h_sorted, .ref h_ranks, .ref h_alikeBefore, .ref h_piecesUpTo, .ref h_sorter, .ref h_library, .int z_first, .int z_size, .int u.1, .int u.2])), (h_sorted, .inl (cI, 16448, .inl z_sorted)), (h_library, .inr (1, [.ref h_library_text, .ref h_library_owners, .ref h_library_starts, .int z_library_documents, .int z_library_indexed])), (h_library_text, .inl (cI, 16448, .inl z_library_text)), (h_p1, .inr (0, [.ref h_p1_bytes, .int z_p1_length])), (h_p1_bytes, .inl (cI, n_p1_bytes, .inl z_p1_bytes))] t) A) ([.ref h_t, .ref h_p1, .int a_p2] : List Value).toArray s 0 0 A) (F0 m 17 ls [])) : ∀ (x3 : Int32) (x4 : Int32) (x5 : Int32) (x6 : Int32) (z_locatedRank : Int32) (z_locatedLength : Int32), vc_OR_locate_94 a_p2 n_p1_bytes z_first z_size z_sorted z_library_text z_p1_length z_p1_bytes post K17 x3 x4 x5 x6 z_locatedRank z_locatedLength → ∀ (H : Heap) (locs : List Loc) (ls : Array Slot), va_P (dC, dI) classes [(h_t, .inr (3, [.ref h_sorted, .ref h_ranks, .ref h_alikeBefore, .ref h_piecesUpTo, .ref h_sorter, .ref h_library, .int z_first, .int z_size, .int z_locatedRank, .int z_locatedLength])), (h_sorted, .inl (cI, 16448, .inl z_sorted)), (h_library, .inr (1, [.ref h_library_text, .ref h_library_owners, .ref h_library_starts, .int z_library_documents, .int z_library_indexed])), (h_library_text, .inl (cI, 16448, .inl z_library_text)), (h_p1, .inr (0, [.ref h_p1_bytes, .int z_p1_length])), (h_p1_bytes, .inl (cI, n_p1_bytes, .inl z_p1_bytes))] H → va_D A [(h_t, .inr (3, [.ref h_sorted, .ref h_ranks, .ref h_alikeBefore, .ref h_piecesUpTo, .ref h_sorter, .ref h_library, .int z_first, .int z_size, .int z_locatedRank, .int z_locatedLength])), (h_sorted, .inl (cI, 16448, .inl z_sorted)), (h_library, .inr (1, [.ref h_library_text, .ref h_library_owners, .ref h_library_starts, .int z_library_documents, .int z_library_indexed])), (h_library_text, .inl (cI, 16448, .inl z_library_text)), (h_p1, .inr (0, [.ref h_p1_bytes, .int z_p1_length])), (h_p1_bytes, .inl (cI, n_p1_bytes, .inl z_p1_bytes))] → va_S A s.heap H locs → lv_has ls 10 [(0, .ref h_t), (1, .ref h_p1), (2, .int a_p2), (3, .int x3), (4, .int x4), (5, .int x5), (6, .int x6)] → W p l e rm_OR_locate s m ([.ref h_t, .ref h_p1, .int a_p2] : List Value).toArray below meth c H locs 0 0 (MQ below (va_Qv (fun u : Int32 × Int32 => post u.1 u.2) (fun u t => cAft (dC, dI) classes (TYS cI cJ cB cZ) A [(h_t, .inr (3, [.ref h_sorted, .ref h_ranks, .ref h_alikeBefore, .ref h_piecesUpTo, .ref h_sorter, .ref h_library, .int z_first, .int z_size, .int u.1, .int u.2])), (h_sorted, .inl (cI, 16448, .inl z_sorted)), (h_library, .inr (1, [.ref h_library_text, .ref h_library_owners, .ref h_library_starts, .int z_library_documents, .int z_library_indexed])), (h_library_text, .inl (cI, 16448, .inl z_library_text)), (h_p1, .inr (0, [.ref h_p1_bytes, .int z_p1_length])), (h_p1_bytes, .inl (cI, n_p1_bytes, .inl z_p1_bytes))] t) A) ([.ref h_t, .ref h_p1, .int a_p2] : List Value).toArray s 0 0 A) (F0 m 94 ls []) := by
  obtain ⟨hx, hb, hml, hown, hw⟩ := id F
  intro x3 x4 x5 x6 z_locatedRank z_locatedLength hv H locs ls hP hD hS hl
  refine lv_goto (tgt := 17) hx hb d_OR_locate_94 (by decide) ?_
  exact hK17 x3 x4 x5 x6 z_locatedRank z_locatedLength hv _ _ _ hP hD hS (lv_sub hl [0, 1, 2, 3, 4, 5, 6] rfl)

set_option maxHeartbeats 4000000 in
set_option maxRecDepth 100000 in
theorem wk_OR_locate_17 {p : Program} {l : Launch} {e : Env} {s : State} {m : MethodId} {below : List Frame} {meth : Method} {c : Code} {A : Nat → Prop} {dC : Nat → ClassId} {dI : Nat → Nat → Nat} {cI cJ cB cZ : ClassId} {h_t : Nat} {h_sorted : Nat} {h_ranks : Nat} {h_alikeBefore : Nat} {h_piecesUpTo : Nat} {h_sorter : Nat} {h_library : Nat} {h_library_text : Nat} {h_library_owners : Nat} {h_library_starts : Nat} {h_p1 : Nat} {h_p1_bytes : Nat} {a_p2 : Int32} {n_p1_bytes : Nat} {z_first : Int32} {z_size : Int32} {z_sorted : Nat → Int32} {z_library_text : Nat → Int32} {z_p1_length : Int32} {z_p1_bytes : Nat → Int32} {z_library_documents : Int32} {z_library_indexed : Int32} {post : Int32 → Int32 → Prop} (F : CallFix p m c b_OR_locate 10 s ([.ref h_t, .ref h_p1, .int a_p2] : List Value).toArray WT "SuffixIndex$SuffixOrder") (hr : meth.sig.returnType = none) (hlk : meth.locks = false) (hK : va_K (dC, dI) classes (TYS cI cJ cB cZ) s) (hA : ∀ q, s.heap.size ≤ q → A q) : ∀ (k : Nat) (x3 : Int32) (x4 : Int32) (x5 : Int32) (x6 : Int32) (z_locatedRank : Int32) (z_locatedLength : Int32), vc_OR_locate_17 a_p2 n_p1_bytes z_first z_size z_sorted z_library_text z_p1_length z_p1_bytes post k x3 x4 x5 x6 z_locatedRank z_locatedLength → ∀ (H : Heap) (locs : List Loc) (ls : Array Slot), va_P (dC, dI) classes [(h_t, .inr (3, [.ref h_sorted, .ref h_ranks, .ref h_alikeBefore, .ref h_piecesUpTo, .ref h_sorter, .ref h_library, .int z_first, .int z_size, .int z_locatedRank, .int z_locatedLength])), (h_sorted, .inl (cI, 16448, .inl z_sorted)), (h_library, .inr (1, [.ref h_library_text, .ref h_library_owners, .ref h_library_starts, .int z_library_documents, .int z_library_indexed])), (h_library_text, .inl (cI, 16448, .inl z_library_text)), (h_p1, .inr (0, [.ref h_p1_bytes, .int z_p1_length])), (h_p1_bytes, .inl (cI, n_p1_bytes, .inl z_p1_bytes))] H → va_D A [(h_t, .inr (3, [.ref h_sorted, .ref h_ranks, .ref h_alikeBefore, .ref h_piecesUpTo, .ref h_sorter, .ref h_library, .int z_first, .int z_size, .int z_locatedRank, .int z_locatedLength])), (h_sorted, .inl (cI, 16448, .inl z_sorted)), (h_library, .inr (1, [.ref h_library_text, .ref h_library_owners, .ref h_library_starts, .int z_library_documents, .int z_library_indexed])), (h_library_text, .inl (cI, 16448, .inl z_library_text)), (h_p1, .inr (0, [.ref h_p1_bytes, .int z_p1_length])), (h_p1_bytes, .inl (cI, n_p1_bytes, .inl z_p1_bytes))] → va_S A s.heap H locs → lv_has ls 10 [(0, .ref h_t), (1, .ref h_p1), (2, .int a_p2), (3, .int x3), (4, .int x4), (5, .int x5), (6, .int x6)] → W p l e rm_OR_locate s m ([.ref h_t, .ref h_p1, .int a_p2] : List Value).toArray below meth c H locs 0 0 (MQ below (va_Qv (fun u : Int32 × Int32 => post u.1 u.2) (fun u t => cAft (dC, dI) classes (TYS cI cJ cB cZ) A [(h_t, .inr (3, [.ref h_sorted, .ref h_ranks, .ref h_alikeBefore, .ref h_piecesUpTo, .ref h_sorter, .ref h_library, .int z_first, .int z_size, .int u.1, .int u.2])), (h_sorted, .inl (cI, 16448, .inl z_sorted)), (h_library, .inr (1, [.ref h_library_text, .ref h_library_owners, .ref h_library_starts, .int z_library_documents, .int z_library_indexed])), (h_library_text, .inl (cI, 16448, .inl z_library_text)), (h_p1, .inr (0, [.ref h_p1_bytes, .int z_p1_length])), (h_p1_bytes, .inl (cI, n_p1_bytes, .inl z_p1_bytes))] t) A) ([.ref h_t, .ref h_p1, .int a_p2] : List Value).toArray s 0 0 A) (F0 m 17 ls []) := by
  obtain ⟨hx, hb, hml, hown, hw⟩ := id F
  intro k
  induction k with
  | zero =>
    intro x3 x4 x5 x6 z_locatedRank z_locatedLength hv
    exact False.elim hv
  | succ k ih =>
    intro x3 x4 x5 x6 z_locatedRank z_locatedLength hv H locs ls hP hD hS hl
    refine lv_iload_n hx hb d_OR_locate_17 rfl (lv_at hl 3 rfl) ?_
    refine lv_iload hx hb d_OR_locate_18 (lv_at hl 4 rfl) ?_
    obtain ⟨hvt, hvf⟩ := hv
    refine lv_icmp_ge (tgt := 97) hx hb d_OR_locate_20 (by decide) (fun c1 => ?_) (fun c1 => ?_)
    · have hv := hvt c1
      refine lv_aload_n hx hb d_OR_locate_97 rfl (lv_at hl 0 rfl) ?_
      refine lv_iload_n hx hb d_OR_locate_98 rfl (lv_at hl 3 rfl) ?_
      refine va_put (D := (dC, dI)) (ci := 3) (v := .int x3) (ty := .int) (C := "SuffixIndex$SuffixOrder") (T := F_OR) (N := 10) hx hb hw i_OR t_OR t_OR_ok n_OR hown hK hP hD hS 0 rfl rfl 8 (by decide) (hw _ m_142) (fun _ h9 => h9) rfl (by decide +kernel) rfl rfl (Nat.le_of_ble_eq_true rfl) d_OR_locate_99 (fun H locs hP hD hS => ?_)
      have hP : va_P (dC, dI) classes [(h_t, .inr (3, [.ref h_sorted, .ref h_ranks, .ref h_alikeBefore, .ref h_piecesUpTo, .ref h_sorter, .ref h_library, .int z_first, .int z_size, .int x3, .int z_locatedLength])), (h_sorted, .inl (cI, 16448, .inl z_sorted)), (h_library, .inr (1, [.ref h_library_text, .ref h_library_owners, .ref h_library_starts, .int z_library_documents, .int z_library_indexed])), (h_library_text, .inl (cI, 16448, .inl z_library_text)), (h_p1, .inr (0, [.ref h_p1_bytes, .int z_p1_length])), (h_p1_bytes, .inl (cI, n_p1_bytes, .inl z_p1_bytes))] H := hP
      have hD : va_D A [(h_t, .inr (3, [.ref h_sorted, .ref h_ranks, .ref h_alikeBefore, .ref h_piecesUpTo, .ref h_sorter, .ref h_library, .int z_first, .int z_size, .int x3, .int z_locatedLength])), (h_sorted, .inl (cI, 16448, .inl z_sorted)), (h_library, .inr (1, [.ref h_library_text, .ref h_library_owners, .ref h_library_starts, .int z_library_documents, .int z_library_indexed])), (h_library_text, .inl (cI, 16448, .inl z_library_text)), (h_p1, .inr (0, [.ref h_p1_bytes, .int z_p1_length])), (h_p1_bytes, .inl (cI, n_p1_bytes, .inl z_p1_bytes))] := hD
      refine lv_aload_n hx hb d_OR_locate_102 rfl (lv_at hl 0 rfl) ?_
      refine lv_iload hx hb d_OR_locate_103 (lv_at hl 5 rfl) ?_
      refine lv_iload hx hb d_OR_locate_105 (lv_at hl 6 rfl) ?_
      refine va_mmax hx hb (hml.trans hl.1.symm) hown (hw _ m_816) (hw _ m_424) (hw _ m_22) (hw _ m_425) (by decide) (Nat.le_of_ble_eq_true rfl) (Nat.zero_le _) (Nat.zero_le _) d_OR_locate_107 ?_
      refine va_put (D := (dC, dI)) (ci := 3) (v := .int (if x5 < x6 then x6 else x5)) (ty := .int) (C := "SuffixIndex$SuffixOrder") (T := F_OR) (N := 10) hx hb hw i_OR t_OR t_OR_ok n_OR hown hK hP hD hS 0 rfl rfl 9 (by decide) (hw _ m_144) (fun _ h9 => h9) rfl (by decide +kernel) rfl rfl (Nat.le_of_ble_eq_true rfl) d_OR_locate_110 (fun H locs hP hD hS => ?_)
      have hP : va_P (dC, dI) classes [(h_t, .inr (3, [.ref h_sorted, .ref h_ranks, .ref h_alikeBefore, .ref h_piecesUpTo, .ref h_sorter, .ref h_library, .int z_first, .int z_size, .int x3, .int (if x5 < x6 then x6 else x5)])), (h_sorted, .inl (cI, 16448, .inl z_sorted)), (h_library, .inr (1, [.ref h_library_text, .ref h_library_owners, .ref h_library_starts, .int z_library_documents, .int z_library_indexed])), (h_library_text, .inl (cI, 16448, .inl z_library_text)), (h_p1, .inr (0, [.ref h_p1_bytes, .int z_p1_length])), (h_p1_bytes, .inl (cI, n_p1_bytes, .inl z_p1_bytes))] H := hP
      have hD : va_D A [(h_t, .inr (3, [.ref h_sorted, .ref h_ranks, .ref h_alikeBefore, .ref h_piecesUpTo, .ref h_sorter, .ref h_library, .int z_first, .int z_size, .int x3, .int (if x5 < x6 then x6 else x5)])), (h_sorted, .inl (cI, 16448, .inl z_sorted)), (h_library, .inr (1, [.ref h_library_text, .ref h_library_owners, .ref h_library_starts, .int z_library_documents, .int z_library_indexed])), (h_library_text, .inl (cI, 16448, .inl z_library_text)), (h_p1, .inr (0, [.ref h_p1_bytes, .int z_p1_length])), (h_p1_bytes, .inl (cI, n_p1_bytes, .inl z_p1_bytes))] := hD
      exact W.vret hx hb hr (fun t ht hW => ⟨⟨(x3, (if x5 < x6 then x6 else x5)), rfl, hv, by rw [ht]; exact hP, va_K.moved hW.alike hK, hD⟩, hS.F ht⟩) hS.2.2 d_OR_locate_113
    · have hv := hvf c1
      refine lv_iload_n hx hb d_OR_locate_23 rfl (lv_at hl 3 rfl) ?_
      refine lv_iload hx hb d_OR_locate_24 (lv_at hl 4 rfl) ?_
      refine lv_iadd hx hb d_OR_locate_26 ?_
      refine lv_iconst (v := 1) hx hb d_OR_locate_27 (by decide) ?_
      refine lv_iushr hx hb d_OR_locate_28 rfl ?_
      refine lv_istore (lv' := [(7, .int (((x3 + x4).toUInt32 >>> ((1 : Int32).toUInt32 &&& Int32.toUInt32 31)).toInt32)), (0, .ref h_t), (1, .ref h_p1), (2, .int a_p2), (3, .int x3), (4, .int x4), (5, .int x5), (6, .int x6)]) hx hb d_OR_locate_29 hl (by decide) rfl (fun ls hl => ?_)
      refine lv_aload_n hx hb d_OR_locate_31 rfl (lv_at hl 1 rfl) ?_
      refine va_get (D := (dC, dI)) (ci := 3) (v := .ref h_sorted) (C := "SuffixIndex$SuffixOrder") (T := F_OR) (N := 10) hx hb hw i_OR hown hK hP 0 rfl rfl 0 (by decide) (hw _ m_118) (fun _ h9 => h9) rfl d_OR_locate_32 ?_
      refine lv_iload hx hb d_OR_locate_35 (lv_at hl 0 rfl) ?_
      obtain ⟨hin, hv⟩ := hv
      refine va_iald hx hb hK hP 1 0 rfl rfl hin d_OR_locate_37 ?_
      refine lv_istore (lv' := [(8, .int (z_sorted (((x3 + x4).toUInt32 >>> ((1 : Int32).toUInt32 &&& Int32.toUInt32 31)).toInt32).toNatClampNeg)), (7, .int (((x3 + x4).toUInt32 >>> ((1 : Int32).toUInt32 &&& Int32.toUInt32 31)).toInt32)), (0, .ref h_t), (1, .ref h_p1), (2, .int a_p2), (3, .int x3), (4, .int x4), (5, .int x5), (6, .int x6)]) hx hb d_OR_locate_38 hl (by decide) rfl (fun ls hl => ?_)
      refine lv_aload_n hx hb d_OR_locate_40 rfl (lv_at hl 2 rfl) ?_
      refine lv_aload_n hx hb d_OR_locate_41 rfl (lv_at hl 3 rfl) ?_
      refine lv_iload_n hx hb d_OR_locate_42 rfl (lv_at hl 4 rfl) ?_
      refine lv_iload hx hb d_OR_locate_43 (lv_at hl 0 rfl) ?_
      refine lv_iload hx hb d_OR_locate_45 (lv_at hl 7 rfl) ?_
      refine lv_iload hx hb d_OR_locate_47 (lv_at hl 8 rfl) ?_
      refine va_mmin hx hb (hml.trans hl.1.symm) hown (hw _ m_807) (hw _ m_442) (hw _ m_22) (hw _ m_443) (by decide) (Nat.le_of_ble_eq_true rfl) (Nat.zero_le _) (Nat.zero_le _) d_OR_locate_49 ?_
      refine cV_i (wr := [(h_sorted, .inl (cI, 16448, .inl z_sorted))]) (rest := []) (c_OR_alikeWith l dC dI cI cJ cB cZ h_t h_sorted h_ranks h_alikeBefore h_piecesUpTo h_sorter h_library h_library_text h_library_owners h_library_starts h_p1 h_p1_bytes n_p1_bytes H.size z_first z_size z_locatedRank z_locatedLength z_library_documents z_library_indexed z_library_text z_p1_length z_p1_bytes a_p2 (z_sorted (((x3 + x4).toUInt32 >>> ((1 : Int32).toUInt32 &&& Int32.toUInt32 31)).toInt32).toNatClampNeg) (if x6 < x5 then x6 else x5) _ hv) F (cw_V (fun _ h => h) 4 hw m_808 m_810 ms_8 m_4 m_811 rfl rfl (by decide +kernel) ⟨by decide, by decide⟩) hK hP hD hS hA [0, 2, 3, 4, 5] [1] rfl rfl rfl rfl (by decide) 0 3 rfl rfl rfl hl.1 rfl (Nat.le_of_ble_eq_true rfl) d_OR_locate_52 ⟨Nat.le_of_ble_eq_true rfl, Nat.le_of_ble_eq_true rfl⟩ (fun r2 u H locs hv hP hD hS => ?_)
      have hP : va_P (dC, dI) classes [(h_t, .inr (3, [.ref h_sorted, .ref h_ranks, .ref h_alikeBefore, .ref h_piecesUpTo, .ref h_sorter, .ref h_library, .int z_first, .int z_size, .int z_locatedRank, .int z_locatedLength])), (h_sorted, .inl (cI, 16448, .inl z_sorted)), (h_library, .inr (1, [.ref h_library_text, .ref h_library_owners, .ref h_library_starts, .int z_library_documents, .int z_library_indexed])), (h_library_text, .inl (cI, 16448, .inl z_library_text)), (h_p1, .inr (0, [.ref h_p1_bytes, .int z_p1_length])), (h_p1_bytes, .inl (cI, n_p1_bytes, .inl z_p1_bytes))] H := P_sub hP [1, 0, 2, 3, 4, 5] rfl
      have hD : va_D A [(h_t, .inr (3, [.ref h_sorted, .ref h_ranks, .ref h_alikeBefore, .ref h_piecesUpTo, .ref h_sorter, .ref h_library, .int z_first, .int z_size, .int z_locatedRank, .int z_locatedLength])), (h_sorted, .inl (cI, 16448, .inl z_sorted)), (h_library, .inr (1, [.ref h_library_text, .ref h_library_owners, .ref h_library_starts, .int z_library_documents, .int z_library_indexed])), (h_library_text, .inl (cI, 16448, .inl z_library_text)), (h_p1, .inr (0, [.ref h_p1_bytes, .int z_p1_length])), (h_p1_bytes, .inl (cI, n_p1_bytes, .inl z_p1_bytes))] := hD.sub [1, 0, 2, 3, 4, 5] rfl rfl
      refine lv_istore (lv' := [(9, .int r2), (8, .int (z_sorted (((x3 + x4).toUInt32 >>> ((1 : Int32).toUInt32 &&& Int32.toUInt32 31)).toInt32).toNatClampNeg)), (7, .int (((x3 + x4).toUInt32 >>> ((1 : Int32).toUInt32 &&& Int32.toUInt32 31)).toInt32)), (0, .ref h_t), (1, .ref h_p1), (2, .int a_p2), (3, .int x3), (4, .int x4), (5, .int x5), (6, .int x6)]) hx hb d_OR_locate_55 hl (by decide) rfl (fun ls hl => ?_)
      refine lv_aload_n hx hb d_OR_locate_57 rfl (lv_at hl 3 rfl) ?_
      refine lv_aload_n hx hb d_OR_locate_58 rfl (lv_at hl 4 rfl) ?_
      refine lv_iload_n hx hb d_OR_locate_59 rfl (lv_at hl 5 rfl) ?_
      refine lv_iload hx hb d_OR_locate_60 (lv_at hl 0 rfl) ?_
      refine lv_iadd hx hb d_OR_locate_62 ?_
      refine lv_iload hx hb d_OR_locate_63 (lv_at hl 1 rfl) ?_
      refine lv_iload hx hb d_OR_locate_65 (lv_at hl 0 rfl) ?_
      refine lv_iadd hx hb d_OR_locate_67 ?_
      refine cV_i (wr := [(h_sorted, .inl (cI, 16448, .inl z_sorted))]) (rest := []) (c_OR_isBefore l dC dI cI cJ cB cZ h_t h_sorted h_ranks h_alikeBefore h_piecesUpTo h_sorter h_library h_library_text h_library_owners h_library_starts h_p1 h_p1_bytes n_p1_bytes H.size z_first z_size z_locatedRank z_locatedLength z_library_documents z_library_indexed z_library_text z_p1_length z_p1_bytes (a_p2 + r2) ((z_sorted (((x3 + x4).toUInt32 >>> ((1 : Int32).toUInt32 &&& Int32.toUInt32 31)).toInt32).toNatClampNeg) + r2) _ hv) F (cw_V (fun _ h => h) 3 hw m_812 m_814 ms_9 m_4 m_815 rfl rfl (by decide +kernel) ⟨by decide, by decide⟩) hK hP hD hS hA [0, 2, 3, 4, 5] [1] rfl rfl rfl rfl (by decide) 0 3 rfl rfl rfl hl.1 rfl (Nat.le_of_ble_eq_true rfl) d_OR_locate_68 ⟨Nat.le_of_ble_eq_true rfl, Nat.le_of_ble_eq_true rfl⟩ (fun r3 u H locs hv hP hD hS => ?_)
      have hP : va_P (dC, dI) classes [(h_t, .inr (3, [.ref h_sorted, .ref h_ranks, .ref h_alikeBefore, .ref h_piecesUpTo, .ref h_sorter, .ref h_library, .int z_first, .int z_size, .int z_locatedRank, .int z_locatedLength])), (h_sorted, .inl (cI, 16448, .inl z_sorted)), (h_library, .inr (1, [.ref h_library_text, .ref h_library_owners, .ref h_library_starts, .int z_library_documents, .int z_library_indexed])), (h_library_text, .inl (cI, 16448, .inl z_library_text)), (h_p1, .inr (0, [.ref h_p1_bytes, .int z_p1_length])), (h_p1_bytes, .inl (cI, n_p1_bytes, .inl z_p1_bytes))] H := P_sub hP [1, 0, 2, 3, 4, 5] rfl
      have hD : va_D A [(h_t, .inr (3, [.ref h_sorted, .ref h_ranks, .ref h_alikeBefore, .ref h_piecesUpTo, .ref h_sorter, .ref h_library, .int z_first, .int z_size, .int z_locatedRank, .int z_locatedLength])), (h_sorted, .inl (cI, 16448, .inl z_sorted)), (h_library, .inr (1, [.ref h_library_text, .ref h_library_owners, .ref h_library_starts, .int z_library_documents, .int z_library_indexed])), (h_library_text, .inl (cI, 16448, .inl z_library_text)), (h_p1, .inr (0, [.ref h_p1_bytes, .int z_p1_length])), (h_p1_bytes, .inl (cI, n_p1_bytes, .inl z_p1_bytes))] := hD.sub [1, 0, 2, 3, 4, 5] rfl rfl
      obtain ⟨hvt, hvf⟩ := hv
      refine lv_if_eq (tgt := 86) hx hb d_OR_locate_71 (by decide) (fun c4 => ?_) (fun c4 => ?_)
      · have hv := hvt c4
        refine lv_iload hx hb d_OR_locate_86 (lv_at hl 2 rfl) ?_
        refine lv_istore (lv' := [(4, .int (((x3 + x4).toUInt32 >>> ((1 : Int32).toUInt32 &&& Int32.toUInt32 31)).toInt32)), (9, .int r2), (8, .int (z_sorted (((x3 + x4).toUInt32 >>> ((1 : Int32).toUInt32 &&& Int32.toUInt32 31)).toInt32).toNatClampNeg)), (7, .int (((x3 + x4).toUInt32 >>> ((1 : Int32).toUInt32 &&& Int32.toUInt32 31)).toInt32)), (0, .ref h_t), (1, .ref h_p1), (2, .int a_p2), (3, .int x3), (5, .int x5), (6, .int x6)]) hx hb d_OR_locate_88 hl (by decide) rfl (fun ls hl => ?_)
        refine lv_iload hx hb d_OR_locate_90 (lv_at hl 1 rfl) ?_
        refine lv_istore (lv' := [(6, .int r2), (4, .int (((x3 + x4).toUInt32 >>> ((1 : Int32).toUInt32 &&& Int32.toUInt32 31)).toInt32)), (9, .int r2), (8, .int (z_sorted (((x3 + x4).toUInt32 >>> ((1 : Int32).toUInt32 &&& Int32.toUInt32 31)).toInt32).toNatClampNeg)), (7, .int (((x3 + x4).toUInt32 >>> ((1 : Int32).toUInt32 &&& Int32.toUInt32 31)).toInt32)), (0, .ref h_t), (1, .ref h_p1), (2, .int a_p2), (3, .int x3), (5, .int x5)]) hx hb d_OR_locate_92 hl (by decide) rfl (fun ls hl => ?_)
        exact wk_OR_locate_94 F hr hlk hK hA ih x3 (((x3 + x4).toUInt32 >>> ((1 : Int32).toUInt32 &&& Int32.toUInt32 31)).toInt32) x5 r2 z_locatedRank z_locatedLength hv _ _ _ hP hD hS (lv_sub hl [5, 6, 7, 8, 1, 9, 0] rfl)
      · have hv := hvf c4
        refine lv_iload hx hb d_OR_locate_74 (lv_at hl 2 rfl) ?_
        refine lv_iconst (v := 1) hx hb d_OR_locate_76 (by decide) ?_
        refine lv_iadd hx hb d_OR_locate_77 ?_
        refine lv_istore_n (lv' := [(3, .int ((((x3 + x4).toUInt32 >>> ((1 : Int32).toUInt32 &&& Int32.toUInt32 31)).toInt32) + 1)), (9, .int r2), (8, .int (z_sorted (((x3 + x4).toUInt32 >>> ((1 : Int32).toUInt32 &&& Int32.toUInt32 31)).toInt32).toNatClampNeg)), (7, .int (((x3 + x4).toUInt32 >>> ((1 : Int32).toUInt32 &&& Int32.toUInt32 31)).toInt32)), (0, .ref h_t), (1, .ref h_p1), (2, .int a_p2), (4, .int x4), (5, .int x5), (6, .int x6)]) hx hb d_OR_locate_78 rfl hl (by decide) rfl (fun ls hl => ?_)
        refine lv_iload hx hb d_OR_locate_79 (lv_at hl 1 rfl) ?_
        refine lv_istore (lv' := [(5, .int r2), (3, .int ((((x3 + x4).toUInt32 >>> ((1 : Int32).toUInt32 &&& Int32.toUInt32 31)).toInt32) + 1)), (9, .int r2), (8, .int (z_sorted (((x3 + x4).toUInt32 >>> ((1 : Int32).toUInt32 &&& Int32.toUInt32 31)).toInt32).toNatClampNeg)), (7, .int (((x3 + x4).toUInt32 >>> ((1 : Int32).toUInt32 &&& Int32.toUInt32 31)).toInt32)), (0, .ref h_t), (1, .ref h_p1), (2, .int a_p2), (4, .int x4), (6, .int x6)]) hx hb d_OR_locate_81 hl (by decide) rfl (fun ls hl => ?_)
        refine lv_goto (tgt := 94) hx hb d_OR_locate_83 (by decide) ?_
        exact wk_OR_locate_94 F hr hlk hK hA ih ((((x3 + x4).toUInt32 >>> ((1 : Int32).toUInt32 &&& Int32.toUInt32 31)).toInt32) + 1) x4 r2 x6 z_locatedRank z_locatedLength hv _ _ _ hP hD hS (lv_sub hl [5, 6, 7, 1, 8, 0, 9] rfl)

set_option maxHeartbeats 4000000 in
set_option maxRecDepth 100000 in
theorem c_OR_locate (l : Launch) (dC : Nat → ClassId) (dI : Nat → Nat → Nat) (cI cJ cB cZ : ClassId) (h_t : Nat) (h_sorted : Nat) (h_ranks : Nat) (h_alikeBefore : Nat) (h_piecesUpTo : Nat) (h_sorter : Nat) (h_library : Nat) (h_library_text : Nat) (h_library_owners : Nat) (h_library_starts : Nat) (h_p1 : Nat) (h_p1_bytes : Nat) (n_p1_bytes : Nat) (sz : Nat) (z_first : Int32) (z_size : Int32) (z_locatedRank : Int32) (z_locatedLength : Int32) (z_sorted : Nat → Int32) (z_library_documents : Int32) (z_library_indexed : Int32) (z_library_text : Nat → Int32) (z_p1_length : Int32) (z_p1_bytes : Nat → Int32) (a_p2 : Int32) (post : Int32 → Int32 → Prop) (hv : vc_OR_locate a_p2 n_p1_bytes z_first z_size z_sorted z_library_text z_p1_length z_p1_bytes post z_locatedRank z_locatedLength) : Met l y_OR_locate (Cond.code y_OR_locate b_OR_locate 10 none :: WT) rm_OR_locate (cPre (dC, dI) classes (TYS cI cJ cB cZ) [(h_t, .inr (3, [.ref h_sorted, .ref h_ranks, .ref h_alikeBefore, .ref h_piecesUpTo, .ref h_sorter, .ref h_library, .int z_first, .int z_size, .int z_locatedRank, .int z_locatedLength])), (h_sorted, .inl (cI, 16448, .inl z_sorted)), (h_library, .inr (1, [.ref h_library_text, .ref h_library_owners, .ref h_library_starts, .int z_library_documents, .int z_library_indexed])), (h_library_text, .inl (cI, 16448, .inl z_library_text)), (h_p1, .inr (0, [.ref h_p1_bytes, .int z_p1_length])), (h_p1_bytes, .inl (cI, n_p1_bytes, .inl z_p1_bytes))] sz [.ref h_t, .ref h_p1, .int a_p2]) (va_Qv (fun u : Int32 × Int32 => post u.1 u.2) (fun u t => cAft (dC, dI) classes (TYS cI cJ cB cZ) (va_A [(h_t, .inr (3, [.ref h_sorted, .ref h_ranks, .ref h_alikeBefore, .ref h_piecesUpTo, .ref h_sorter, .ref h_library, .int z_first, .int z_size, .int z_locatedRank, .int z_locatedLength])), (h_sorted, .inl (cI, 16448, .inl z_sorted)), (h_library, .inr (1, [.ref h_library_text, .ref h_library_owners, .ref h_library_starts, .int z_library_documents, .int z_library_indexed])), (h_library_text, .inl (cI, 16448, .inl z_library_text)), (h_p1, .inr (0, [.ref h_p1_bytes, .int z_p1_length])), (h_p1_bytes, .inl (cI, n_p1_bytes, .inl z_p1_bytes))] sz) [(h_t, .inr (3, [.ref h_sorted, .ref h_ranks, .ref h_alikeBefore, .ref h_piecesUpTo, .ref h_sorter, .ref h_library, .int z_first, .int z_size, .int u.1, .int u.2])), (h_sorted, .inl (cI, 16448, .inl z_sorted)), (h_library, .inr (1, [.ref h_library_text, .ref h_library_owners, .ref h_library_starts, .int z_library_documents, .int z_library_indexed])), (h_library_text, .inl (cI, 16448, .inl z_library_text)), (h_p1, .inr (0, [.ref h_p1_bytes, .int z_p1_length])), (h_p1_bytes, .inl (cI, n_p1_bytes, .inl z_p1_bytes))] t) (va_A [(h_t, .inr (3, [.ref h_sorted, .ref h_ranks, .ref h_alikeBefore, .ref h_piecesUpTo, .ref h_sorter, .ref h_library, .int z_first, .int z_size, .int z_locatedRank, .int z_locatedLength])), (h_sorted, .inl (cI, 16448, .inl z_sorted)), (h_library, .inr (1, [.ref h_library_text, .ref h_library_owners, .ref h_library_starts, .int z_library_documents, .int z_library_indexed])), (h_library_text, .inl (cI, 16448, .inl z_library_text)), (h_p1, .inr (0, [.ref h_p1_bytes, .int z_p1_length])), (h_p1_bytes, .inl (cI, n_p1_bytes, .inl z_p1_bytes))] sz)) 0 0 (va_A [(h_t, .inr (3, [.ref h_sorted, .ref h_ranks, .ref h_alikeBefore, .ref h_piecesUpTo, .ref h_sorter, .ref h_library, .int z_first, .int z_size, .int z_locatedRank, .int z_locatedLength])), (h_sorted, .inl (cI, 16448, .inl z_sorted)), (h_library, .inr (1, [.ref h_library_text, .ref h_library_owners, .ref h_library_starts, .int z_library_documents, .int z_library_indexed])), (h_library_text, .inl (cI, 16448, .inl z_library_text)), (h_p1, .inr (0, [.ref h_p1_bytes, .int z_p1_length])), (h_p1_bytes, .inl (cI, n_p1_bytes, .inl z_p1_bytes))] sz) := by
  refine Met.ofW (cc := b_OR_locate) (maxL := 10) (ret := none) (by decide) rfl ?_
  intro p e s m args below meth c s₁ B hml hq
  obtain ⟨rfl, hsz, hP, hK, hD0⟩ := hq
  have hts := atoms_spec (ws := Cond.code y_OR_locate b_OR_locate 10 none :: WT) B.pre
  have hw : ∀ w ∈ WT, w.before ([.ref h_t, .ref h_p1, .int a_p2] : List Value).toArray s = true := fun w h => hts w (List.mem_cons_of_mem _ h)
  have hx := B.exec
  have hb := B.bytes
  have hr := B.returns
  have hlk := B.notSynchronized
  have hown : s.vm.findClass "SuffixIndex$SuffixOrder" = some m.cls := findClass_of_methodNamed B.named
  have F : CallFix p m c b_OR_locate 10 s ([.ref h_t, .ref h_p1, .int a_p2] : List Value).toArray WT "SuffixIndex$SuffixOrder" := ⟨hx, hb, hml, hown, hw⟩
  subst hsz
  have hD := hD0.self (sz := s.heap.size)
  generalize hAe : va_A [(h_t, .inr (3, [.ref h_sorted, .ref h_ranks, .ref h_alikeBefore, .ref h_piecesUpTo, .ref h_sorter, .ref h_library, .int z_first, .int z_size, .int z_locatedRank, .int z_locatedLength])), (h_sorted, .inl (cI, 16448, .inl z_sorted)), (h_library, .inr (1, [.ref h_library_text, .ref h_library_owners, .ref h_library_starts, .int z_library_documents, .int z_library_indexed])), (h_library_text, .inl (cI, 16448, .inl z_library_text)), (h_p1, .inr (0, [.ref h_p1_bytes, .int z_p1_length])), (h_p1_bytes, .inl (cI, n_p1_bytes, .inl z_p1_bytes))] s.heap.size = A at hD ⊢
  have hA : ∀ q : Nat, s.heap.size ≤ q → A q := fun q h => by rw [← hAe]; exact Or.inr h
  have hS : va_S A s.heap s.heap [] := va_S.rf
  have hl := lv_entry ([.ref h_t, .ref h_p1, .int a_p2]) (n := 10) (Nat.le_of_ble_eq_true rfl)
  rw [lg_entry_eq]
  generalize (lg_sl ([.ref h_t, .ref h_p1, .int a_p2]) ++ List.replicate (10 - (lg_sl ([.ref h_t, .ref h_p1, .int a_p2])).length) Slot.unset).toArray = ls at hl ⊢
  have hl : lv_has ls 10 [(0, .ref h_t), (1, .ref h_p1), (2, .int a_p2)] := hl
  show W p l e rm_OR_locate s m _ below meth c s.heap [] 0 0 _ _
  have hP : va_P (dC, dI) classes [(h_t, .inr (3, [.ref h_sorted, .ref h_ranks, .ref h_alikeBefore, .ref h_piecesUpTo, .ref h_sorter, .ref h_library, .int z_first, .int z_size, .int z_locatedRank, .int z_locatedLength])), (h_sorted, .inl (cI, 16448, .inl z_sorted)), (h_library, .inr (1, [.ref h_library_text, .ref h_library_owners, .ref h_library_starts, .int z_library_documents, .int z_library_indexed])), (h_library_text, .inl (cI, 16448, .inl z_library_text)), (h_p1, .inr (0, [.ref h_p1_bytes, .int z_p1_length])), (h_p1_bytes, .inl (cI, n_p1_bytes, .inl z_p1_bytes))] s.heap := hP
  obtain ⟨H, hHe⟩ : ∃ H, H = s.heap := ⟨_, rfl⟩
  have hS : va_S A s.heap H [] := by rw [hHe]; exact hS
  rw [← hHe] at hP
  suffices hgoal : W p l e rm_OR_locate s m ([.ref h_t, .ref h_p1, .int a_p2] : List Value).toArray below meth c H [] 0 0 (MQ below (va_Qv (fun u : Int32 × Int32 => post u.1 u.2) (fun u t => cAft (dC, dI) classes (TYS cI cJ cB cZ) A [(h_t, .inr (3, [.ref h_sorted, .ref h_ranks, .ref h_alikeBefore, .ref h_piecesUpTo, .ref h_sorter, .ref h_library, .int z_first, .int z_size, .int u.1, .int u.2])), (h_sorted, .inl (cI, 16448, .inl z_sorted)), (h_library, .inr (1, [.ref h_library_text, .ref h_library_owners, .ref h_library_starts, .int z_library_documents, .int z_library_indexed])), (h_library_text, .inl (cI, 16448, .inl z_library_text)), (h_p1, .inr (0, [.ref h_p1_bytes, .int z_p1_length])), (h_p1_bytes, .inl (cI, n_p1_bytes, .inl z_p1_bytes))] t) A) ([.ref h_t, .ref h_p1, .int a_p2] : List Value).toArray s 0 0 A) (F0 m 0 ls []) by rw [hHe] at hgoal; exact hgoal
  refine lv_aload_n hx hb d_OR_locate_0 rfl (lv_at hl 0 rfl) ?_
  refine va_get (D := (dC, dI)) (ci := 3) (v := .int z_first) (C := "SuffixIndex$SuffixOrder") (T := F_OR) (N := 10) hx hb hw i_OR hown hK hP 0 rfl rfl 6 (by decide) (hw _ m_133) (fun _ h9 => h9) rfl d_OR_locate_1 ?_
  refine lv_istore_n (lv' := [(3, .int z_first), (0, .ref h_t), (1, .ref h_p1), (2, .int a_p2)]) hx hb d_OR_locate_4 rfl hl (by decide) rfl (fun ls hl => ?_)
  refine lv_aload_n hx hb d_OR_locate_5 rfl (lv_at hl 1 rfl) ?_
  refine va_get (D := (dC, dI)) (ci := 3) (v := .int z_size) (C := "SuffixIndex$SuffixOrder") (T := F_OR) (N := 10) hx hb hw i_OR hown hK hP 0 rfl rfl 7 (by decide) (hw _ m_137) (fun _ h9 => h9) rfl d_OR_locate_6 ?_
  refine lv_istore (lv' := [(4, .int z_size), (3, .int z_first), (0, .ref h_t), (1, .ref h_p1), (2, .int a_p2)]) hx hb d_OR_locate_9 hl (by decide) rfl (fun ls hl => ?_)
  refine lv_iconst (v := 0) hx hb d_OR_locate_11 (by decide) ?_
  refine lv_istore (lv' := [(5, .int 0), (4, .int z_size), (3, .int z_first), (0, .ref h_t), (1, .ref h_p1), (2, .int a_p2)]) hx hb d_OR_locate_12 hl (by decide) rfl (fun ls hl => ?_)
  refine lv_iconst (v := 0) hx hb d_OR_locate_14 (by decide) ?_
  refine lv_istore (lv' := [(6, .int 0), (5, .int 0), (4, .int z_size), (3, .int z_first), (0, .ref h_t), (1, .ref h_p1), (2, .int a_p2)]) hx hb d_OR_locate_15 hl (by decide) rfl (fun ls hl => ?_)
  obtain ⟨j, hv⟩ := hv
  exact wk_OR_locate_17 F hr hlk hK hA j z_first z_size 0 0 z_locatedRank z_locatedLength hv _ _ _ hP hD hS (lv_sub hl [4, 5, 6, 3, 2, 1, 0] rfl)

