theorem dX0_init_0 : decode cX0_init 0 = .ok (.aload_n 0, 1) := by decide +kernel
theorem dX0_init_1 : decode cX0_init 1 = .ok (.invokespecial 1, 3) := by decide +kernel
theorem dX0_init_4 : decode cX0_init 4 = .ok (.aload_n 0, 1) := by decide +kernel
theorem dX0_init_5 : decode cX0_init 5 = .ok (.iload_n 1, 1) := by decide +kernel
theorem dX0_init_6 : decode cX0_init 6 = .ok (.putfield 7, 3) := by decide +kernel
theorem dX0_init_9 : decode cX0_init 9 = .ok (.aload_n 0, 1) := by decide +kernel
theorem dX0_init_10 : decode cX0_init 10 = .ok (.iload_n 2, 1) := by decide +kernel
theorem dX0_init_11 : decode cX0_init 11 = .ok (.putfield 13, 3) := by decide +kernel
theorem dX0_init_14 : decode cX0_init 14 = .ok (.aload_n 0, 1) := by decide +kernel
theorem dX0_init_15 : decode cX0_init 15 = .ok (.iload_n 3, 1) := by decide +kernel
theorem dX0_init_16 : decode cX0_init 16 = .ok (.putfield 16, 3) := by decide +kernel
theorem dX0_init_19 : decode cX0_init 19 = .ok (.aload_n 0, 1) := by decide +kernel
theorem dX0_init_20 : decode cX0_init 20 = .ok (.lload 4, 2) := by decide +kernel
theorem dX0_init_22 : decode cX0_init 22 = .ok (.putfield 19, 3) := by decide +kernel
theorem dX0_init_25 : decode cX0_init 25 = .ok (.aload_n 0, 1) := by decide +kernel
theorem dX0_init_26 : decode cX0_init 26 = .ok (.aload 6, 2) := by decide +kernel
theorem dX0_init_28 : decode cX0_init 28 = .ok (.putfield 23, 3) := by decide +kernel
theorem dX0_init_31 : decode cX0_init 31 = .ok (.return_, 1) := by decide +kernel
theorem dX1_init_0 : decode cX1_init 0 = .ok (.aload_n 0, 1) := by decide +kernel
theorem dX1_init_1 : decode cX1_init 1 = .ok (.invokespecial 3, 3) := by decide +kernel
theorem dX1_init_4 : decode cX1_init 4 = .ok (.aload_n 0, 1) := by decide +kernel
theorem dX1_init_5 : decode cX1_init 5 = .ok (.bipush 100, 2) := by decide +kernel
theorem dX1_init_7 : decode cX1_init 7 = .ok (.anewarray 9, 3) := by decide +kernel
theorem dX1_init_10 : decode cX1_init 10 = .ok (.putfield 11, 3) := by decide +kernel
theorem dX1_init_13 : decode cX1_init 13 = .ok (.return_, 1) := by decide +kernel
theorem dX1_keep_0 : decode cX1_keep 0 = .ok (.aload_n 0, 1) := by decide +kernel
theorem dX1_keep_1 : decode cX1_keep 1 = .ok (.getfield 11, 3) := by decide +kernel
theorem dX1_keep_4 : decode cX1_keep 4 = .ok (.aload_n 0, 1) := by decide +kernel
theorem dX1_keep_5 : decode cX1_keep 5 = .ok (.getfield 17, 3) := by decide +kernel
theorem dX1_keep_8 : decode cX1_keep 8 = .ok (.aload_n 1, 1) := by decide +kernel
theorem dX1_keep_9 : decode cX1_keep 9 = .ok (.aastore, 1) := by decide +kernel
theorem dX1_keep_10 : decode cX1_keep 10 = .ok (.aload_n 0, 1) := by decide +kernel
theorem dX1_keep_11 : decode cX1_keep 11 = .ok (.aload_n 0, 1) := by decide +kernel
theorem dX1_keep_12 : decode cX1_keep 12 = .ok (.getfield 17, 3) := by decide +kernel
theorem dX1_keep_15 : decode cX1_keep 15 = .ok (.iconst 1, 1) := by decide +kernel
theorem dX1_keep_16 : decode cX1_keep 16 = .ok (.iadd, 1) := by decide +kernel
theorem dX1_keep_17 : decode cX1_keep 17 = .ok (.bipush 100, 2) := by decide +kernel
theorem dX1_keep_19 : decode cX1_keep 19 = .ok (.if_icmp .ge 12, 3) := by decide +kernel
theorem dX1_keep_22 : decode cX1_keep 22 = .ok (.aload_n 0, 1) := by decide +kernel
theorem dX1_keep_23 : decode cX1_keep 23 = .ok (.getfield 17, 3) := by decide +kernel
theorem dX1_keep_26 : decode cX1_keep 26 = .ok (.iconst 1, 1) := by decide +kernel
theorem dX1_keep_27 : decode cX1_keep 27 = .ok (.iadd, 1) := by decide +kernel
theorem dX1_keep_28 : decode cX1_keep 28 = .ok (.goto 4, 3) := by decide +kernel
theorem dX1_keep_31 : decode cX1_keep 31 = .ok (.iconst 0, 1) := by decide +kernel
theorem dX1_keep_32 : decode cX1_keep 32 = .ok (.putfield 17, 3) := by decide +kernel
theorem dX1_keep_35 : decode cX1_keep 35 = .ok (.aload_n 0, 1) := by decide +kernel
theorem dX1_keep_36 : decode cX1_keep 36 = .ok (.aload_n 0, 1) := by decide +kernel
theorem dX1_keep_37 : decode cX1_keep 37 = .ok (.getfield 21, 3) := by decide +kernel
theorem dX1_keep_40 : decode cX1_keep 40 = .ok (.iconst 1, 1) := by decide +kernel
theorem dX1_keep_41 : decode cX1_keep 41 = .ok (.iadd, 1) := by decide +kernel
theorem dX1_keep_42 : decode cX1_keep 42 = .ok (.bipush 100, 2) := by decide +kernel
theorem dX1_keep_44 : decode cX1_keep 44 = .ok (.invokestatic 24, 3) := by decide +kernel
theorem dX1_keep_47 : decode cX1_keep 47 = .ok (.putfield 21, 3) := by decide +kernel
theorem dX1_keep_50 : decode cX1_keep 50 = .ok (.return_, 1) := by decide +kernel
theorem dX1_takeLatest_0 : decode cX1_takeLatest 0 = .ok (.aload_n 0, 1) := by decide +kernel
theorem dX1_takeLatest_1 : decode cX1_takeLatest 1 = .ok (.getfield 21, 3) := by decide +kernel
theorem dX1_takeLatest_4 : decode cX1_takeLatest 4 = .ok (.ifCond .gt 5, 3) := by decide +kernel
theorem dX1_takeLatest_7 : decode cX1_takeLatest 7 = .ok (.aconst_null, 1) := by decide +kernel
theorem dX1_takeLatest_8 : decode cX1_takeLatest 8 = .ok (.areturn, 1) := by decide +kernel
theorem dX1_takeLatest_9 : decode cX1_takeLatest 9 = .ok (.aload_n 0, 1) := by decide +kernel
theorem dX1_takeLatest_10 : decode cX1_takeLatest 10 = .ok (.dup, 1) := by decide +kernel
theorem dX1_takeLatest_11 : decode cX1_takeLatest 11 = .ok (.getfield 21, 3) := by decide +kernel
theorem dX1_takeLatest_14 : decode cX1_takeLatest 14 = .ok (.iconst 1, 1) := by decide +kernel
theorem dX1_takeLatest_15 : decode cX1_takeLatest 15 = .ok (.isub, 1) := by decide +kernel
theorem dX1_takeLatest_16 : decode cX1_takeLatest 16 = .ok (.putfield 21, 3) := by decide +kernel
theorem dX1_takeLatest_19 : decode cX1_takeLatest 19 = .ok (.aload_n 0, 1) := by decide +kernel
theorem dX1_takeLatest_20 : decode cX1_takeLatest 20 = .ok (.aload_n 0, 1) := by decide +kernel
theorem dX1_takeLatest_21 : decode cX1_takeLatest 21 = .ok (.getfield 17, 3) := by decide +kernel
theorem dX1_takeLatest_24 : decode cX1_takeLatest 24 = .ok (.ifCond .le 12, 3) := by decide +kernel
theorem dX1_takeLatest_27 : decode cX1_takeLatest 27 = .ok (.aload_n 0, 1) := by decide +kernel
theorem dX1_takeLatest_28 : decode cX1_takeLatest 28 = .ok (.getfield 17, 3) := by decide +kernel
theorem dX1_takeLatest_31 : decode cX1_takeLatest 31 = .ok (.iconst 1, 1) := by decide +kernel
theorem dX1_takeLatest_32 : decode cX1_takeLatest 32 = .ok (.isub, 1) := by decide +kernel
theorem dX1_takeLatest_33 : decode cX1_takeLatest 33 = .ok (.goto 5, 3) := by decide +kernel
theorem dX1_takeLatest_36 : decode cX1_takeLatest 36 = .ok (.bipush 99, 2) := by decide +kernel
theorem dX1_takeLatest_38 : decode cX1_takeLatest 38 = .ok (.putfield 17, 3) := by decide +kernel
theorem dX1_takeLatest_41 : decode cX1_takeLatest 41 = .ok (.aload_n 0, 1) := by decide +kernel
theorem dX1_takeLatest_42 : decode cX1_takeLatest 42 = .ok (.getfield 11, 3) := by decide +kernel
theorem dX1_takeLatest_45 : decode cX1_takeLatest 45 = .ok (.aload_n 0, 1) := by decide +kernel
theorem dX1_takeLatest_46 : decode cX1_takeLatest 46 = .ok (.getfield 17, 3) := by decide +kernel
theorem dX1_takeLatest_49 : decode cX1_takeLatest 49 = .ok (.aaload, 1) := by decide +kernel
theorem dX1_takeLatest_50 : decode cX1_takeLatest 50 = .ok (.areturn, 1) := by decide +kernel
theorem dX2_init_0 : decode cX2_init 0 = .ok (.aload_n 0, 1) := by decide +kernel
theorem dX2_init_1 : decode cX2_init 1 = .ok (.invokespecial 3, 3) := by decide +kernel
theorem dX2_init_4 : decode cX2_init 4 = .ok (.aload_n 0, 1) := by decide +kernel
theorem dX2_init_5 : decode cX2_init 5 = .ok (.bipush 6, 2) := by decide +kernel
theorem dX2_init_7 : decode cX2_init 7 = .ok (.newarray .int, 2) := by decide +kernel
theorem dX2_init_9 : decode cX2_init 9 = .ok (.putfield 9, 3) := by decide +kernel
theorem dX2_init_12 : decode cX2_init 12 = .ok (.aload_n 0, 1) := by decide +kernel
theorem dX2_init_13 : decode cX2_init 13 = .ok (.bipush 16, 2) := by decide +kernel
theorem dX2_init_15 : decode cX2_init 15 = .ok (.newarray .long, 2) := by decide +kernel
theorem dX2_init_17 : decode cX2_init 17 = .ok (.putfield 15, 3) := by decide +kernel
theorem dX2_init_20 : decode cX2_init 20 = .ok (.return_, 1) := by decide +kernel
theorem dX2_takeRow_0 : decode cX2_takeRow 0 = .ok (.aload_n 1, 1) := by decide +kernel
theorem dX2_takeRow_1 : decode cX2_takeRow 1 = .ok (.iconst 0, 1) := by decide +kernel
theorem dX2_takeRow_2 : decode cX2_takeRow 2 = .ok (.aload_n 0, 1) := by decide +kernel
theorem dX2_takeRow_3 : decode cX2_takeRow 3 = .ok (.getfield 9, 3) := by decide +kernel
theorem dX2_takeRow_6 : decode cX2_takeRow 6 = .ok (.iconst 0, 1) := by decide +kernel
theorem dX2_takeRow_7 : decode cX2_takeRow 7 = .ok (.bipush 6, 2) := by decide +kernel
theorem dX2_takeRow_9 : decode cX2_takeRow 9 = .ok (.invokestatic 19, 3) := by decide +kernel
theorem dX2_takeRow_12 : decode cX2_takeRow 12 = .ok (.return_, 1) := by decide +kernel
theorem dX2_takeRest_0 : decode cX2_takeRest 0 = .ok (.aload_n 1, 1) := by decide +kernel
theorem dX2_takeRest_1 : decode cX2_takeRest 1 = .ok (.getfield 15, 3) := by decide +kernel
theorem dX2_takeRest_4 : decode cX2_takeRest 4 = .ok (.iconst 0, 1) := by decide +kernel
theorem dX2_takeRest_5 : decode cX2_takeRest 5 = .ok (.aload_n 0, 1) := by decide +kernel
theorem dX2_takeRest_6 : decode cX2_takeRest 6 = .ok (.getfield 15, 3) := by decide +kernel
theorem dX2_takeRest_9 : decode cX2_takeRest 9 = .ok (.iconst 0, 1) := by decide +kernel
theorem dX2_takeRest_10 : decode cX2_takeRest 10 = .ok (.aload_n 1, 1) := by decide +kernel
theorem dX2_takeRest_11 : decode cX2_takeRest 11 = .ok (.getfield 25, 3) := by decide +kernel
theorem dX2_takeRest_14 : decode cX2_takeRest 14 = .ok (.invokestatic 19, 3) := by decide +kernel
theorem dX2_takeRest_17 : decode cX2_takeRest 17 = .ok (.aload_n 0, 1) := by decide +kernel
theorem dX2_takeRest_18 : decode cX2_takeRest 18 = .ok (.aload_n 1, 1) := by decide +kernel
theorem dX2_takeRest_19 : decode cX2_takeRest 19 = .ok (.getfield 25, 3) := by decide +kernel
theorem dX2_takeRest_22 : decode cX2_takeRest 22 = .ok (.putfield 25, 3) := by decide +kernel
theorem dX2_takeRest_25 : decode cX2_takeRest 25 = .ok (.aload_n 0, 1) := by decide +kernel
theorem dX2_takeRest_26 : decode cX2_takeRest 26 = .ok (.aload_n 1, 1) := by decide +kernel
theorem dX2_takeRest_27 : decode cX2_takeRest 27 = .ok (.getfield 29, 3) := by decide +kernel
theorem dX2_takeRest_30 : decode cX2_takeRest 30 = .ok (.putfield 29, 3) := by decide +kernel
theorem dX2_takeRest_33 : decode cX2_takeRest 33 = .ok (.aload_n 0, 1) := by decide +kernel
theorem dX2_takeRest_34 : decode cX2_takeRest 34 = .ok (.aload_n 1, 1) := by decide +kernel
theorem dX2_takeRest_35 : decode cX2_takeRest 35 = .ok (.getfield 33, 3) := by decide +kernel
theorem dX2_takeRest_38 : decode cX2_takeRest 38 = .ok (.putfield 33, 3) := by decide +kernel
theorem dX2_takeRest_41 : decode cX2_takeRest 41 = .ok (.aload_n 0, 1) := by decide +kernel
theorem dX2_takeRest_42 : decode cX2_takeRest 42 = .ok (.aload_n 1, 1) := by decide +kernel
theorem dX2_takeRest_43 : decode cX2_takeRest 43 = .ok (.getfield 36, 3) := by decide +kernel
theorem dX2_takeRest_46 : decode cX2_takeRest 46 = .ok (.putfield 36, 3) := by decide +kernel
theorem dX2_takeRest_49 : decode cX2_takeRest 49 = .ok (.return_, 1) := by decide +kernel
theorem dX2_takeFact_0 : decode cX2_takeFact 0 = .ok (.iconst 0, 1) := by decide +kernel
theorem dX2_takeFact_1 : decode cX2_takeFact 1 = .ok (.istore_n 3, 1) := by decide +kernel
theorem dX2_takeFact_2 : decode cX2_takeFact 2 = .ok (.iload_n 3, 1) := by decide +kernel
theorem dX2_takeFact_3 : decode cX2_takeFact 3 = .ok (.iconst 4, 1) := by decide +kernel
theorem dX2_takeFact_4 : decode cX2_takeFact 4 = .ok (.if_icmp .ge 21, 3) := by decide +kernel
theorem dX2_takeFact_7 : decode cX2_takeFact 7 = .ok (.aload_n 0, 1) := by decide +kernel
theorem dX2_takeFact_8 : decode cX2_takeFact 8 = .ok (.getfield 9, 3) := by decide +kernel
theorem dX2_takeFact_11 : decode cX2_takeFact 11 = .ok (.iload_n 3, 1) := by decide +kernel
theorem dX2_takeFact_12 : decode cX2_takeFact 12 = .ok (.aload_n 1, 1) := by decide +kernel
theorem dX2_takeFact_13 : decode cX2_takeFact 13 = .ok (.iload_n 2, 1) := by decide +kernel
theorem dX2_takeFact_14 : decode cX2_takeFact 14 = .ok (.iload_n 3, 1) := by decide +kernel
theorem dX2_takeFact_15 : decode cX2_takeFact 15 = .ok (.invokevirtual 39, 3) := by decide +kernel
theorem dX2_takeFact_18 : decode cX2_takeFact 18 = .ok (.iastore, 1) := by decide +kernel
theorem dX2_takeFact_19 : decode cX2_takeFact 19 = .ok (.iinc 3 1, 3) := by decide +kernel
theorem dX2_takeFact_22 : decode cX2_takeFact 22 = .ok (.goto (-20), 3) := by decide +kernel
theorem dX2_takeFact_25 : decode cX2_takeFact 25 = .ok (.aload_n 0, 1) := by decide +kernel
theorem dX2_takeFact_26 : decode cX2_takeFact 26 = .ok (.getfield 15, 3) := by decide +kernel
theorem dX2_takeFact_29 : decode cX2_takeFact 29 = .ok (.iconst 0, 1) := by decide +kernel
theorem dX2_takeFact_30 : decode cX2_takeFact 30 = .ok (.lconst 1, 1) := by decide +kernel
theorem dX2_takeFact_31 : decode cX2_takeFact 31 = .ok (.iload_n 2, 1) := by decide +kernel
theorem dX2_takeFact_32 : decode cX2_takeFact 32 = .ok (.lshl, 1) := by decide +kernel
theorem dX2_takeFact_33 : decode cX2_takeFact 33 = .ok (.lastore, 1) := by decide +kernel
theorem dX2_takeFact_34 : decode cX2_takeFact 34 = .ok (.aload_n 0, 1) := by decide +kernel
theorem dX2_takeFact_35 : decode cX2_takeFact 35 = .ok (.iconst 1, 1) := by decide +kernel
theorem dX2_takeFact_36 : decode cX2_takeFact 36 = .ok (.putfield 25, 3) := by decide +kernel
theorem dX2_takeFact_39 : decode cX2_takeFact 39 = .ok (.aload_n 0, 1) := by decide +kernel
theorem dX2_takeFact_40 : decode cX2_takeFact 40 = .ok (.aload_n 1, 1) := by decide +kernel
theorem dX2_takeFact_41 : decode cX2_takeFact 41 = .ok (.iload_n 2, 1) := by decide +kernel
theorem dX2_takeFact_42 : decode cX2_takeFact 42 = .ok (.iconst 0, 1) := by decide +kernel
theorem dX2_takeFact_43 : decode cX2_takeFact 43 = .ok (.invokevirtual 45, 3) := by decide +kernel
theorem dX2_takeFact_46 : decode cX2_takeFact 46 = .ok (.putfield 29, 3) := by decide +kernel
theorem dX2_takeFact_49 : decode cX2_takeFact 49 = .ok (.aload_n 0, 1) := by decide +kernel
theorem dX2_takeFact_50 : decode cX2_takeFact 50 = .ok (.aload_n 1, 1) := by decide +kernel
theorem dX2_takeFact_51 : decode cX2_takeFact 51 = .ok (.iload_n 2, 1) := by decide +kernel
theorem dX2_takeFact_52 : decode cX2_takeFact 52 = .ok (.iconst 1, 1) := by decide +kernel
theorem dX2_takeFact_53 : decode cX2_takeFact 53 = .ok (.invokevirtual 45, 3) := by decide +kernel
theorem dX2_takeFact_56 : decode cX2_takeFact 56 = .ok (.l2i, 1) := by decide +kernel
theorem dX2_takeFact_57 : decode cX2_takeFact 57 = .ok (.putfield 33, 3) := by decide +kernel
theorem dX2_takeFact_60 : decode cX2_takeFact 60 = .ok (.aload_n 0, 1) := by decide +kernel
theorem dX2_takeFact_61 : decode cX2_takeFact 61 = .ok (.aload_n 1, 1) := by decide +kernel
theorem dX2_takeFact_62 : decode cX2_takeFact 62 = .ok (.iload_n 2, 1) := by decide +kernel
theorem dX2_takeFact_63 : decode cX2_takeFact 63 = .ok (.iconst 2, 1) := by decide +kernel
theorem dX2_takeFact_64 : decode cX2_takeFact 64 = .ok (.invokevirtual 45, 3) := by decide +kernel
theorem dX2_takeFact_67 : decode cX2_takeFact 67 = .ok (.putfield 36, 3) := by decide +kernel
theorem dX2_takeFact_70 : decode cX2_takeFact 70 = .ok (.return_, 1) := by decide +kernel
theorem dX2_rowOf_0 : decode cX2_rowOf 0 = .ok (.iload_n 1, 1) := by decide +kernel
theorem dX2_rowOf_1 : decode cX2_rowOf 1 = .ok (.newarray .long, 2) := by decide +kernel
theorem dX2_rowOf_3 : decode cX2_rowOf 3 = .ok (.astore_n 2, 1) := by decide +kernel
theorem dX2_rowOf_4 : decode cX2_rowOf 4 = .ok (.iconst 0, 1) := by decide +kernel
theorem dX2_rowOf_5 : decode cX2_rowOf 5 = .ok (.istore_n 3, 1) := by decide +kernel
theorem dX2_rowOf_6 : decode cX2_rowOf 6 = .ok (.iload_n 3, 1) := by decide +kernel
theorem dX2_rowOf_7 : decode cX2_rowOf 7 = .ok (.iload_n 1, 1) := by decide +kernel
theorem dX2_rowOf_8 : decode cX2_rowOf 8 = .ok (.if_icmp .ge 19, 3) := by decide +kernel
theorem dX2_rowOf_11 : decode cX2_rowOf 11 = .ok (.aload_n 2, 1) := by decide +kernel
theorem dX2_rowOf_12 : decode cX2_rowOf 12 = .ok (.iload_n 3, 1) := by decide +kernel
theorem dX2_rowOf_13 : decode cX2_rowOf 13 = .ok (.aload_n 0, 1) := by decide +kernel
theorem dX2_rowOf_14 : decode cX2_rowOf 14 = .ok (.getfield 9, 3) := by decide +kernel
theorem dX2_rowOf_17 : decode cX2_rowOf 17 = .ok (.iload_n 3, 1) := by decide +kernel
theorem dX2_rowOf_18 : decode cX2_rowOf 18 = .ok (.iaload, 1) := by decide +kernel
theorem dX2_rowOf_19 : decode cX2_rowOf 19 = .ok (.i2l, 1) := by decide +kernel
theorem dX2_rowOf_20 : decode cX2_rowOf 20 = .ok (.lastore, 1) := by decide +kernel
theorem dX2_rowOf_21 : decode cX2_rowOf 21 = .ok (.iinc 3 1, 3) := by decide +kernel
theorem dX2_rowOf_24 : decode cX2_rowOf 24 = .ok (.goto (-18), 3) := by decide +kernel
theorem dX2_rowOf_27 : decode cX2_rowOf 27 = .ok (.aload_n 2, 1) := by decide +kernel
theorem dX2_rowOf_28 : decode cX2_rowOf 28 = .ok (.areturn, 1) := by decide +kernel
theorem dX2_stands_0 : decode cX2_stands 0 = .ok (.iconst 0, 1) := by decide +kernel
theorem dX2_stands_1 : decode cX2_stands 1 = .ok (.istore_n 3, 1) := by decide +kernel
theorem dX2_stands_2 : decode cX2_stands 2 = .ok (.iload_n 3, 1) := by decide +kernel
theorem dX2_stands_3 : decode cX2_stands 3 = .ok (.aload_n 0, 1) := by decide +kernel
theorem dX2_stands_4 : decode cX2_stands 4 = .ok (.getfield 25, 3) := by decide +kernel
theorem dX2_stands_7 : decode cX2_stands 7 = .ok (.if_icmp .ge 28, 3) := by decide +kernel
theorem dX2_stands_10 : decode cX2_stands 10 = .ok (.aload_n 0, 1) := by decide +kernel
theorem dX2_stands_11 : decode cX2_stands 11 = .ok (.getfield 15, 3) := by decide +kernel
theorem dX2_stands_14 : decode cX2_stands 14 = .ok (.iload_n 3, 1) := by decide +kernel
theorem dX2_stands_15 : decode cX2_stands 15 = .ok (.laload, 1) := by decide +kernel
theorem dX2_stands_16 : decode cX2_stands 16 = .ok (.lload_n 1, 1) := by decide +kernel
theorem dX2_stands_17 : decode cX2_stands 17 = .ok (.ldc2_w 49, 3) := by decide +kernel
theorem dX2_stands_20 : decode cX2_stands 20 = .ok (.lxor, 1) := by decide +kernel
theorem dX2_stands_21 : decode cX2_stands 21 = .ok (.land, 1) := by decide +kernel
theorem dX2_stands_22 : decode cX2_stands 22 = .ok (.lconst 0, 1) := by decide +kernel
theorem dX2_stands_23 : decode cX2_stands 23 = .ok (.lcmp, 1) := by decide +kernel
theorem dX2_stands_24 : decode cX2_stands 24 = .ok (.ifCond .ne 5, 3) := by decide +kernel
theorem dX2_stands_27 : decode cX2_stands 27 = .ok (.iconst 1, 1) := by decide +kernel
theorem dX2_stands_28 : decode cX2_stands 28 = .ok (.ireturn, 1) := by decide +kernel
theorem dX2_stands_29 : decode cX2_stands 29 = .ok (.iinc 3 1, 3) := by decide +kernel
theorem dX2_stands_32 : decode cX2_stands 32 = .ok (.goto (-30), 3) := by decide +kernel
theorem dX2_stands_35 : decode cX2_stands 35 = .ok (.iconst 0, 1) := by decide +kernel
theorem dX2_stands_36 : decode cX2_stands 36 = .ok (.ireturn, 1) := by decide +kernel
theorem dX2_inEveryWay_0 : decode cX2_inEveryWay 0 = .ok (.ldc2_w 49, 3) := by decide +kernel
theorem dX2_inEveryWay_3 : decode cX2_inEveryWay 3 = .ok (.lstore_n 1, 1) := by decide +kernel
theorem dX2_inEveryWay_4 : decode cX2_inEveryWay 4 = .ok (.iconst 0, 1) := by decide +kernel
theorem dX2_inEveryWay_5 : decode cX2_inEveryWay 5 = .ok (.istore_n 3, 1) := by decide +kernel
theorem dX2_inEveryWay_6 : decode cX2_inEveryWay 6 = .ok (.iload_n 3, 1) := by decide +kernel
theorem dX2_inEveryWay_7 : decode cX2_inEveryWay 7 = .ok (.aload_n 0, 1) := by decide +kernel
theorem dX2_inEveryWay_8 : decode cX2_inEveryWay 8 = .ok (.getfield 25, 3) := by decide +kernel
theorem dX2_inEveryWay_11 : decode cX2_inEveryWay 11 = .ok (.if_icmp .ge 18, 3) := by decide +kernel
theorem dX2_inEveryWay_14 : decode cX2_inEveryWay 14 = .ok (.lload_n 1, 1) := by decide +kernel
theorem dX2_inEveryWay_15 : decode cX2_inEveryWay 15 = .ok (.aload_n 0, 1) := by decide +kernel
theorem dX2_inEveryWay_16 : decode cX2_inEveryWay 16 = .ok (.getfield 15, 3) := by decide +kernel
theorem dX2_inEveryWay_19 : decode cX2_inEveryWay 19 = .ok (.iload_n 3, 1) := by decide +kernel
theorem dX2_inEveryWay_20 : decode cX2_inEveryWay 20 = .ok (.laload, 1) := by decide +kernel
theorem dX2_inEveryWay_21 : decode cX2_inEveryWay 21 = .ok (.land, 1) := by decide +kernel
theorem dX2_inEveryWay_22 : decode cX2_inEveryWay 22 = .ok (.lstore_n 1, 1) := by decide +kernel
theorem dX2_inEveryWay_23 : decode cX2_inEveryWay 23 = .ok (.iinc 3 1, 3) := by decide +kernel
theorem dX2_inEveryWay_26 : decode cX2_inEveryWay 26 = .ok (.goto (-20), 3) := by decide +kernel
theorem dX2_inEveryWay_29 : decode cX2_inEveryWay 29 = .ok (.lload_n 1, 1) := by decide +kernel
theorem dX2_inEveryWay_30 : decode cX2_inEveryWay 30 = .ok (.lreturn, 1) := by decide +kernel
theorem dX2_inAnyWay_0 : decode cX2_inAnyWay 0 = .ok (.lconst 0, 1) := by decide +kernel
theorem dX2_inAnyWay_1 : decode cX2_inAnyWay 1 = .ok (.lstore_n 1, 1) := by decide +kernel
theorem dX2_inAnyWay_2 : decode cX2_inAnyWay 2 = .ok (.iconst 0, 1) := by decide +kernel
theorem dX2_inAnyWay_3 : decode cX2_inAnyWay 3 = .ok (.istore_n 3, 1) := by decide +kernel
theorem dX2_inAnyWay_4 : decode cX2_inAnyWay 4 = .ok (.iload_n 3, 1) := by decide +kernel
theorem dX2_inAnyWay_5 : decode cX2_inAnyWay 5 = .ok (.aload_n 0, 1) := by decide +kernel
theorem dX2_inAnyWay_6 : decode cX2_inAnyWay 6 = .ok (.getfield 25, 3) := by decide +kernel
theorem dX2_inAnyWay_9 : decode cX2_inAnyWay 9 = .ok (.if_icmp .ge 18, 3) := by decide +kernel
theorem dX2_inAnyWay_12 : decode cX2_inAnyWay 12 = .ok (.lload_n 1, 1) := by decide +kernel
theorem dX2_inAnyWay_13 : decode cX2_inAnyWay 13 = .ok (.aload_n 0, 1) := by decide +kernel
theorem dX2_inAnyWay_14 : decode cX2_inAnyWay 14 = .ok (.getfield 15, 3) := by decide +kernel
theorem dX2_inAnyWay_17 : decode cX2_inAnyWay 17 = .ok (.iload_n 3, 1) := by decide +kernel
theorem dX2_inAnyWay_18 : decode cX2_inAnyWay 18 = .ok (.laload, 1) := by decide +kernel
theorem dX2_inAnyWay_19 : decode cX2_inAnyWay 19 = .ok (.lor, 1) := by decide +kernel
theorem dX2_inAnyWay_20 : decode cX2_inAnyWay 20 = .ok (.lstore_n 1, 1) := by decide +kernel
theorem dX2_inAnyWay_21 : decode cX2_inAnyWay 21 = .ok (.iinc 3 1, 3) := by decide +kernel
theorem dX2_inAnyWay_24 : decode cX2_inAnyWay 24 = .ok (.goto (-20), 3) := by decide +kernel
theorem dX2_inAnyWay_27 : decode cX2_inAnyWay 27 = .ok (.lload_n 1, 1) := by decide +kernel
theorem dX2_inAnyWay_28 : decode cX2_inAnyWay 28 = .ok (.lreturn, 1) := by decide +kernel
theorem dX2_hasWaysOf_0 : decode cX2_hasWaysOf 0 = .ok (.aload_n 0, 1) := by decide +kernel
theorem dX2_hasWaysOf_1 : decode cX2_hasWaysOf 1 = .ok (.getfield 25, 3) := by decide +kernel
theorem dX2_hasWaysOf_4 : decode cX2_hasWaysOf 4 = .ok (.aload_n 1, 1) := by decide +kernel
theorem dX2_hasWaysOf_5 : decode cX2_hasWaysOf 5 = .ok (.getfield 25, 3) := by decide +kernel
theorem dX2_hasWaysOf_8 : decode cX2_hasWaysOf 8 = .ok (.if_icmp .eq 5, 3) := by decide +kernel
theorem dX2_hasWaysOf_11 : decode cX2_hasWaysOf 11 = .ok (.iconst 0, 1) := by decide +kernel
theorem dX2_hasWaysOf_12 : decode cX2_hasWaysOf 12 = .ok (.ireturn, 1) := by decide +kernel
theorem dX2_hasWaysOf_13 : decode cX2_hasWaysOf 13 = .ok (.iconst 0, 1) := by decide +kernel
theorem dX2_hasWaysOf_14 : decode cX2_hasWaysOf 14 = .ok (.istore_n 2, 1) := by decide +kernel
theorem dX2_hasWaysOf_15 : decode cX2_hasWaysOf 15 = .ok (.iload_n 2, 1) := by decide +kernel
theorem dX2_hasWaysOf_16 : decode cX2_hasWaysOf 16 = .ok (.aload_n 0, 1) := by decide +kernel
theorem dX2_hasWaysOf_17 : decode cX2_hasWaysOf 17 = .ok (.getfield 25, 3) := by decide +kernel
theorem dX2_hasWaysOf_20 : decode cX2_hasWaysOf 20 = .ok (.if_icmp .ge 27, 3) := by decide +kernel
theorem dX2_hasWaysOf_23 : decode cX2_hasWaysOf 23 = .ok (.aload_n 0, 1) := by decide +kernel
theorem dX2_hasWaysOf_24 : decode cX2_hasWaysOf 24 = .ok (.getfield 15, 3) := by decide +kernel
theorem dX2_hasWaysOf_27 : decode cX2_hasWaysOf 27 = .ok (.iload_n 2, 1) := by decide +kernel
theorem dX2_hasWaysOf_28 : decode cX2_hasWaysOf 28 = .ok (.laload, 1) := by decide +kernel
theorem dX2_hasWaysOf_29 : decode cX2_hasWaysOf 29 = .ok (.aload_n 1, 1) := by decide +kernel
theorem dX2_hasWaysOf_30 : decode cX2_hasWaysOf 30 = .ok (.getfield 15, 3) := by decide +kernel
theorem dX2_hasWaysOf_33 : decode cX2_hasWaysOf 33 = .ok (.iload_n 2, 1) := by decide +kernel
theorem dX2_hasWaysOf_34 : decode cX2_hasWaysOf 34 = .ok (.laload, 1) := by decide +kernel
theorem dX2_hasWaysOf_35 : decode cX2_hasWaysOf 35 = .ok (.lcmp, 1) := by decide +kernel
theorem dX2_hasWaysOf_36 : decode cX2_hasWaysOf 36 = .ok (.ifCond .eq 5, 3) := by decide +kernel
theorem dX2_hasWaysOf_39 : decode cX2_hasWaysOf 39 = .ok (.iconst 0, 1) := by decide +kernel
theorem dX2_hasWaysOf_40 : decode cX2_hasWaysOf 40 = .ok (.ireturn, 1) := by decide +kernel
theorem dX2_hasWaysOf_41 : decode cX2_hasWaysOf 41 = .ok (.iinc 2 1, 3) := by decide +kernel
theorem dX2_hasWaysOf_44 : decode cX2_hasWaysOf 44 = .ok (.goto (-29), 3) := by decide +kernel
theorem dX2_hasWaysOf_47 : decode cX2_hasWaysOf 47 = .ok (.iconst 1, 1) := by decide +kernel
theorem dX2_hasWaysOf_48 : decode cX2_hasWaysOf 48 = .ok (.ireturn, 1) := by decide +kernel
theorem dX3_init_0 : decode cX3_init 0 = .ok (.aload_n 0, 1) := by decide +kernel
theorem dX3_init_1 : decode cX3_init 1 = .ok (.invokespecial 3, 3) := by decide +kernel
theorem dX3_init_4 : decode cX3_init 4 = .ok (.aload_n 0, 1) := by decide +kernel
theorem dX3_init_5 : decode cX3_init 5 = .ok (.iload_n 1, 1) := by decide +kernel
theorem dX3_init_6 : decode cX3_init 6 = .ok (.anewarray 9, 3) := by decide +kernel
theorem dX3_init_9 : decode cX3_init 9 = .ok (.putfield 11, 3) := by decide +kernel
theorem dX3_init_12 : decode cX3_init 12 = .ok (.iconst 0, 1) := by decide +kernel
theorem dX3_init_13 : decode cX3_init 13 = .ok (.istore_n 2, 1) := by decide +kernel
theorem dX3_init_14 : decode cX3_init 14 = .ok (.iload_n 2, 1) := by decide +kernel
theorem dX3_init_15 : decode cX3_init 15 = .ok (.iload_n 1, 1) := by decide +kernel
theorem dX3_init_16 : decode cX3_init 16 = .ok (.if_icmp .ge 22, 3) := by decide +kernel
theorem dX3_init_19 : decode cX3_init 19 = .ok (.aload_n 0, 1) := by decide +kernel
theorem dX3_init_20 : decode cX3_init 20 = .ok (.getfield 11, 3) := by decide +kernel
theorem dX3_init_23 : decode cX3_init 23 = .ok (.iload_n 2, 1) := by decide +kernel
theorem dX3_init_24 : decode cX3_init 24 = .ok (.new 9, 3) := by decide +kernel
theorem dX3_init_27 : decode cX3_init 27 = .ok (.dup, 1) := by decide +kernel
theorem dX3_init_28 : decode cX3_init 28 = .ok (.invokespecial 17, 3) := by decide +kernel
theorem dX3_init_31 : decode cX3_init 31 = .ok (.aastore, 1) := by decide +kernel
theorem dX3_init_32 : decode cX3_init 32 = .ok (.iinc 2 1, 3) := by decide +kernel
theorem dX3_init_35 : decode cX3_init 35 = .ok (.goto (-21), 3) := by decide +kernel
theorem dX3_init_38 : decode cX3_init 38 = .ok (.return_, 1) := by decide +kernel
theorem dX3_clear_0 : decode cX3_clear 0 = .ok (.aload_n 0, 1) := by decide +kernel
theorem dX3_clear_1 : decode cX3_clear 1 = .ok (.iconst 0, 1) := by decide +kernel
theorem dX3_clear_2 : decode cX3_clear 2 = .ok (.putfield 18, 3) := by decide +kernel
theorem dX3_clear_5 : decode cX3_clear 5 = .ok (.aload_n 0, 1) := by decide +kernel
theorem dX3_clear_6 : decode cX3_clear 6 = .ok (.iload_n 1, 1) := by decide +kernel
theorem dX3_clear_7 : decode cX3_clear 7 = .ok (.putfield 22, 3) := by decide +kernel
theorem dX3_clear_10 : decode cX3_clear 10 = .ok (.return_, 1) := by decide +kernel
theorem dX3_at_0 : decode cX3_at 0 = .ok (.iload_n 1, 1) := by decide +kernel
theorem dX3_at_1 : decode cX3_at 1 = .ok (.ifCond .lt 20, 3) := by decide +kernel
theorem dX3_at_4 : decode cX3_at 4 = .ok (.iload_n 1, 1) := by decide +kernel
theorem dX3_at_5 : decode cX3_at 5 = .ok (.aload_n 0, 1) := by decide +kernel
theorem dX3_at_6 : decode cX3_at 6 = .ok (.getfield 18, 3) := by decide +kernel
theorem dX3_at_9 : decode cX3_at 9 = .ok (.if_icmp .ge 12, 3) := by decide +kernel
theorem dX3_at_12 : decode cX3_at 12 = .ok (.aload_n 0, 1) := by decide +kernel
theorem dX3_at_13 : decode cX3_at 13 = .ok (.getfield 11, 3) := by decide +kernel
theorem dX3_at_16 : decode cX3_at 16 = .ok (.iload_n 1, 1) := by decide +kernel
theorem dX3_at_17 : decode cX3_at 17 = .ok (.aaload, 1) := by decide +kernel
theorem dX3_at_18 : decode cX3_at 18 = .ok (.goto 4, 3) := by decide +kernel
theorem dX3_at_21 : decode cX3_at 21 = .ok (.aconst_null, 1) := by decide +kernel
theorem dX3_at_22 : decode cX3_at 22 = .ok (.areturn, 1) := by decide +kernel
theorem dX3_grow_0 : decode cX3_grow 0 = .ok (.aload_n 0, 1) := by decide +kernel
theorem dX3_grow_1 : decode cX3_grow 1 = .ok (.getfield 18, 3) := by decide +kernel
theorem dX3_grow_4 : decode cX3_grow 4 = .ok (.aload_n 0, 1) := by decide +kernel
theorem dX3_grow_5 : decode cX3_grow 5 = .ok (.getfield 11, 3) := by decide +kernel
theorem dX3_grow_8 : decode cX3_grow 8 = .ok (.arraylength, 1) := by decide +kernel
theorem dX3_grow_9 : decode cX3_grow 9 = .ok (.if_icmp .lt 5, 3) := by decide +kernel
theorem dX3_grow_12 : decode cX3_grow 12 = .ok (.aconst_null, 1) := by decide +kernel
theorem dX3_grow_13 : decode cX3_grow 13 = .ok (.areturn, 1) := by decide +kernel
theorem dX3_grow_14 : decode cX3_grow 14 = .ok (.aload_n 0, 1) := by decide +kernel
theorem dX3_grow_15 : decode cX3_grow 15 = .ok (.dup, 1) := by decide +kernel
theorem dX3_grow_16 : decode cX3_grow 16 = .ok (.getfield 18, 3) := by decide +kernel
theorem dX3_grow_19 : decode cX3_grow 19 = .ok (.iconst 1, 1) := by decide +kernel
theorem dX3_grow_20 : decode cX3_grow 20 = .ok (.iadd, 1) := by decide +kernel
theorem dX3_grow_21 : decode cX3_grow 21 = .ok (.putfield 18, 3) := by decide +kernel
theorem dX3_grow_24 : decode cX3_grow 24 = .ok (.aload_n 0, 1) := by decide +kernel
theorem dX3_grow_25 : decode cX3_grow 25 = .ok (.getfield 11, 3) := by decide +kernel
theorem dX3_grow_28 : decode cX3_grow 28 = .ok (.aload_n 0, 1) := by decide +kernel
theorem dX3_grow_29 : decode cX3_grow 29 = .ok (.getfield 18, 3) := by decide +kernel
theorem dX3_grow_32 : decode cX3_grow 32 = .ok (.iconst 1, 1) := by decide +kernel
theorem dX3_grow_33 : decode cX3_grow 33 = .ok (.isub, 1) := by decide +kernel
theorem dX3_grow_34 : decode cX3_grow 34 = .ok (.aaload, 1) := by decide +kernel
theorem dX3_grow_35 : decode cX3_grow 35 = .ok (.areturn, 1) := by decide +kernel
theorem dX3_add_0 : decode cX3_add 0 = .ok (.aload_n 0, 1) := by decide +kernel
theorem dX3_add_1 : decode cX3_add 1 = .ok (.invokevirtual 25, 3) := by decide +kernel
theorem dX3_add_4 : decode cX3_add 4 = .ok (.astore_n 2, 1) := by decide +kernel
theorem dX3_add_5 : decode cX3_add 5 = .ok (.aload_n 2, 1) := by decide +kernel
theorem dX3_add_6 : decode cX3_add 6 = .ok (.ifnonnull 5, 3) := by decide +kernel
theorem dX3_add_9 : decode cX3_add 9 = .ok (.iconst 0, 1) := by decide +kernel
theorem dX3_add_10 : decode cX3_add 10 = .ok (.ireturn, 1) := by decide +kernel
theorem dX3_add_11 : decode cX3_add 11 = .ok (.aload_n 2, 1) := by decide +kernel
theorem dX3_add_12 : decode cX3_add 12 = .ok (.aload_n 1, 1) := by decide +kernel
theorem dX3_add_13 : decode cX3_add 13 = .ok (.getfield 29, 3) := by decide +kernel
theorem dX3_add_16 : decode cX3_add 16 = .ok (.invokevirtual 33, 3) := by decide +kernel
theorem dX3_add_19 : decode cX3_add 19 = .ok (.aload_n 2, 1) := by decide +kernel
theorem dX3_add_20 : decode cX3_add 20 = .ok (.aload_n 1, 1) := by decide +kernel
theorem dX3_add_21 : decode cX3_add 21 = .ok (.invokevirtual 37, 3) := by decide +kernel
theorem dX3_add_24 : decode cX3_add 24 = .ok (.iconst 1, 1) := by decide +kernel
theorem dX3_add_25 : decode cX3_add 25 = .ok (.ireturn, 1) := by decide +kernel
theorem dX3_takeAll_0 : decode cX3_takeAll 0 = .ok (.aload_n 0, 1) := by decide +kernel
theorem dX3_takeAll_1 : decode cX3_takeAll 1 = .ok (.aload_n 1, 1) := by decide +kernel
theorem dX3_takeAll_2 : decode cX3_takeAll 2 = .ok (.getfield 22, 3) := by decide +kernel
theorem dX3_takeAll_5 : decode cX3_takeAll 5 = .ok (.invokevirtual 41, 3) := by decide +kernel
theorem dX3_takeAll_8 : decode cX3_takeAll 8 = .ok (.iconst 0, 1) := by decide +kernel
theorem dX3_takeAll_9 : decode cX3_takeAll 9 = .ok (.istore_n 2, 1) := by decide +kernel
theorem dX3_takeAll_10 : decode cX3_takeAll 10 = .ok (.iload_n 2, 1) := by decide +kernel
theorem dX3_takeAll_11 : decode cX3_takeAll 11 = .ok (.aload_n 1, 1) := by decide +kernel
theorem dX3_takeAll_12 : decode cX3_takeAll 12 = .ok (.getfield 18, 3) := by decide +kernel
theorem dX3_takeAll_15 : decode cX3_takeAll 15 = .ok (.if_icmp .ge 20, 3) := by decide +kernel
theorem dX3_takeAll_18 : decode cX3_takeAll 18 = .ok (.aload_n 0, 1) := by decide +kernel
theorem dX3_takeAll_19 : decode cX3_takeAll 19 = .ok (.aload_n 1, 1) := by decide +kernel
theorem dX3_takeAll_20 : decode cX3_takeAll 20 = .ok (.getfield 11, 3) := by decide +kernel
theorem dX3_takeAll_23 : decode cX3_takeAll 23 = .ok (.iload_n 2, 1) := by decide +kernel
theorem dX3_takeAll_24 : decode cX3_takeAll 24 = .ok (.aaload, 1) := by decide +kernel
theorem dX3_takeAll_25 : decode cX3_takeAll 25 = .ok (.invokevirtual 45, 3) := by decide +kernel
theorem dX3_takeAll_28 : decode cX3_takeAll 28 = .ok (.pop, 1) := by decide +kernel
theorem dX3_takeAll_29 : decode cX3_takeAll 29 = .ok (.iinc 2 1, 3) := by decide +kernel
theorem dX3_takeAll_32 : decode cX3_takeAll 32 = .ok (.goto (-22), 3) := by decide +kernel
theorem dX3_takeAll_35 : decode cX3_takeAll 35 = .ok (.return_, 1) := by decide +kernel
theorem dX3_insert_0 : decode cX3_insert 0 = .ok (.aload_n 0, 1) := by decide +kernel
theorem dX3_insert_1 : decode cX3_insert 1 = .ok (.aload_n 1, 1) := by decide +kernel
theorem dX3_insert_2 : decode cX3_insert 2 = .ok (.invokevirtual 49, 3) := by decide +kernel
theorem dX3_insert_5 : decode cX3_insert 5 = .ok (.istore_n 2, 1) := by decide +kernel
theorem dX3_insert_6 : decode cX3_insert 6 = .ok (.iload_n 2, 1) := by decide +kernel
theorem dX3_insert_7 : decode cX3_insert 7 = .ok (.aload_n 0, 1) := by decide +kernel
theorem dX3_insert_8 : decode cX3_insert 8 = .ok (.getfield 18, 3) := by decide +kernel
theorem dX3_insert_11 : decode cX3_insert 11 = .ok (.if_icmp .ge 22, 3) := by decide +kernel
theorem dX3_insert_14 : decode cX3_insert 14 = .ok (.aload_n 0, 1) := by decide +kernel
theorem dX3_insert_15 : decode cX3_insert 15 = .ok (.aload_n 0, 1) := by decide +kernel
theorem dX3_insert_16 : decode cX3_insert 16 = .ok (.getfield 11, 3) := by decide +kernel
theorem dX3_insert_19 : decode cX3_insert 19 = .ok (.iload_n 2, 1) := by decide +kernel
theorem dX3_insert_20 : decode cX3_insert 20 = .ok (.aaload, 1) := by decide +kernel
theorem dX3_insert_21 : decode cX3_insert 21 = .ok (.getfield 29, 3) := by decide +kernel
theorem dX3_insert_24 : decode cX3_insert 24 = .ok (.aload_n 1, 1) := by decide +kernel
theorem dX3_insert_25 : decode cX3_insert 25 = .ok (.invokevirtual 53, 3) := by decide +kernel
theorem dX3_insert_28 : decode cX3_insert 28 = .ok (.ifCond .ne 5, 3) := by decide +kernel
theorem dX3_insert_31 : decode cX3_insert 31 = .ok (.iconst 1, 1) := by decide +kernel
theorem dX3_insert_32 : decode cX3_insert 32 = .ok (.ireturn, 1) := by decide +kernel
theorem dX3_insert_33 : decode cX3_insert 33 = .ok (.aload_n 0, 1) := by decide +kernel
theorem dX3_insert_34 : decode cX3_insert 34 = .ok (.invokevirtual 25, 3) := by decide +kernel
theorem dX3_insert_37 : decode cX3_insert 37 = .ok (.astore_n 3, 1) := by decide +kernel
theorem dX3_insert_38 : decode cX3_insert 38 = .ok (.aload_n 3, 1) := by decide +kernel
theorem dX3_insert_39 : decode cX3_insert 39 = .ok (.ifnonnull 5, 3) := by decide +kernel
theorem dX3_insert_42 : decode cX3_insert 42 = .ok (.iconst 0, 1) := by decide +kernel
theorem dX3_insert_43 : decode cX3_insert 43 = .ok (.ireturn, 1) := by decide +kernel
theorem dX3_insert_44 : decode cX3_insert 44 = .ok (.aload_n 0, 1) := by decide +kernel
theorem dX3_insert_45 : decode cX3_insert 45 = .ok (.getfield 18, 3) := by decide +kernel
theorem dX3_insert_48 : decode cX3_insert 48 = .ok (.iconst 1, 1) := by decide +kernel
theorem dX3_insert_49 : decode cX3_insert 49 = .ok (.isub, 1) := by decide +kernel
theorem dX3_insert_50 : decode cX3_insert 50 = .ok (.istore 4, 2) := by decide +kernel
theorem dX3_insert_52 : decode cX3_insert 52 = .ok (.iload 4, 2) := by decide +kernel
theorem dX3_insert_54 : decode cX3_insert 54 = .ok (.iload_n 2, 1) := by decide +kernel
theorem dX3_insert_55 : decode cX3_insert 55 = .ok (.if_icmp .le 25, 3) := by decide +kernel
theorem dX3_insert_58 : decode cX3_insert 58 = .ok (.aload_n 0, 1) := by decide +kernel
theorem dX3_insert_59 : decode cX3_insert 59 = .ok (.getfield 11, 3) := by decide +kernel
theorem dX3_insert_62 : decode cX3_insert 62 = .ok (.iload 4, 2) := by decide +kernel
theorem dX3_insert_64 : decode cX3_insert 64 = .ok (.aload_n 0, 1) := by decide +kernel
theorem dX3_insert_65 : decode cX3_insert 65 = .ok (.getfield 11, 3) := by decide +kernel
theorem dX3_insert_68 : decode cX3_insert 68 = .ok (.iload 4, 2) := by decide +kernel
theorem dX3_insert_70 : decode cX3_insert 70 = .ok (.iconst 1, 1) := by decide +kernel
theorem dX3_insert_71 : decode cX3_insert 71 = .ok (.isub, 1) := by decide +kernel
theorem dX3_insert_72 : decode cX3_insert 72 = .ok (.aaload, 1) := by decide +kernel
theorem dX3_insert_73 : decode cX3_insert 73 = .ok (.aastore, 1) := by decide +kernel
theorem dX3_insert_74 : decode cX3_insert 74 = .ok (.iinc 4 (-1), 3) := by decide +kernel
theorem dX3_insert_77 : decode cX3_insert 77 = .ok (.goto (-25), 3) := by decide +kernel
theorem dX3_insert_80 : decode cX3_insert 80 = .ok (.aload_n 0, 1) := by decide +kernel
theorem dX3_insert_81 : decode cX3_insert 81 = .ok (.getfield 11, 3) := by decide +kernel
theorem dX3_insert_84 : decode cX3_insert 84 = .ok (.iload_n 2, 1) := by decide +kernel
theorem dX3_insert_85 : decode cX3_insert 85 = .ok (.aload_n 3, 1) := by decide +kernel
theorem dX3_insert_86 : decode cX3_insert 86 = .ok (.aastore, 1) := by decide +kernel
theorem dX3_insert_87 : decode cX3_insert 87 = .ok (.aload_n 3, 1) := by decide +kernel
theorem dX3_insert_88 : decode cX3_insert 88 = .ok (.aload_n 1, 1) := by decide +kernel
theorem dX3_insert_89 : decode cX3_insert 89 = .ok (.invokevirtual 33, 3) := by decide +kernel
theorem dX3_insert_92 : decode cX3_insert 92 = .ok (.iconst 1, 1) := by decide +kernel
theorem dX3_insert_93 : decode cX3_insert 93 = .ok (.ireturn, 1) := by decide +kernel
theorem dX3_spot_0 : decode cX3_spot 0 = .ok (.aload_n 0, 1) := by decide +kernel
theorem dX3_spot_1 : decode cX3_spot 1 = .ok (.aload_n 1, 1) := by decide +kernel
theorem dX3_spot_2 : decode cX3_spot 2 = .ok (.invokevirtual 49, 3) := by decide +kernel
theorem dX3_spot_5 : decode cX3_spot 5 = .ok (.istore_n 2, 1) := by decide +kernel
theorem dX3_spot_6 : decode cX3_spot 6 = .ok (.iload_n 2, 1) := by decide +kernel
theorem dX3_spot_7 : decode cX3_spot 7 = .ok (.aload_n 0, 1) := by decide +kernel
theorem dX3_spot_8 : decode cX3_spot 8 = .ok (.getfield 18, 3) := by decide +kernel
theorem dX3_spot_11 : decode cX3_spot 11 = .ok (.if_icmp .ge 24, 3) := by decide +kernel
theorem dX3_spot_14 : decode cX3_spot 14 = .ok (.aload_n 0, 1) := by decide +kernel
theorem dX3_spot_15 : decode cX3_spot 15 = .ok (.aload_n 0, 1) := by decide +kernel
theorem dX3_spot_16 : decode cX3_spot 16 = .ok (.getfield 11, 3) := by decide +kernel
theorem dX3_spot_19 : decode cX3_spot 19 = .ok (.iload_n 2, 1) := by decide +kernel
theorem dX3_spot_20 : decode cX3_spot 20 = .ok (.aaload, 1) := by decide +kernel
theorem dX3_spot_21 : decode cX3_spot 21 = .ok (.getfield 29, 3) := by decide +kernel
theorem dX3_spot_24 : decode cX3_spot 24 = .ok (.aload_n 1, 1) := by decide +kernel
theorem dX3_spot_25 : decode cX3_spot 25 = .ok (.invokevirtual 53, 3) := by decide +kernel
theorem dX3_spot_28 : decode cX3_spot 28 = .ok (.ifCond .ne 7, 3) := by decide +kernel
theorem dX3_spot_31 : decode cX3_spot 31 = .ok (.iload_n 2, 1) := by decide +kernel
theorem dX3_spot_32 : decode cX3_spot 32 = .ok (.goto 4, 3) := by decide +kernel
theorem dX3_spot_35 : decode cX3_spot 35 = .ok (.iconst (-1), 1) := by decide +kernel
theorem dX3_spot_36 : decode cX3_spot 36 = .ok (.ireturn, 1) := by decide +kernel
theorem dX3_notBefore_0 : decode cX3_notBefore 0 = .ok (.iconst 0, 1) := by decide +kernel
theorem dX3_notBefore_1 : decode cX3_notBefore 1 = .ok (.istore_n 2, 1) := by decide +kernel
theorem dX3_notBefore_2 : decode cX3_notBefore 2 = .ok (.aload_n 0, 1) := by decide +kernel
theorem dX3_notBefore_3 : decode cX3_notBefore 3 = .ok (.getfield 18, 3) := by decide +kernel
theorem dX3_notBefore_6 : decode cX3_notBefore 6 = .ok (.istore_n 3, 1) := by decide +kernel
theorem dX3_notBefore_7 : decode cX3_notBefore 7 = .ok (.iload_n 2, 1) := by decide +kernel
theorem dX3_notBefore_8 : decode cX3_notBefore 8 = .ok (.iload_n 3, 1) := by decide +kernel
theorem dX3_notBefore_9 : decode cX3_notBefore 9 = .ok (.if_icmp .ge 42, 3) := by decide +kernel
theorem dX3_notBefore_12 : decode cX3_notBefore 12 = .ok (.iload_n 2, 1) := by decide +kernel
theorem dX3_notBefore_13 : decode cX3_notBefore 13 = .ok (.iload_n 3, 1) := by decide +kernel
theorem dX3_notBefore_14 : decode cX3_notBefore 14 = .ok (.iadd, 1) := by decide +kernel
theorem dX3_notBefore_15 : decode cX3_notBefore 15 = .ok (.iconst 2, 1) := by decide +kernel
theorem dX3_notBefore_16 : decode cX3_notBefore 16 = .ok (.idiv, 1) := by decide +kernel
theorem dX3_notBefore_17 : decode cX3_notBefore 17 = .ok (.istore 4, 2) := by decide +kernel
theorem dX3_notBefore_19 : decode cX3_notBefore 19 = .ok (.aload_n 0, 1) := by decide +kernel
theorem dX3_notBefore_20 : decode cX3_notBefore 20 = .ok (.aload_n 0, 1) := by decide +kernel
theorem dX3_notBefore_21 : decode cX3_notBefore 21 = .ok (.getfield 11, 3) := by decide +kernel
theorem dX3_notBefore_24 : decode cX3_notBefore 24 = .ok (.iload 4, 2) := by decide +kernel
theorem dX3_notBefore_26 : decode cX3_notBefore 26 = .ok (.aaload, 1) := by decide +kernel
theorem dX3_notBefore_27 : decode cX3_notBefore 27 = .ok (.getfield 29, 3) := by decide +kernel
theorem dX3_notBefore_30 : decode cX3_notBefore 30 = .ok (.aload_n 1, 1) := by decide +kernel
theorem dX3_notBefore_31 : decode cX3_notBefore 31 = .ok (.invokevirtual 53, 3) := by decide +kernel
theorem dX3_notBefore_34 : decode cX3_notBefore 34 = .ok (.ifCond .ge 11, 3) := by decide +kernel
theorem dX3_notBefore_37 : decode cX3_notBefore 37 = .ok (.iload 4, 2) := by decide +kernel
theorem dX3_notBefore_39 : decode cX3_notBefore 39 = .ok (.iconst 1, 1) := by decide +kernel
theorem dX3_notBefore_40 : decode cX3_notBefore 40 = .ok (.iadd, 1) := by decide +kernel
theorem dX3_notBefore_41 : decode cX3_notBefore 41 = .ok (.istore_n 2, 1) := by decide +kernel
theorem dX3_notBefore_42 : decode cX3_notBefore 42 = .ok (.goto 6, 3) := by decide +kernel
theorem dX3_notBefore_45 : decode cX3_notBefore 45 = .ok (.iload 4, 2) := by decide +kernel
theorem dX3_notBefore_47 : decode cX3_notBefore 47 = .ok (.istore_n 3, 1) := by decide +kernel
theorem dX3_notBefore_48 : decode cX3_notBefore 48 = .ok (.goto (-41), 3) := by decide +kernel
theorem dX3_notBefore_51 : decode cX3_notBefore 51 = .ok (.iload_n 2, 1) := by decide +kernel
theorem dX3_notBefore_52 : decode cX3_notBefore 52 = .ok (.ireturn, 1) := by decide +kernel
theorem dX3_compare_0 : decode cX3_compare 0 = .ok (.iconst 0, 1) := by decide +kernel
theorem dX3_compare_1 : decode cX3_compare 1 = .ok (.istore_n 3, 1) := by decide +kernel
theorem dX3_compare_2 : decode cX3_compare 2 = .ok (.iload_n 3, 1) := by decide +kernel
theorem dX3_compare_3 : decode cX3_compare 3 = .ok (.aload_n 0, 1) := by decide +kernel
theorem dX3_compare_4 : decode cX3_compare 4 = .ok (.getfield 22, 3) := by decide +kernel
theorem dX3_compare_7 : decode cX3_compare 7 = .ok (.if_icmp .ge 33, 3) := by decide +kernel
theorem dX3_compare_10 : decode cX3_compare 10 = .ok (.aload_n 1, 1) := by decide +kernel
theorem dX3_compare_11 : decode cX3_compare 11 = .ok (.iload_n 3, 1) := by decide +kernel
theorem dX3_compare_12 : decode cX3_compare 12 = .ok (.iaload, 1) := by decide +kernel
theorem dX3_compare_13 : decode cX3_compare 13 = .ok (.aload_n 2, 1) := by decide +kernel
theorem dX3_compare_14 : decode cX3_compare 14 = .ok (.iload_n 3, 1) := by decide +kernel
theorem dX3_compare_15 : decode cX3_compare 15 = .ok (.iaload, 1) := by decide +kernel
theorem dX3_compare_16 : decode cX3_compare 16 = .ok (.if_icmp .eq 18, 3) := by decide +kernel
theorem dX3_compare_19 : decode cX3_compare 19 = .ok (.aload_n 1, 1) := by decide +kernel
theorem dX3_compare_20 : decode cX3_compare 20 = .ok (.iload_n 3, 1) := by decide +kernel
theorem dX3_compare_21 : decode cX3_compare 21 = .ok (.iaload, 1) := by decide +kernel
theorem dX3_compare_22 : decode cX3_compare 22 = .ok (.aload_n 2, 1) := by decide +kernel
theorem dX3_compare_23 : decode cX3_compare 23 = .ok (.iload_n 3, 1) := by decide +kernel
theorem dX3_compare_24 : decode cX3_compare 24 = .ok (.iaload, 1) := by decide +kernel
theorem dX3_compare_25 : decode cX3_compare 25 = .ok (.if_icmp .ge 7, 3) := by decide +kernel
theorem dX3_compare_28 : decode cX3_compare 28 = .ok (.iconst (-1), 1) := by decide +kernel
theorem dX3_compare_29 : decode cX3_compare 29 = .ok (.goto 4, 3) := by decide +kernel
theorem dX3_compare_32 : decode cX3_compare 32 = .ok (.iconst 1, 1) := by decide +kernel
theorem dX3_compare_33 : decode cX3_compare 33 = .ok (.ireturn, 1) := by decide +kernel
theorem dX3_compare_34 : decode cX3_compare 34 = .ok (.iinc 3 1, 3) := by decide +kernel
theorem dX3_compare_37 : decode cX3_compare 37 = .ok (.goto (-35), 3) := by decide +kernel
theorem dX3_compare_40 : decode cX3_compare 40 = .ok (.iconst 0, 1) := by decide +kernel
theorem dX3_compare_41 : decode cX3_compare 41 = .ok (.ireturn, 1) := by decide +kernel
theorem dX3_sameWays_0 : decode cX3_sameWays 0 = .ok (.aload_n 0, 1) := by decide +kernel
theorem dX3_sameWays_1 : decode cX3_sameWays 1 = .ok (.getfield 18, 3) := by decide +kernel
theorem dX3_sameWays_4 : decode cX3_sameWays 4 = .ok (.aload_n 1, 1) := by decide +kernel
theorem dX3_sameWays_5 : decode cX3_sameWays 5 = .ok (.getfield 18, 3) := by decide +kernel
theorem dX3_sameWays_8 : decode cX3_sameWays 8 = .ok (.if_icmp .eq 5, 3) := by decide +kernel
theorem dX3_sameWays_11 : decode cX3_sameWays 11 = .ok (.iconst 0, 1) := by decide +kernel
theorem dX3_sameWays_12 : decode cX3_sameWays 12 = .ok (.ireturn, 1) := by decide +kernel
theorem dX3_sameWays_13 : decode cX3_sameWays 13 = .ok (.iconst 0, 1) := by decide +kernel
theorem dX3_sameWays_14 : decode cX3_sameWays 14 = .ok (.istore_n 2, 1) := by decide +kernel
theorem dX3_sameWays_15 : decode cX3_sameWays 15 = .ok (.iload_n 2, 1) := by decide +kernel
theorem dX3_sameWays_16 : decode cX3_sameWays 16 = .ok (.aload_n 0, 1) := by decide +kernel
theorem dX3_sameWays_17 : decode cX3_sameWays 17 = .ok (.getfield 18, 3) := by decide +kernel
theorem dX3_sameWays_20 : decode cX3_sameWays 20 = .ok (.if_icmp .ge 29, 3) := by decide +kernel
theorem dX3_sameWays_23 : decode cX3_sameWays 23 = .ok (.aload_n 0, 1) := by decide +kernel
theorem dX3_sameWays_24 : decode cX3_sameWays 24 = .ok (.getfield 11, 3) := by decide +kernel
theorem dX3_sameWays_27 : decode cX3_sameWays 27 = .ok (.iload_n 2, 1) := by decide +kernel
theorem dX3_sameWays_28 : decode cX3_sameWays 28 = .ok (.aaload, 1) := by decide +kernel
theorem dX3_sameWays_29 : decode cX3_sameWays 29 = .ok (.aload_n 1, 1) := by decide +kernel
theorem dX3_sameWays_30 : decode cX3_sameWays 30 = .ok (.getfield 11, 3) := by decide +kernel
theorem dX3_sameWays_33 : decode cX3_sameWays 33 = .ok (.iload_n 2, 1) := by decide +kernel
theorem dX3_sameWays_34 : decode cX3_sameWays 34 = .ok (.aaload, 1) := by decide +kernel
theorem dX3_sameWays_35 : decode cX3_sameWays 35 = .ok (.invokevirtual 57, 3) := by decide +kernel
theorem dX3_sameWays_38 : decode cX3_sameWays 38 = .ok (.ifCond .ne 5, 3) := by decide +kernel
theorem dX3_sameWays_41 : decode cX3_sameWays 41 = .ok (.iconst 0, 1) := by decide +kernel
theorem dX3_sameWays_42 : decode cX3_sameWays 42 = .ok (.ireturn, 1) := by decide +kernel
theorem dX3_sameWays_43 : decode cX3_sameWays 43 = .ok (.iinc 2 1, 3) := by decide +kernel
theorem dX3_sameWays_46 : decode cX3_sameWays 46 = .ok (.goto (-31), 3) := by decide +kernel
theorem dX3_sameWays_49 : decode cX3_sameWays 49 = .ok (.iconst 1, 1) := by decide +kernel
theorem dX3_sameWays_50 : decode cX3_sameWays 50 = .ok (.ireturn, 1) := by decide +kernel
theorem dX4_init_0 : decode cX4_init 0 = .ok (.aload_n 0, 1) := by decide +kernel
theorem dX4_init_1 : decode cX4_init 1 = .ok (.invokespecial 3, 3) := by decide +kernel
theorem dX4_init_4 : decode cX4_init 4 = .ok (.aload_n 0, 1) := by decide +kernel
theorem dX4_init_5 : decode cX4_init 5 = .ok (.bipush 40, 2) := by decide +kernel
theorem dX4_init_7 : decode cX4_init 7 = .ok (.anewarray 9, 3) := by decide +kernel
theorem dX4_init_10 : decode cX4_init 10 = .ok (.putfield 11, 3) := by decide +kernel
theorem dX4_init_13 : decode cX4_init 13 = .ok (.aload_n 0, 1) := by decide +kernel
theorem dX4_init_14 : decode cX4_init 14 = .ok (.new 17, 3) := by decide +kernel
theorem dX4_init_17 : decode cX4_init 17 = .ok (.dup, 1) := by decide +kernel
theorem dX4_init_18 : decode cX4_init 18 = .ok (.invokespecial 19, 3) := by decide +kernel
theorem dX4_init_21 : decode cX4_init 21 = .ok (.putfield 20, 3) := by decide +kernel
theorem dX4_init_24 : decode cX4_init 24 = .ok (.aload_n 0, 1) := by decide +kernel
theorem dX4_init_25 : decode cX4_init 25 = .ok (.new 9, 3) := by decide +kernel
theorem dX4_init_28 : decode cX4_init 28 = .ok (.dup, 1) := by decide +kernel
theorem dX4_init_29 : decode cX4_init 29 = .ok (.bipush 64, 2) := by decide +kernel
theorem dX4_init_31 : decode cX4_init 31 = .ok (.invokespecial 24, 3) := by decide +kernel
theorem dX4_init_34 : decode cX4_init 34 = .ok (.putfield 27, 3) := by decide +kernel
theorem dX4_init_37 : decode cX4_init 37 = .ok (.aload_n 0, 1) := by decide +kernel
theorem dX4_init_38 : decode cX4_init 38 = .ok (.new 9, 3) := by decide +kernel
theorem dX4_init_41 : decode cX4_init 41 = .ok (.dup, 1) := by decide +kernel
theorem dX4_init_42 : decode cX4_init 42 = .ok (.bipush 32, 2) := by decide +kernel
theorem dX4_init_44 : decode cX4_init 44 = .ok (.invokespecial 24, 3) := by decide +kernel
theorem dX4_init_47 : decode cX4_init 47 = .ok (.putfield 31, 3) := by decide +kernel
theorem dX4_init_50 : decode cX4_init 50 = .ok (.aload_n 0, 1) := by decide +kernel
theorem dX4_init_51 : decode cX4_init 51 = .ok (.bipush 64, 2) := by decide +kernel
theorem dX4_init_53 : decode cX4_init 53 = .ok (.newarray .int, 2) := by decide +kernel
theorem dX4_init_55 : decode cX4_init 55 = .ok (.putfield 34, 3) := by decide +kernel
theorem dX4_init_58 : decode cX4_init 58 = .ok (.aload_n 0, 1) := by decide +kernel
theorem dX4_init_59 : decode cX4_init 59 = .ok (.bipush 6, 2) := by decide +kernel
theorem dX4_init_61 : decode cX4_init 61 = .ok (.newarray .int, 2) := by decide +kernel
theorem dX4_init_63 : decode cX4_init 63 = .ok (.putfield 38, 3) := by decide +kernel
theorem dX4_init_66 : decode cX4_init 66 = .ok (.aload_n 0, 1) := by decide +kernel
theorem dX4_init_67 : decode cX4_init 67 = .ok (.aload_n 1, 1) := by decide +kernel
theorem dX4_init_68 : decode cX4_init 68 = .ok (.putfield 41, 3) := by decide +kernel
theorem dX4_init_71 : decode cX4_init 71 = .ok (.aload_n 0, 1) := by decide +kernel
theorem dX4_init_72 : decode cX4_init 72 = .ok (.aload_n 2, 1) := by decide +kernel
theorem dX4_init_73 : decode cX4_init 73 = .ok (.putfield 45, 3) := by decide +kernel
theorem dX4_init_76 : decode cX4_init 76 = .ok (.iconst 0, 1) := by decide +kernel
theorem dX4_init_77 : decode cX4_init 77 = .ok (.istore_n 3, 1) := by decide +kernel
theorem dX4_init_78 : decode cX4_init 78 = .ok (.iload_n 3, 1) := by decide +kernel
theorem dX4_init_79 : decode cX4_init 79 = .ok (.bipush 40, 2) := by decide +kernel
theorem dX4_init_81 : decode cX4_init 81 = .ok (.if_icmp .ge 24, 3) := by decide +kernel
theorem dX4_init_84 : decode cX4_init 84 = .ok (.aload_n 0, 1) := by decide +kernel
theorem dX4_init_85 : decode cX4_init 85 = .ok (.getfield 11, 3) := by decide +kernel
theorem dX4_init_88 : decode cX4_init 88 = .ok (.iload_n 3, 1) := by decide +kernel
theorem dX4_init_89 : decode cX4_init 89 = .ok (.new 9, 3) := by decide +kernel
theorem dX4_init_92 : decode cX4_init 92 = .ok (.dup, 1) := by decide +kernel
theorem dX4_init_93 : decode cX4_init 93 = .ok (.bipush 32, 2) := by decide +kernel
theorem dX4_init_95 : decode cX4_init 95 = .ok (.invokespecial 24, 3) := by decide +kernel
theorem dX4_init_98 : decode cX4_init 98 = .ok (.aastore, 1) := by decide +kernel
theorem dX4_init_99 : decode cX4_init 99 = .ok (.iinc 3 1, 3) := by decide +kernel
theorem dX4_init_102 : decode cX4_init 102 = .ok (.goto (-24), 3) := by decide +kernel
theorem dX4_init_105 : decode cX4_init 105 = .ok (.return_, 1) := by decide +kernel
theorem dX4_answersTo_0 : decode cX4_answersTo 0 = .ok (.aload_n 0, 1) := by decide +kernel
theorem dX4_answersTo_1 : decode cX4_answersTo 1 = .ok (.iload_n 1, 1) := by decide +kernel
theorem dX4_answersTo_2 : decode cX4_answersTo 2 = .ok (.invokevirtual 49, 3) := by decide +kernel
theorem dX4_answersTo_5 : decode cX4_answersTo 5 = .ok (.lstore_n 2, 1) := by decide +kernel
theorem dX4_answersTo_6 : decode cX4_answersTo 6 = .ok (.iconst 0, 1) := by decide +kernel
theorem dX4_answersTo_7 : decode cX4_answersTo 7 = .ok (.istore 4, 2) := by decide +kernel
theorem dX4_answersTo_9 : decode cX4_answersTo 9 = .ok (.iload 4, 2) := by decide +kernel
theorem dX4_answersTo_11 : decode cX4_answersTo 11 = .ok (.iload_n 1, 1) := by decide +kernel
theorem dX4_answersTo_12 : decode cX4_answersTo 12 = .ok (.if_icmp .gt 29, 3) := by decide +kernel
theorem dX4_answersTo_15 : decode cX4_answersTo 15 = .ok (.lload_n 2, 1) := by decide +kernel
theorem dX4_answersTo_16 : decode cX4_answersTo 16 = .ok (.iload 4, 2) := by decide +kernel
theorem dX4_answersTo_18 : decode cX4_answersTo 18 = .ok (.invokestatic 53, 3) := by decide +kernel
theorem dX4_answersTo_21 : decode cX4_answersTo 21 = .ok (.ifCond .eq 14, 3) := by decide +kernel
theorem dX4_answersTo_24 : decode cX4_answersTo 24 = .ok (.aload_n 0, 1) := by decide +kernel
theorem dX4_answersTo_25 : decode cX4_answersTo 25 = .ok (.iload 4, 2) := by decide +kernel
theorem dX4_answersTo_27 : decode cX4_answersTo 27 = .ok (.invokevirtual 57, 3) := by decide +kernel
theorem dX4_answersTo_30 : decode cX4_answersTo 30 = .ok (.ifCond .ne 5, 3) := by decide +kernel
theorem dX4_answersTo_33 : decode cX4_answersTo 33 = .ok (.aconst_null, 1) := by decide +kernel
theorem dX4_answersTo_34 : decode cX4_answersTo 34 = .ok (.areturn, 1) := by decide +kernel
theorem dX4_answersTo_35 : decode cX4_answersTo 35 = .ok (.iinc 4 1, 3) := by decide +kernel
theorem dX4_answersTo_38 : decode cX4_answersTo 38 = .ok (.goto (-29), 3) := by decide +kernel
theorem dX4_answersTo_41 : decode cX4_answersTo 41 = .ok (.aload_n 0, 1) := by decide +kernel
theorem dX4_answersTo_42 : decode cX4_answersTo 42 = .ok (.getfield 11, 3) := by decide +kernel
theorem dX4_answersTo_45 : decode cX4_answersTo 45 = .ok (.iload_n 1, 1) := by decide +kernel
theorem dX4_answersTo_46 : decode cX4_answersTo 46 = .ok (.aaload, 1) := by decide +kernel
theorem dX4_answersTo_47 : decode cX4_answersTo 47 = .ok (.areturn, 1) := by decide +kernel
theorem dX4_allWithin_0 : decode cX4_allWithin 0 = .ok (.lconst 1, 1) := by decide +kernel
theorem dX4_allWithin_1 : decode cX4_allWithin 1 = .ok (.iload_n 1, 1) := by decide +kernel
theorem dX4_allWithin_2 : decode cX4_allWithin 2 = .ok (.lshl, 1) := by decide +kernel
theorem dX4_allWithin_3 : decode cX4_allWithin 3 = .ok (.lstore_n 2, 1) := by decide +kernel
theorem dX4_allWithin_4 : decode cX4_allWithin 4 = .ok (.iload_n 1, 1) := by decide +kernel
theorem dX4_allWithin_5 : decode cX4_allWithin 5 = .ok (.istore 4, 2) := by decide +kernel
theorem dX4_allWithin_7 : decode cX4_allWithin 7 = .ok (.iload 4, 2) := by decide +kernel
theorem dX4_allWithin_9 : decode cX4_allWithin 9 = .ok (.ifCond .lt 67, 3) := by decide +kernel
theorem dX4_allWithin_12 : decode cX4_allWithin 12 = .ok (.aload_n 0, 1) := by decide +kernel
theorem dX4_allWithin_13 : decode cX4_allWithin 13 = .ok (.getfield 45, 3) := by decide +kernel
theorem dX4_allWithin_16 : decode cX4_allWithin 16 = .ok (.iload 4, 2) := by decide +kernel
theorem dX4_allWithin_18 : decode cX4_allWithin 18 = .ok (.aaload, 1) := by decide +kernel
theorem dX4_allWithin_19 : decode cX4_allWithin 19 = .ok (.astore 5, 2) := by decide +kernel
theorem dX4_allWithin_21 : decode cX4_allWithin 21 = .ok (.lload_n 2, 1) := by decide +kernel
theorem dX4_allWithin_22 : decode cX4_allWithin 22 = .ok (.iload 4, 2) := by decide +kernel
theorem dX4_allWithin_24 : decode cX4_allWithin 24 = .ok (.invokestatic 53, 3) := by decide +kernel
theorem dX4_allWithin_27 : decode cX4_allWithin 27 = .ok (.ifCond .eq 43, 3) := by decide +kernel
theorem dX4_allWithin_30 : decode cX4_allWithin 30 = .ok (.aload 5, 2) := by decide +kernel
theorem dX4_allWithin_32 : decode cX4_allWithin 32 = .ok (.getfield 61, 3) := by decide +kernel
theorem dX4_allWithin_35 : decode cX4_allWithin 35 = .ok (.ifCond .ne 6, 3) := by decide +kernel
theorem dX4_allWithin_38 : decode cX4_allWithin 38 = .ok (.goto 32, 3) := by decide +kernel
theorem dX4_allWithin_41 : decode cX4_allWithin 41 = .ok (.lload_n 2, 1) := by decide +kernel
theorem dX4_allWithin_42 : decode cX4_allWithin 42 = .ok (.lconst 1, 1) := by decide +kernel
theorem dX4_allWithin_43 : decode cX4_allWithin 43 = .ok (.aload 5, 2) := by decide +kernel
theorem dX4_allWithin_45 : decode cX4_allWithin 45 = .ok (.getfield 67, 3) := by decide +kernel
theorem dX4_allWithin_48 : decode cX4_allWithin 48 = .ok (.lshl, 1) := by decide +kernel
theorem dX4_allWithin_49 : decode cX4_allWithin 49 = .ok (.lor, 1) := by decide +kernel
theorem dX4_allWithin_50 : decode cX4_allWithin 50 = .ok (.lstore_n 2, 1) := by decide +kernel
theorem dX4_allWithin_51 : decode cX4_allWithin 51 = .ok (.aload 5, 2) := by decide +kernel
theorem dX4_allWithin_53 : decode cX4_allWithin 53 = .ok (.getfield 70, 3) := by decide +kernel
theorem dX4_allWithin_56 : decode cX4_allWithin 56 = .ok (.iconst (-1), 1) := by decide +kernel
theorem dX4_allWithin_57 : decode cX4_allWithin 57 = .ok (.if_icmp .eq 13, 3) := by decide +kernel
theorem dX4_allWithin_60 : decode cX4_allWithin 60 = .ok (.lload_n 2, 1) := by decide +kernel
theorem dX4_allWithin_61 : decode cX4_allWithin 61 = .ok (.lconst 1, 1) := by decide +kernel
theorem dX4_allWithin_62 : decode cX4_allWithin 62 = .ok (.aload 5, 2) := by decide +kernel
theorem dX4_allWithin_64 : decode cX4_allWithin 64 = .ok (.getfield 70, 3) := by decide +kernel
theorem dX4_allWithin_67 : decode cX4_allWithin 67 = .ok (.lshl, 1) := by decide +kernel
theorem dX4_allWithin_68 : decode cX4_allWithin 68 = .ok (.lor, 1) := by decide +kernel
theorem dX4_allWithin_69 : decode cX4_allWithin 69 = .ok (.lstore_n 2, 1) := by decide +kernel
theorem dX4_allWithin_70 : decode cX4_allWithin 70 = .ok (.iinc 4 (-1), 3) := by decide +kernel
theorem dX4_allWithin_73 : decode cX4_allWithin 73 = .ok (.goto (-66), 3) := by decide +kernel
theorem dX4_allWithin_76 : decode cX4_allWithin 76 = .ok (.lload_n 2, 1) := by decide +kernel
theorem dX4_allWithin_77 : decode cX4_allWithin 77 = .ok (.lreturn, 1) := by decide +kernel
theorem dX4_workOut_0 : decode cX4_workOut 0 = .ok (.aload_n 0, 1) := by decide +kernel
theorem dX4_workOut_1 : decode cX4_workOut 1 = .ok (.getfield 45, 3) := by decide +kernel
theorem dX4_workOut_4 : decode cX4_workOut 4 = .ok (.iload_n 1, 1) := by decide +kernel
theorem dX4_workOut_5 : decode cX4_workOut 5 = .ok (.aaload, 1) := by decide +kernel
theorem dX4_workOut_6 : decode cX4_workOut 6 = .ok (.astore_n 2, 1) := by decide +kernel
theorem dX4_workOut_7 : decode cX4_workOut 7 = .ok (.aload_n 0, 1) := by decide +kernel
theorem dX4_workOut_8 : decode cX4_workOut 8 = .ok (.getfield 11, 3) := by decide +kernel
theorem dX4_workOut_11 : decode cX4_workOut 11 = .ok (.iload_n 1, 1) := by decide +kernel
theorem dX4_workOut_12 : decode cX4_workOut 12 = .ok (.aaload, 1) := by decide +kernel
theorem dX4_workOut_13 : decode cX4_workOut 13 = .ok (.astore_n 3, 1) := by decide +kernel
theorem dX4_workOut_14 : decode cX4_workOut 14 = .ok (.aload_n 3, 1) := by decide +kernel
theorem dX4_workOut_15 : decode cX4_workOut 15 = .ok (.aload_n 2, 1) := by decide +kernel
theorem dX4_workOut_16 : decode cX4_workOut 16 = .ok (.getfield 73, 3) := by decide +kernel
theorem dX4_workOut_19 : decode cX4_workOut 19 = .ok (.invokevirtual 76, 3) := by decide +kernel
theorem dX4_workOut_22 : decode cX4_workOut 22 = .ok (.aload_n 0, 1) := by decide +kernel
theorem dX4_workOut_23 : decode cX4_workOut 23 = .ok (.getfield 27, 3) := by decide +kernel
theorem dX4_workOut_26 : decode cX4_workOut 26 = .ok (.aload_n 2, 1) := by decide +kernel
theorem dX4_workOut_27 : decode cX4_workOut 27 = .ok (.getfield 73, 3) := by decide +kernel
theorem dX4_workOut_30 : decode cX4_workOut 30 = .ok (.invokevirtual 76, 3) := by decide +kernel
theorem dX4_workOut_33 : decode cX4_workOut 33 = .ok (.aload_n 2, 1) := by decide +kernel
theorem dX4_workOut_34 : decode cX4_workOut 34 = .ok (.getfield 61, 3) := by decide +kernel
theorem dX4_workOut_37 : decode cX4_workOut 37 = .ok (.ifCond .ne 13, 3) := by decide +kernel
theorem dX4_workOut_40 : decode cX4_workOut 40 = .ok (.aload_n 0, 1) := by decide +kernel
theorem dX4_workOut_41 : decode cX4_workOut 41 = .ok (.aload_n 2, 1) := by decide +kernel
theorem dX4_workOut_42 : decode cX4_workOut 42 = .ok (.getfield 67, 3) := by decide +kernel
theorem dX4_workOut_45 : decode cX4_workOut 45 = .ok (.aload_n 3, 1) := by decide +kernel
theorem dX4_workOut_46 : decode cX4_workOut 46 = .ok (.invokevirtual 79, 3) := by decide +kernel
theorem dX4_workOut_49 : decode cX4_workOut 49 = .ok (.ireturn, 1) := by decide +kernel
theorem dX4_workOut_50 : decode cX4_workOut 50 = .ok (.aload_n 0, 1) := by decide +kernel
theorem dX4_workOut_51 : decode cX4_workOut 51 = .ok (.getfield 11, 3) := by decide +kernel
theorem dX4_workOut_54 : decode cX4_workOut 54 = .ok (.aload_n 2, 1) := by decide +kernel
theorem dX4_workOut_55 : decode cX4_workOut 55 = .ok (.getfield 67, 3) := by decide +kernel
theorem dX4_workOut_58 : decode cX4_workOut 58 = .ok (.aaload, 1) := by decide +kernel
theorem dX4_workOut_59 : decode cX4_workOut 59 = .ok (.astore 4, 2) := by decide +kernel
theorem dX4_workOut_61 : decode cX4_workOut 61 = .ok (.aload_n 2, 1) := by decide +kernel
theorem dX4_workOut_62 : decode cX4_workOut 62 = .ok (.getfield 70, 3) := by decide +kernel
theorem dX4_workOut_65 : decode cX4_workOut 65 = .ok (.iconst (-1), 1) := by decide +kernel
theorem dX4_workOut_66 : decode cX4_workOut 66 = .ok (.if_icmp .ne 8, 3) := by decide +kernel
theorem dX4_workOut_69 : decode cX4_workOut 69 = .ok (.aload 4, 2) := by decide +kernel
theorem dX4_workOut_71 : decode cX4_workOut 71 = .ok (.goto 12, 3) := by decide +kernel
theorem dX4_workOut_74 : decode cX4_workOut 74 = .ok (.aload_n 0, 1) := by decide +kernel
theorem dX4_workOut_75 : decode cX4_workOut 75 = .ok (.getfield 11, 3) := by decide +kernel
theorem dX4_workOut_78 : decode cX4_workOut 78 = .ok (.aload_n 2, 1) := by decide +kernel
theorem dX4_workOut_79 : decode cX4_workOut 79 = .ok (.getfield 70, 3) := by decide +kernel
theorem dX4_workOut_82 : decode cX4_workOut 82 = .ok (.aaload, 1) := by decide +kernel
theorem dX4_workOut_83 : decode cX4_workOut 83 = .ok (.astore 5, 2) := by decide +kernel
theorem dX4_workOut_85 : decode cX4_workOut 85 = .ok (.aload_n 2, 1) := by decide +kernel
theorem dX4_workOut_86 : decode cX4_workOut 86 = .ok (.getfield 61, 3) := by decide +kernel
theorem dX4_workOut_89 : decode cX4_workOut 89 = .ok (.tableswitch 83 3 7 #[35, 44, 55, 65, 73], 35) := by decide +kernel
theorem dX4_workOut_124 : decode cX4_workOut 124 = .ok (.aload_n 0, 1) := by decide +kernel
theorem dX4_workOut_125 : decode cX4_workOut 125 = .ok (.aload_n 2, 1) := by decide +kernel
theorem dX4_workOut_126 : decode cX4_workOut 126 = .ok (.aload 4, 2) := by decide +kernel
theorem dX4_workOut_128 : decode cX4_workOut 128 = .ok (.aload_n 3, 1) := by decide +kernel
theorem dX4_workOut_129 : decode cX4_workOut 129 = .ok (.invokevirtual 83, 3) := by decide +kernel
theorem dX4_workOut_132 : decode cX4_workOut 132 = .ok (.ireturn, 1) := by decide +kernel
theorem dX4_workOut_133 : decode cX4_workOut 133 = .ok (.aload_n 0, 1) := by decide +kernel
theorem dX4_workOut_134 : decode cX4_workOut 134 = .ok (.aload_n 2, 1) := by decide +kernel
theorem dX4_workOut_135 : decode cX4_workOut 135 = .ok (.aload 4, 2) := by decide +kernel
theorem dX4_workOut_137 : decode cX4_workOut 137 = .ok (.aload 5, 2) := by decide +kernel
theorem dX4_workOut_139 : decode cX4_workOut 139 = .ok (.aload_n 3, 1) := by decide +kernel
theorem dX4_workOut_140 : decode cX4_workOut 140 = .ok (.invokevirtual 87, 3) := by decide +kernel
theorem dX4_workOut_143 : decode cX4_workOut 143 = .ok (.ireturn, 1) := by decide +kernel
theorem dX4_workOut_144 : decode cX4_workOut 144 = .ok (.aload_n 0, 1) := by decide +kernel
theorem dX4_workOut_145 : decode cX4_workOut 145 = .ok (.aload 4, 2) := by decide +kernel
theorem dX4_workOut_147 : decode cX4_workOut 147 = .ok (.aload 5, 2) := by decide +kernel
theorem dX4_workOut_149 : decode cX4_workOut 149 = .ok (.aload_n 3, 1) := by decide +kernel
theorem dX4_workOut_150 : decode cX4_workOut 150 = .ok (.invokevirtual 91, 3) := by decide +kernel
theorem dX4_workOut_153 : decode cX4_workOut 153 = .ok (.ireturn, 1) := by decide +kernel
theorem dX4_workOut_154 : decode cX4_workOut 154 = .ok (.aload_n 0, 1) := by decide +kernel
theorem dX4_workOut_155 : decode cX4_workOut 155 = .ok (.aload 4, 2) := by decide +kernel
theorem dX4_workOut_157 : decode cX4_workOut 157 = .ok (.aload_n 3, 1) := by decide +kernel
theorem dX4_workOut_158 : decode cX4_workOut 158 = .ok (.invokevirtual 95, 3) := by decide +kernel
theorem dX4_workOut_161 : decode cX4_workOut 161 = .ok (.ireturn, 1) := by decide +kernel
theorem dX4_workOut_162 : decode cX4_workOut 162 = .ok (.aload_n 0, 1) := by decide +kernel
theorem dX4_workOut_163 : decode cX4_workOut 163 = .ok (.aload 4, 2) := by decide +kernel
theorem dX4_workOut_165 : decode cX4_workOut 165 = .ok (.aload 5, 2) := by decide +kernel
theorem dX4_workOut_167 : decode cX4_workOut 167 = .ok (.aload_n 3, 1) := by decide +kernel
theorem dX4_workOut_168 : decode cX4_workOut 168 = .ok (.invokevirtual 99, 3) := by decide +kernel
theorem dX4_workOut_171 : decode cX4_workOut 171 = .ok (.ireturn, 1) := by decide +kernel
theorem dX4_workOut_172 : decode cX4_workOut 172 = .ok (.aload_n 0, 1) := by decide +kernel
theorem dX4_workOut_173 : decode cX4_workOut 173 = .ok (.aload_n 2, 1) := by decide +kernel
theorem dX4_workOut_174 : decode cX4_workOut 174 = .ok (.aload 4, 2) := by decide +kernel
theorem dX4_workOut_176 : decode cX4_workOut 176 = .ok (.aload_n 3, 1) := by decide +kernel
theorem dX4_workOut_177 : decode cX4_workOut 177 = .ok (.invokevirtual 102, 3) := by decide +kernel
theorem dX4_workOut_180 : decode cX4_workOut 180 = .ok (.ireturn, 1) := by decide +kernel
theorem dX4_workBase_0 : decode cX4_workBase 0 = .ok (.iconst 0, 1) := by decide +kernel
theorem dX4_workBase_1 : decode cX4_workBase 1 = .ok (.istore_n 3, 1) := by decide +kernel
theorem dX4_workBase_2 : decode cX4_workBase 2 = .ok (.iload_n 3, 1) := by decide +kernel
theorem dX4_workBase_3 : decode cX4_workBase 3 = .ok (.aload_n 0, 1) := by decide +kernel
theorem dX4_workBase_4 : decode cX4_workBase 4 = .ok (.getfield 41, 3) := by decide +kernel
theorem dX4_workBase_7 : decode cX4_workBase 7 = .ok (.getfield 105, 3) := by decide +kernel
theorem dX4_workBase_10 : decode cX4_workBase 10 = .ok (.if_icmp .ge 51, 3) := by decide +kernel
theorem dX4_workBase_13 : decode cX4_workBase 13 = .ok (.aload_n 0, 1) := by decide +kernel
theorem dX4_workBase_14 : decode cX4_workBase 14 = .ok (.getfield 41, 3) := by decide +kernel
theorem dX4_workBase_17 : decode cX4_workBase 17 = .ok (.getfield 110, 3) := by decide +kernel
theorem dX4_workBase_20 : decode cX4_workBase 20 = .ok (.iload_n 3, 1) := by decide +kernel
theorem dX4_workBase_21 : decode cX4_workBase 21 = .ok (.iaload, 1) := by decide +kernel
theorem dX4_workBase_22 : decode cX4_workBase 22 = .ok (.iload_n 1, 1) := by decide +kernel
theorem dX4_workBase_23 : decode cX4_workBase 23 = .ok (.if_icmp .eq 6, 3) := by decide +kernel
theorem dX4_workBase_26 : decode cX4_workBase 26 = .ok (.goto 29, 3) := by decide +kernel
theorem dX4_workBase_29 : decode cX4_workBase 29 = .ok (.aload_n 0, 1) := by decide +kernel
theorem dX4_workBase_30 : decode cX4_workBase 30 = .ok (.getfield 27, 3) := by decide +kernel
theorem dX4_workBase_33 : decode cX4_workBase 33 = .ok (.invokevirtual 113, 3) := by decide +kernel
theorem dX4_workBase_36 : decode cX4_workBase 36 = .ok (.astore 4, 2) := by decide +kernel
theorem dX4_workBase_38 : decode cX4_workBase 38 = .ok (.aload 4, 2) := by decide +kernel
theorem dX4_workBase_40 : decode cX4_workBase 40 = .ok (.ifnonnull 5, 3) := by decide +kernel
theorem dX4_workBase_43 : decode cX4_workBase 43 = .ok (.iconst 0, 1) := by decide +kernel
theorem dX4_workBase_44 : decode cX4_workBase 44 = .ok (.ireturn, 1) := by decide +kernel
theorem dX4_workBase_45 : decode cX4_workBase 45 = .ok (.aload 4, 2) := by decide +kernel
theorem dX4_workBase_47 : decode cX4_workBase 47 = .ok (.aload_n 0, 1) := by decide +kernel
theorem dX4_workBase_48 : decode cX4_workBase 48 = .ok (.getfield 41, 3) := by decide +kernel
theorem dX4_workBase_51 : decode cX4_workBase 51 = .ok (.iload_n 3, 1) := by decide +kernel
theorem dX4_workBase_52 : decode cX4_workBase 52 = .ok (.invokevirtual 117, 3) := by decide +kernel
theorem dX4_workBase_55 : decode cX4_workBase 55 = .ok (.iinc 3 1, 3) := by decide +kernel
theorem dX4_workBase_58 : decode cX4_workBase 58 = .ok (.goto (-56), 3) := by decide +kernel
theorem dX4_workBase_61 : decode cX4_workBase 61 = .ok (.aload_n 0, 1) := by decide +kernel
theorem dX4_workBase_62 : decode cX4_workBase 62 = .ok (.aload_n 2, 1) := by decide +kernel
theorem dX4_workBase_63 : decode cX4_workBase 63 = .ok (.invokevirtual 123, 3) := by decide +kernel
theorem dX4_workBase_66 : decode cX4_workBase 66 = .ok (.ireturn, 1) := by decide +kernel
theorem dX4_workFilter_0 : decode cX4_workFilter 0 = .ok (.iconst 0, 1) := by decide +kernel
theorem dX4_workFilter_1 : decode cX4_workFilter 1 = .ok (.istore 4, 2) := by decide +kernel
theorem dX4_workFilter_3 : decode cX4_workFilter 3 = .ok (.iload 4, 2) := by decide +kernel
theorem dX4_workFilter_5 : decode cX4_workFilter 5 = .ok (.aload_n 2, 1) := by decide +kernel
theorem dX4_workFilter_6 : decode cX4_workFilter 6 = .ok (.getfield 127, 3) := by decide +kernel
theorem dX4_workFilter_9 : decode cX4_workFilter 9 = .ok (.if_icmp .ge 79, 3) := by decide +kernel
theorem dX4_workFilter_12 : decode cX4_workFilter 12 = .ok (.aload_n 2, 1) := by decide +kernel
theorem dX4_workFilter_13 : decode cX4_workFilter 13 = .ok (.getfield 130, 3) := by decide +kernel
theorem dX4_workFilter_16 : decode cX4_workFilter 16 = .ok (.iload 4, 2) := by decide +kernel
theorem dX4_workFilter_18 : decode cX4_workFilter 18 = .ok (.aaload, 1) := by decide +kernel
theorem dX4_workFilter_19 : decode cX4_workFilter 19 = .ok (.getfield 134, 3) := by decide +kernel
theorem dX4_workFilter_22 : decode cX4_workFilter 22 = .ok (.astore 5, 2) := by decide +kernel
theorem dX4_workFilter_24 : decode cX4_workFilter 24 = .ok (.aload_n 1, 1) := by decide +kernel
theorem dX4_workFilter_25 : decode cX4_workFilter 25 = .ok (.getfield 61, 3) := by decide +kernel
theorem dX4_workFilter_28 : decode cX4_workFilter 28 = .ok (.iconst 1, 1) := by decide +kernel
theorem dX4_workFilter_29 : decode cX4_workFilter 29 = .ok (.if_icmp .ne 12, 3) := by decide +kernel
theorem dX4_workFilter_32 : decode cX4_workFilter 32 = .ok (.aload_n 1, 1) := by decide +kernel
theorem dX4_workFilter_33 : decode cX4_workFilter 33 = .ok (.getfield 135, 3) := by decide +kernel
theorem dX4_workFilter_36 : decode cX4_workFilter 36 = .ok (.iconst 1, 1) := by decide +kernel
theorem dX4_workFilter_37 : decode cX4_workFilter 37 = .ok (.iaload, 1) := by decide +kernel
theorem dX4_workFilter_38 : decode cX4_workFilter 38 = .ok (.goto 12, 3) := by decide +kernel
theorem dX4_workFilter_41 : decode cX4_workFilter 41 = .ok (.aload 5, 2) := by decide +kernel
theorem dX4_workFilter_43 : decode cX4_workFilter 43 = .ok (.aload_n 1, 1) := by decide +kernel
theorem dX4_workFilter_44 : decode cX4_workFilter 44 = .ok (.getfield 135, 3) := by decide +kernel
theorem dX4_workFilter_47 : decode cX4_workFilter 47 = .ok (.iconst 1, 1) := by decide +kernel
theorem dX4_workFilter_48 : decode cX4_workFilter 48 = .ok (.iaload, 1) := by decide +kernel
theorem dX4_workFilter_49 : decode cX4_workFilter 49 = .ok (.iaload, 1) := by decide +kernel
theorem dX4_workFilter_50 : decode cX4_workFilter 50 = .ok (.istore 6, 2) := by decide +kernel
theorem dX4_workFilter_52 : decode cX4_workFilter 52 = .ok (.aload 5, 2) := by decide +kernel
theorem dX4_workFilter_54 : decode cX4_workFilter 54 = .ok (.aload_n 1, 1) := by decide +kernel
theorem dX4_workFilter_55 : decode cX4_workFilter 55 = .ok (.getfield 135, 3) := by decide +kernel
theorem dX4_workFilter_58 : decode cX4_workFilter 58 = .ok (.iconst 0, 1) := by decide +kernel
theorem dX4_workFilter_59 : decode cX4_workFilter 59 = .ok (.iaload, 1) := by decide +kernel
theorem dX4_workFilter_60 : decode cX4_workFilter 60 = .ok (.iaload, 1) := by decide +kernel
theorem dX4_workFilter_61 : decode cX4_workFilter 61 = .ok (.iload 6, 2) := by decide +kernel
theorem dX4_workFilter_63 : decode cX4_workFilter 63 = .ok (.if_icmp .ne 19, 3) := by decide +kernel
theorem dX4_workFilter_66 : decode cX4_workFilter 66 = .ok (.aload_n 3, 1) := by decide +kernel
theorem dX4_workFilter_67 : decode cX4_workFilter 67 = .ok (.aload_n 2, 1) := by decide +kernel
theorem dX4_workFilter_68 : decode cX4_workFilter 68 = .ok (.getfield 130, 3) := by decide +kernel
theorem dX4_workFilter_71 : decode cX4_workFilter 71 = .ok (.iload 4, 2) := by decide +kernel
theorem dX4_workFilter_73 : decode cX4_workFilter 73 = .ok (.aaload, 1) := by decide +kernel
theorem dX4_workFilter_74 : decode cX4_workFilter 74 = .ok (.invokevirtual 138, 3) := by decide +kernel
theorem dX4_workFilter_77 : decode cX4_workFilter 77 = .ok (.ifCond .ne 5, 3) := by decide +kernel
theorem dX4_workFilter_80 : decode cX4_workFilter 80 = .ok (.iconst 0, 1) := by decide +kernel
theorem dX4_workFilter_81 : decode cX4_workFilter 81 = .ok (.ireturn, 1) := by decide +kernel
theorem dX4_workFilter_82 : decode cX4_workFilter 82 = .ok (.iinc 4 1, 3) := by decide +kernel
theorem dX4_workFilter_85 : decode cX4_workFilter 85 = .ok (.goto (-82), 3) := by decide +kernel
theorem dX4_workFilter_88 : decode cX4_workFilter 88 = .ok (.iconst 1, 1) := by decide +kernel
theorem dX4_workFilter_89 : decode cX4_workFilter 89 = .ok (.ireturn, 1) := by decide +kernel
theorem dX4_workCut_0 : decode cX4_workCut 0 = .ok (.iconst 0, 1) := by decide +kernel
theorem dX4_workCut_1 : decode cX4_workCut 1 = .ok (.istore 4, 2) := by decide +kernel
theorem dX4_workCut_3 : decode cX4_workCut 3 = .ok (.iload 4, 2) := by decide +kernel
theorem dX4_workCut_5 : decode cX4_workCut 5 = .ok (.aload_n 2, 1) := by decide +kernel
theorem dX4_workCut_6 : decode cX4_workCut 6 = .ok (.getfield 127, 3) := by decide +kernel
theorem dX4_workCut_9 : decode cX4_workCut 9 = .ok (.if_icmp .ge 81, 3) := by decide +kernel
theorem dX4_workCut_12 : decode cX4_workCut 12 = .ok (.aload_n 0, 1) := by decide +kernel
theorem dX4_workCut_13 : decode cX4_workCut 13 = .ok (.getfield 27, 3) := by decide +kernel
theorem dX4_workCut_16 : decode cX4_workCut 16 = .ok (.invokevirtual 113, 3) := by decide +kernel
theorem dX4_workCut_19 : decode cX4_workCut 19 = .ok (.astore 5, 2) := by decide +kernel
theorem dX4_workCut_21 : decode cX4_workCut 21 = .ok (.aload 5, 2) := by decide +kernel
theorem dX4_workCut_23 : decode cX4_workCut 23 = .ok (.ifnonnull 5, 3) := by decide +kernel
theorem dX4_workCut_26 : decode cX4_workCut 26 = .ok (.iconst 0, 1) := by decide +kernel
theorem dX4_workCut_27 : decode cX4_workCut 27 = .ok (.ireturn, 1) := by decide +kernel
theorem dX4_workCut_28 : decode cX4_workCut 28 = .ok (.iconst 0, 1) := by decide +kernel
theorem dX4_workCut_29 : decode cX4_workCut 29 = .ok (.istore 6, 2) := by decide +kernel
theorem dX4_workCut_31 : decode cX4_workCut 31 = .ok (.iload 6, 2) := by decide +kernel
theorem dX4_workCut_33 : decode cX4_workCut 33 = .ok (.aload_n 1, 1) := by decide +kernel
theorem dX4_workCut_34 : decode cX4_workCut 34 = .ok (.getfield 73, 3) := by decide +kernel
theorem dX4_workCut_37 : decode cX4_workCut 37 = .ok (.if_icmp .ge 35, 3) := by decide +kernel
theorem dX4_workCut_40 : decode cX4_workCut 40 = .ok (.aload 5, 2) := by decide +kernel
theorem dX4_workCut_42 : decode cX4_workCut 42 = .ok (.getfield 134, 3) := by decide +kernel
theorem dX4_workCut_45 : decode cX4_workCut 45 = .ok (.iload 6, 2) := by decide +kernel
theorem dX4_workCut_47 : decode cX4_workCut 47 = .ok (.aload_n 2, 1) := by decide +kernel
theorem dX4_workCut_48 : decode cX4_workCut 48 = .ok (.getfield 130, 3) := by decide +kernel
theorem dX4_workCut_51 : decode cX4_workCut 51 = .ok (.iload 4, 2) := by decide +kernel
theorem dX4_workCut_53 : decode cX4_workCut 53 = .ok (.aaload, 1) := by decide +kernel
theorem dX4_workCut_54 : decode cX4_workCut 54 = .ok (.getfield 134, 3) := by decide +kernel
theorem dX4_workCut_57 : decode cX4_workCut 57 = .ok (.aload_n 1, 1) := by decide +kernel
theorem dX4_workCut_58 : decode cX4_workCut 58 = .ok (.getfield 135, 3) := by decide +kernel
theorem dX4_workCut_61 : decode cX4_workCut 61 = .ok (.iload 6, 2) := by decide +kernel
theorem dX4_workCut_63 : decode cX4_workCut 63 = .ok (.iaload, 1) := by decide +kernel
theorem dX4_workCut_64 : decode cX4_workCut 64 = .ok (.iaload, 1) := by decide +kernel
theorem dX4_workCut_65 : decode cX4_workCut 65 = .ok (.iastore, 1) := by decide +kernel
theorem dX4_workCut_66 : decode cX4_workCut 66 = .ok (.iinc 6 1, 3) := by decide +kernel
theorem dX4_workCut_69 : decode cX4_workCut 69 = .ok (.goto (-38), 3) := by decide +kernel
theorem dX4_workCut_72 : decode cX4_workCut 72 = .ok (.aload 5, 2) := by decide +kernel
theorem dX4_workCut_74 : decode cX4_workCut 74 = .ok (.aload_n 2, 1) := by decide +kernel
theorem dX4_workCut_75 : decode cX4_workCut 75 = .ok (.getfield 130, 3) := by decide +kernel
theorem dX4_workCut_78 : decode cX4_workCut 78 = .ok (.iload 4, 2) := by decide +kernel
theorem dX4_workCut_80 : decode cX4_workCut 80 = .ok (.aaload, 1) := by decide +kernel
theorem dX4_workCut_81 : decode cX4_workCut 81 = .ok (.invokevirtual 142, 3) := by decide +kernel
theorem dX4_workCut_84 : decode cX4_workCut 84 = .ok (.iinc 4 1, 3) := by decide +kernel
theorem dX4_workCut_87 : decode cX4_workCut 87 = .ok (.goto (-84), 3) := by decide +kernel
theorem dX4_workCut_90 : decode cX4_workCut 90 = .ok (.aload_n 0, 1) := by decide +kernel
theorem dX4_workCut_91 : decode cX4_workCut 91 = .ok (.aload_n 3, 1) := by decide +kernel
theorem dX4_workCut_92 : decode cX4_workCut 92 = .ok (.invokevirtual 123, 3) := by decide +kernel
theorem dX4_workCut_95 : decode cX4_workCut 95 = .ok (.ireturn, 1) := by decide +kernel
theorem dX4_workEither_0 : decode cX4_workEither 0 = .ok (.iconst 0, 1) := by decide +kernel
theorem dX4_workEither_1 : decode cX4_workEither 1 = .ok (.istore 4, 2) := by decide +kernel
theorem dX4_workEither_3 : decode cX4_workEither 3 = .ok (.iload 4, 2) := by decide +kernel
theorem dX4_workEither_5 : decode cX4_workEither 5 = .ok (.aload_n 1, 1) := by decide +kernel
theorem dX4_workEither_6 : decode cX4_workEither 6 = .ok (.getfield 127, 3) := by decide +kernel
theorem dX4_workEither_9 : decode cX4_workEither 9 = .ok (.if_icmp .ge 24, 3) := by decide +kernel
theorem dX4_workEither_12 : decode cX4_workEither 12 = .ok (.aload_n 0, 1) := by decide +kernel
theorem dX4_workEither_13 : decode cX4_workEither 13 = .ok (.getfield 27, 3) := by decide +kernel
theorem dX4_workEither_16 : decode cX4_workEither 16 = .ok (.aload_n 1, 1) := by decide +kernel
theorem dX4_workEither_17 : decode cX4_workEither 17 = .ok (.getfield 130, 3) := by decide +kernel
theorem dX4_workEither_20 : decode cX4_workEither 20 = .ok (.iload 4, 2) := by decide +kernel
theorem dX4_workEither_22 : decode cX4_workEither 22 = .ok (.aaload, 1) := by decide +kernel
theorem dX4_workEither_23 : decode cX4_workEither 23 = .ok (.invokevirtual 138, 3) := by decide +kernel
theorem dX4_workEither_26 : decode cX4_workEither 26 = .ok (.pop, 1) := by decide +kernel
theorem dX4_workEither_27 : decode cX4_workEither 27 = .ok (.iinc 4 1, 3) := by decide +kernel
theorem dX4_workEither_30 : decode cX4_workEither 30 = .ok (.goto (-27), 3) := by decide +kernel
theorem dX4_workEither_33 : decode cX4_workEither 33 = .ok (.iconst 0, 1) := by decide +kernel
theorem dX4_workEither_34 : decode cX4_workEither 34 = .ok (.istore 4, 2) := by decide +kernel
theorem dX4_workEither_36 : decode cX4_workEither 36 = .ok (.iload 4, 2) := by decide +kernel
theorem dX4_workEither_38 : decode cX4_workEither 38 = .ok (.aload_n 2, 1) := by decide +kernel
theorem dX4_workEither_39 : decode cX4_workEither 39 = .ok (.getfield 127, 3) := by decide +kernel
theorem dX4_workEither_42 : decode cX4_workEither 42 = .ok (.if_icmp .ge 24, 3) := by decide +kernel
theorem dX4_workEither_45 : decode cX4_workEither 45 = .ok (.aload_n 0, 1) := by decide +kernel
theorem dX4_workEither_46 : decode cX4_workEither 46 = .ok (.getfield 27, 3) := by decide +kernel
theorem dX4_workEither_49 : decode cX4_workEither 49 = .ok (.aload_n 2, 1) := by decide +kernel
theorem dX4_workEither_50 : decode cX4_workEither 50 = .ok (.getfield 130, 3) := by decide +kernel
theorem dX4_workEither_53 : decode cX4_workEither 53 = .ok (.iload 4, 2) := by decide +kernel
theorem dX4_workEither_55 : decode cX4_workEither 55 = .ok (.aaload, 1) := by decide +kernel
theorem dX4_workEither_56 : decode cX4_workEither 56 = .ok (.invokevirtual 138, 3) := by decide +kernel
theorem dX4_workEither_59 : decode cX4_workEither 59 = .ok (.pop, 1) := by decide +kernel
theorem dX4_workEither_60 : decode cX4_workEither 60 = .ok (.iinc 4 1, 3) := by decide +kernel
theorem dX4_workEither_63 : decode cX4_workEither 63 = .ok (.goto (-27), 3) := by decide +kernel
theorem dX4_workEither_66 : decode cX4_workEither 66 = .ok (.aload_n 0, 1) := by decide +kernel
theorem dX4_workEither_67 : decode cX4_workEither 67 = .ok (.aload_n 3, 1) := by decide +kernel
theorem dX4_workEither_68 : decode cX4_workEither 68 = .ok (.invokevirtual 123, 3) := by decide +kernel
theorem dX4_workEither_71 : decode cX4_workEither 71 = .ok (.ireturn, 1) := by decide +kernel
theorem dX4_melt_0 : decode cX4_melt 0 = .ok (.iconst 0, 1) := by decide +kernel
theorem dX4_melt_1 : decode cX4_melt 1 = .ok (.istore_n 2, 1) := by decide +kernel
theorem dX4_melt_2 : decode cX4_melt 2 = .ok (.iload_n 2, 1) := by decide +kernel
theorem dX4_melt_3 : decode cX4_melt 3 = .ok (.aload_n 0, 1) := by decide +kernel
theorem dX4_melt_4 : decode cX4_melt 4 = .ok (.getfield 27, 3) := by decide +kernel
theorem dX4_melt_7 : decode cX4_melt 7 = .ok (.getfield 127, 3) := by decide +kernel
theorem dX4_melt_10 : decode cX4_melt 10 = .ok (.if_icmp .ge 30, 3) := by decide +kernel
theorem dX4_melt_13 : decode cX4_melt 13 = .ok (.aload_n 1, 1) := by decide +kernel
theorem dX4_melt_14 : decode cX4_melt 14 = .ok (.aload_n 0, 1) := by decide +kernel
theorem dX4_melt_15 : decode cX4_melt 15 = .ok (.getfield 27, 3) := by decide +kernel
theorem dX4_melt_18 : decode cX4_melt 18 = .ok (.getfield 130, 3) := by decide +kernel
theorem dX4_melt_21 : decode cX4_melt 21 = .ok (.iload_n 2, 1) := by decide +kernel
theorem dX4_melt_22 : decode cX4_melt 22 = .ok (.aaload, 1) := by decide +kernel
theorem dX4_melt_23 : decode cX4_melt 23 = .ok (.getfield 134, 3) := by decide +kernel
theorem dX4_melt_26 : decode cX4_melt 26 = .ok (.invokevirtual 146, 3) := by decide +kernel
theorem dX4_melt_29 : decode cX4_melt 29 = .ok (.ifCond .ne 5, 3) := by decide +kernel
theorem dX4_melt_32 : decode cX4_melt 32 = .ok (.iconst 0, 1) := by decide +kernel
theorem dX4_melt_33 : decode cX4_melt 33 = .ok (.ireturn, 1) := by decide +kernel
theorem dX4_melt_34 : decode cX4_melt 34 = .ok (.iinc 2 1, 3) := by decide +kernel
theorem dX4_melt_37 : decode cX4_melt 37 = .ok (.goto (-35), 3) := by decide +kernel
theorem dX4_melt_40 : decode cX4_melt 40 = .ok (.iconst 0, 1) := by decide +kernel
theorem dX4_melt_41 : decode cX4_melt 41 = .ok (.istore_n 2, 1) := by decide +kernel
theorem dX4_melt_42 : decode cX4_melt 42 = .ok (.iload_n 2, 1) := by decide +kernel
theorem dX4_melt_43 : decode cX4_melt 43 = .ok (.aload_n 0, 1) := by decide +kernel
theorem dX4_melt_44 : decode cX4_melt 44 = .ok (.getfield 27, 3) := by decide +kernel
theorem dX4_melt_47 : decode cX4_melt 47 = .ok (.getfield 127, 3) := by decide +kernel
theorem dX4_melt_50 : decode cX4_melt 50 = .ok (.if_icmp .ge 31, 3) := by decide +kernel
theorem dX4_melt_53 : decode cX4_melt 53 = .ok (.aload_n 0, 1) := by decide +kernel
theorem dX4_melt_54 : decode cX4_melt 54 = .ok (.getfield 34, 3) := by decide +kernel
theorem dX4_melt_57 : decode cX4_melt 57 = .ok (.iload_n 2, 1) := by decide +kernel
theorem dX4_melt_58 : decode cX4_melt 58 = .ok (.aload_n 1, 1) := by decide +kernel
theorem dX4_melt_59 : decode cX4_melt 59 = .ok (.aload_n 0, 1) := by decide +kernel
theorem dX4_melt_60 : decode cX4_melt 60 = .ok (.getfield 27, 3) := by decide +kernel
theorem dX4_melt_63 : decode cX4_melt 63 = .ok (.getfield 130, 3) := by decide +kernel
theorem dX4_melt_66 : decode cX4_melt 66 = .ok (.iload_n 2, 1) := by decide +kernel
theorem dX4_melt_67 : decode cX4_melt 67 = .ok (.aaload, 1) := by decide +kernel
theorem dX4_melt_68 : decode cX4_melt 68 = .ok (.getfield 134, 3) := by decide +kernel
theorem dX4_melt_71 : decode cX4_melt 71 = .ok (.invokevirtual 150, 3) := by decide +kernel
theorem dX4_melt_74 : decode cX4_melt 74 = .ok (.iastore, 1) := by decide +kernel
theorem dX4_melt_75 : decode cX4_melt 75 = .ok (.iinc 2 1, 3) := by decide +kernel
theorem dX4_melt_78 : decode cX4_melt 78 = .ok (.goto (-36), 3) := by decide +kernel
theorem dX4_melt_81 : decode cX4_melt 81 = .ok (.iconst 0, 1) := by decide +kernel
theorem dX4_melt_82 : decode cX4_melt 82 = .ok (.istore_n 2, 1) := by decide +kernel
theorem dX4_melt_83 : decode cX4_melt 83 = .ok (.iload_n 2, 1) := by decide +kernel
theorem dX4_melt_84 : decode cX4_melt 84 = .ok (.aload_n 1, 1) := by decide +kernel
theorem dX4_melt_85 : decode cX4_melt 85 = .ok (.getfield 127, 3) := by decide +kernel
theorem dX4_melt_88 : decode cX4_melt 88 = .ok (.if_icmp .ge 95, 3) := by decide +kernel
theorem dX4_melt_91 : decode cX4_melt 91 = .ok (.aload_n 0, 1) := by decide +kernel
theorem dX4_melt_92 : decode cX4_melt 92 = .ok (.getfield 20, 3) := by decide +kernel
theorem dX4_melt_95 : decode cX4_melt 95 = .ok (.invokevirtual 154, 3) := by decide +kernel
theorem dX4_melt_98 : decode cX4_melt 98 = .ok (.iconst 0, 1) := by decide +kernel
theorem dX4_melt_99 : decode cX4_melt 99 = .ok (.istore_n 3, 1) := by decide +kernel
theorem dX4_melt_100 : decode cX4_melt 100 = .ok (.iload_n 3, 1) := by decide +kernel
theorem dX4_melt_101 : decode cX4_melt 101 = .ok (.aload_n 0, 1) := by decide +kernel
theorem dX4_melt_102 : decode cX4_melt 102 = .ok (.getfield 27, 3) := by decide +kernel
theorem dX4_melt_105 : decode cX4_melt 105 = .ok (.getfield 127, 3) := by decide +kernel
theorem dX4_melt_108 : decode cX4_melt 108 = .ok (.if_icmp .ge 51, 3) := by decide +kernel
theorem dX4_melt_111 : decode cX4_melt 111 = .ok (.aload_n 0, 1) := by decide +kernel
theorem dX4_melt_112 : decode cX4_melt 112 = .ok (.getfield 34, 3) := by decide +kernel
theorem dX4_melt_115 : decode cX4_melt 115 = .ok (.iload_n 3, 1) := by decide +kernel
theorem dX4_melt_116 : decode cX4_melt 116 = .ok (.iaload, 1) := by decide +kernel
theorem dX4_melt_117 : decode cX4_melt 117 = .ok (.iload_n 2, 1) := by decide +kernel
theorem dX4_melt_118 : decode cX4_melt 118 = .ok (.if_icmp .ne 35, 3) := by decide +kernel
theorem dX4_melt_121 : decode cX4_melt 121 = .ok (.aload_n 0, 1) := by decide +kernel
theorem dX4_melt_122 : decode cX4_melt 122 = .ok (.getfield 20, 3) := by decide +kernel
theorem dX4_melt_125 : decode cX4_melt 125 = .ok (.aload_n 0, 1) := by decide +kernel
theorem dX4_melt_126 : decode cX4_melt 126 = .ok (.getfield 27, 3) := by decide +kernel
theorem dX4_melt_129 : decode cX4_melt 129 = .ok (.getfield 130, 3) := by decide +kernel
theorem dX4_melt_132 : decode cX4_melt 132 = .ok (.iload_n 3, 1) := by decide +kernel
theorem dX4_melt_133 : decode cX4_melt 133 = .ok (.aaload, 1) := by decide +kernel
theorem dX4_melt_134 : decode cX4_melt 134 = .ok (.invokevirtual 156, 3) := by decide +kernel
theorem dX4_melt_137 : decode cX4_melt 137 = .ok (.aload_n 0, 1) := by decide +kernel
theorem dX4_melt_138 : decode cX4_melt 138 = .ok (.getfield 20, 3) := by decide +kernel
theorem dX4_melt_141 : decode cX4_melt 141 = .ok (.aload_n 0, 1) := by decide +kernel
theorem dX4_melt_142 : decode cX4_melt 142 = .ok (.getfield 27, 3) := by decide +kernel
theorem dX4_melt_145 : decode cX4_melt 145 = .ok (.getfield 130, 3) := by decide +kernel
theorem dX4_melt_148 : decode cX4_melt 148 = .ok (.iload_n 3, 1) := by decide +kernel
theorem dX4_melt_149 : decode cX4_melt 149 = .ok (.aaload, 1) := by decide +kernel
theorem dX4_melt_150 : decode cX4_melt 150 = .ok (.invokevirtual 159, 3) := by decide +kernel
theorem dX4_melt_153 : decode cX4_melt 153 = .ok (.iinc 3 1, 3) := by decide +kernel
theorem dX4_melt_156 : decode cX4_melt 156 = .ok (.goto (-56), 3) := by decide +kernel
theorem dX4_melt_159 : decode cX4_melt 159 = .ok (.aload_n 0, 1) := by decide +kernel
theorem dX4_melt_160 : decode cX4_melt 160 = .ok (.getfield 20, 3) := by decide +kernel
theorem dX4_melt_163 : decode cX4_melt 163 = .ok (.aload_n 1, 1) := by decide +kernel
theorem dX4_melt_164 : decode cX4_melt 164 = .ok (.getfield 130, 3) := by decide +kernel
theorem dX4_melt_167 : decode cX4_melt 167 = .ok (.iload_n 2, 1) := by decide +kernel
theorem dX4_melt_168 : decode cX4_melt 168 = .ok (.aaload, 1) := by decide +kernel
theorem dX4_melt_169 : decode cX4_melt 169 = .ok (.invokevirtual 162, 3) := by decide +kernel
theorem dX4_melt_172 : decode cX4_melt 172 = .ok (.ifCond .ne 5, 3) := by decide +kernel
theorem dX4_melt_175 : decode cX4_melt 175 = .ok (.iconst 0, 1) := by decide +kernel
theorem dX4_melt_176 : decode cX4_melt 176 = .ok (.ireturn, 1) := by decide +kernel
theorem dX4_melt_177 : decode cX4_melt 177 = .ok (.iinc 2 1, 3) := by decide +kernel
theorem dX4_melt_180 : decode cX4_melt 180 = .ok (.goto (-97), 3) := by decide +kernel
theorem dX4_melt_183 : decode cX4_melt 183 = .ok (.iconst 1, 1) := by decide +kernel
theorem dX4_melt_184 : decode cX4_melt 184 = .ok (.ireturn, 1) := by decide +kernel
theorem dX4_workPair_0 : decode cX4_workPair 0 = .ok (.iconst 0, 1) := by decide +kernel
theorem dX4_workPair_1 : decode cX4_workPair 1 = .ok (.istore 5, 2) := by decide +kernel
theorem dX4_workPair_3 : decode cX4_workPair 3 = .ok (.iload 5, 2) := by decide +kernel
theorem dX4_workPair_5 : decode cX4_workPair 5 = .ok (.aload_n 2, 1) := by decide +kernel
theorem dX4_workPair_6 : decode cX4_workPair 6 = .ok (.getfield 127, 3) := by decide +kernel
theorem dX4_workPair_9 : decode cX4_workPair 9 = .ok (.if_icmp .ge 112, 3) := by decide +kernel
theorem dX4_workPair_12 : decode cX4_workPair 12 = .ok (.iconst 0, 1) := by decide +kernel
theorem dX4_workPair_13 : decode cX4_workPair 13 = .ok (.istore 6, 2) := by decide +kernel
theorem dX4_workPair_15 : decode cX4_workPair 15 = .ok (.iload 6, 2) := by decide +kernel
theorem dX4_workPair_17 : decode cX4_workPair 17 = .ok (.aload_n 3, 1) := by decide +kernel
theorem dX4_workPair_18 : decode cX4_workPair 18 = .ok (.getfield 127, 3) := by decide +kernel
theorem dX4_workPair_21 : decode cX4_workPair 21 = .ok (.if_icmp .ge 94, 3) := by decide +kernel
theorem dX4_workPair_24 : decode cX4_workPair 24 = .ok (.aload_n 2, 1) := by decide +kernel
theorem dX4_workPair_25 : decode cX4_workPair 25 = .ok (.getfield 130, 3) := by decide +kernel
theorem dX4_workPair_28 : decode cX4_workPair 28 = .ok (.iload 5, 2) := by decide +kernel
theorem dX4_workPair_30 : decode cX4_workPair 30 = .ok (.aaload, 1) := by decide +kernel
theorem dX4_workPair_31 : decode cX4_workPair 31 = .ok (.getfield 134, 3) := by decide +kernel
theorem dX4_workPair_34 : decode cX4_workPair 34 = .ok (.aload_n 1, 1) := by decide +kernel
theorem dX4_workPair_35 : decode cX4_workPair 35 = .ok (.getfield 135, 3) := by decide +kernel
theorem dX4_workPair_38 : decode cX4_workPair 38 = .ok (.iconst 0, 1) := by decide +kernel
theorem dX4_workPair_39 : decode cX4_workPair 39 = .ok (.iaload, 1) := by decide +kernel
theorem dX4_workPair_40 : decode cX4_workPair 40 = .ok (.iaload, 1) := by decide +kernel
theorem dX4_workPair_41 : decode cX4_workPair 41 = .ok (.aload_n 3, 1) := by decide +kernel
theorem dX4_workPair_42 : decode cX4_workPair 42 = .ok (.getfield 130, 3) := by decide +kernel
theorem dX4_workPair_45 : decode cX4_workPair 45 = .ok (.iload 6, 2) := by decide +kernel
theorem dX4_workPair_47 : decode cX4_workPair 47 = .ok (.aaload, 1) := by decide +kernel
theorem dX4_workPair_48 : decode cX4_workPair 48 = .ok (.getfield 134, 3) := by decide +kernel
theorem dX4_workPair_51 : decode cX4_workPair 51 = .ok (.aload_n 1, 1) := by decide +kernel
theorem dX4_workPair_52 : decode cX4_workPair 52 = .ok (.getfield 135, 3) := by decide +kernel
theorem dX4_workPair_55 : decode cX4_workPair 55 = .ok (.iconst 1, 1) := by decide +kernel
theorem dX4_workPair_56 : decode cX4_workPair 56 = .ok (.iaload, 1) := by decide +kernel
theorem dX4_workPair_57 : decode cX4_workPair 57 = .ok (.iaload, 1) := by decide +kernel
theorem dX4_workPair_58 : decode cX4_workPair 58 = .ok (.if_icmp .eq 6, 3) := by decide +kernel
theorem dX4_workPair_61 : decode cX4_workPair 61 = .ok (.goto 48, 3) := by decide +kernel
theorem dX4_workPair_64 : decode cX4_workPair 64 = .ok (.aload 4, 2) := by decide +kernel
theorem dX4_workPair_66 : decode cX4_workPair 66 = .ok (.invokevirtual 113, 3) := by decide +kernel
theorem dX4_workPair_69 : decode cX4_workPair 69 = .ok (.astore 7, 2) := by decide +kernel
theorem dX4_workPair_71 : decode cX4_workPair 71 = .ok (.aload 7, 2) := by decide +kernel
theorem dX4_workPair_73 : decode cX4_workPair 73 = .ok (.ifnull 34, 3) := by decide +kernel
theorem dX4_workPair_76 : decode cX4_workPair 76 = .ok (.aload_n 0, 1) := by decide +kernel
theorem dX4_workPair_77 : decode cX4_workPair 77 = .ok (.aload_n 2, 1) := by decide +kernel
theorem dX4_workPair_78 : decode cX4_workPair 78 = .ok (.getfield 130, 3) := by decide +kernel
theorem dX4_workPair_81 : decode cX4_workPair 81 = .ok (.iload 5, 2) := by decide +kernel
theorem dX4_workPair_83 : decode cX4_workPair 83 = .ok (.aaload, 1) := by decide +kernel
theorem dX4_workPair_84 : decode cX4_workPair 84 = .ok (.aload_n 2, 1) := by decide +kernel
theorem dX4_workPair_85 : decode cX4_workPair 85 = .ok (.getfield 165, 3) := by decide +kernel
theorem dX4_workPair_88 : decode cX4_workPair 88 = .ok (.aload_n 3, 1) := by decide +kernel
theorem dX4_workPair_89 : decode cX4_workPair 89 = .ok (.getfield 130, 3) := by decide +kernel
theorem dX4_workPair_92 : decode cX4_workPair 92 = .ok (.iload 6, 2) := by decide +kernel
theorem dX4_workPair_94 : decode cX4_workPair 94 = .ok (.aaload, 1) := by decide +kernel
theorem dX4_workPair_95 : decode cX4_workPair 95 = .ok (.aload_n 3, 1) := by decide +kernel
theorem dX4_workPair_96 : decode cX4_workPair 96 = .ok (.getfield 165, 3) := by decide +kernel
theorem dX4_workPair_99 : decode cX4_workPair 99 = .ok (.aload 7, 2) := by decide +kernel
theorem dX4_workPair_101 : decode cX4_workPair 101 = .ok (.invokevirtual 166, 3) := by decide +kernel
theorem dX4_workPair_104 : decode cX4_workPair 104 = .ok (.ifCond .ne 5, 3) := by decide +kernel
theorem dX4_workPair_107 : decode cX4_workPair 107 = .ok (.iconst 0, 1) := by decide +kernel
theorem dX4_workPair_108 : decode cX4_workPair 108 = .ok (.ireturn, 1) := by decide +kernel
theorem dX4_workPair_109 : decode cX4_workPair 109 = .ok (.iinc 6 1, 3) := by decide +kernel
theorem dX4_workPair_112 : decode cX4_workPair 112 = .ok (.goto (-97), 3) := by decide +kernel
theorem dX4_workPair_115 : decode cX4_workPair 115 = .ok (.iinc 5 1, 3) := by decide +kernel
theorem dX4_workPair_118 : decode cX4_workPair 118 = .ok (.goto (-115), 3) := by decide +kernel
theorem dX4_workPair_121 : decode cX4_workPair 121 = .ok (.iconst 1, 1) := by decide +kernel
theorem dX4_workPair_122 : decode cX4_workPair 122 = .ok (.ireturn, 1) := by decide +kernel
theorem dX4_join_0 : decode cX4_join 0 = .ok (.aload_n 1, 1) := by decide +kernel
theorem dX4_join_1 : decode cX4_join 1 = .ok (.getfield 134, 3) := by decide +kernel
theorem dX4_join_4 : decode cX4_join 4 = .ok (.iconst 0, 1) := by decide +kernel
theorem dX4_join_5 : decode cX4_join 5 = .ok (.aload 5, 2) := by decide +kernel
theorem dX4_join_7 : decode cX4_join 7 = .ok (.getfield 134, 3) := by decide +kernel
theorem dX4_join_10 : decode cX4_join 10 = .ok (.iconst 0, 1) := by decide +kernel
theorem dX4_join_11 : decode cX4_join 11 = .ok (.iload_n 2, 1) := by decide +kernel
theorem dX4_join_12 : decode cX4_join 12 = .ok (.invokestatic 170, 3) := by decide +kernel
theorem dX4_join_15 : decode cX4_join 15 = .ok (.aload_n 3, 1) := by decide +kernel
theorem dX4_join_16 : decode cX4_join 16 = .ok (.getfield 134, 3) := by decide +kernel
theorem dX4_join_19 : decode cX4_join 19 = .ok (.iconst 0, 1) := by decide +kernel
theorem dX4_join_20 : decode cX4_join 20 = .ok (.aload 5, 2) := by decide +kernel
theorem dX4_join_22 : decode cX4_join 22 = .ok (.getfield 134, 3) := by decide +kernel
theorem dX4_join_25 : decode cX4_join 25 = .ok (.iload_n 2, 1) := by decide +kernel
theorem dX4_join_26 : decode cX4_join 26 = .ok (.iload 4, 2) := by decide +kernel
theorem dX4_join_28 : decode cX4_join 28 = .ok (.invokestatic 170, 3) := by decide +kernel
theorem dX4_join_31 : decode cX4_join 31 = .ok (.aload 5, 2) := by decide +kernel
theorem dX4_join_33 : decode cX4_join 33 = .ok (.aload_n 1, 1) := by decide +kernel
theorem dX4_join_34 : decode cX4_join 34 = .ok (.getfield 176, 3) := by decide +kernel
theorem dX4_join_37 : decode cX4_join 37 = .ok (.aload_n 3, 1) := by decide +kernel
theorem dX4_join_38 : decode cX4_join 38 = .ok (.getfield 176, 3) := by decide +kernel
theorem dX4_join_41 : decode cX4_join 41 = .ok (.lmul, 1) := by decide +kernel
theorem dX4_join_42 : decode cX4_join 42 = .ok (.putfield 176, 3) := by decide +kernel
theorem dX4_join_45 : decode cX4_join 45 = .ok (.aload 5, 2) := by decide +kernel
theorem dX4_join_47 : decode cX4_join 47 = .ok (.aload_n 1, 1) := by decide +kernel
theorem dX4_join_48 : decode cX4_join 48 = .ok (.getfield 180, 3) := by decide +kernel
theorem dX4_join_51 : decode cX4_join 51 = .ok (.aload_n 3, 1) := by decide +kernel
theorem dX4_join_52 : decode cX4_join 52 = .ok (.getfield 180, 3) := by decide +kernel
theorem dX4_join_55 : decode cX4_join 55 = .ok (.invokestatic 183, 3) := by decide +kernel
theorem dX4_join_58 : decode cX4_join 58 = .ok (.putfield 180, 3) := by decide +kernel
theorem dX4_join_61 : decode cX4_join 61 = .ok (.aload 5, 2) := by decide +kernel
theorem dX4_join_63 : decode cX4_join 63 = .ok (.aload_n 1, 1) := by decide +kernel
theorem dX4_join_64 : decode cX4_join 64 = .ok (.getfield 187, 3) := by decide +kernel
theorem dX4_join_67 : decode cX4_join 67 = .ok (.aload_n 3, 1) := by decide +kernel
theorem dX4_join_68 : decode cX4_join 68 = .ok (.getfield 187, 3) := by decide +kernel
theorem dX4_join_71 : decode cX4_join 71 = .ok (.invokestatic 190, 3) := by decide +kernel
theorem dX4_join_74 : decode cX4_join 74 = .ok (.putfield 187, 3) := by decide +kernel
theorem dX4_join_77 : decode cX4_join 77 = .ok (.aload_n 0, 1) := by decide +kernel
theorem dX4_join_78 : decode cX4_join 78 = .ok (.getfield 20, 3) := by decide +kernel
theorem dX4_join_81 : decode cX4_join 81 = .ok (.invokevirtual 154, 3) := by decide +kernel
theorem dX4_join_84 : decode cX4_join 84 = .ok (.aload_n 0, 1) := by decide +kernel
theorem dX4_join_85 : decode cX4_join 85 = .ok (.getfield 20, 3) := by decide +kernel
theorem dX4_join_88 : decode cX4_join 88 = .ok (.aload_n 1, 1) := by decide +kernel
theorem dX4_join_89 : decode cX4_join 89 = .ok (.aload_n 3, 1) := by decide +kernel
theorem dX4_join_90 : decode cX4_join 90 = .ok (.invokevirtual 196, 3) := by decide +kernel
theorem dX4_join_93 : decode cX4_join 93 = .ok (.aload_n 0, 1) := by decide +kernel
theorem dX4_join_94 : decode cX4_join 94 = .ok (.getfield 20, 3) := by decide +kernel
theorem dX4_join_97 : decode cX4_join 97 = .ok (.aload 5, 2) := by decide +kernel
theorem dX4_join_99 : decode cX4_join 99 = .ok (.invokevirtual 200, 3) := by decide +kernel
theorem dX4_join_102 : decode cX4_join 102 = .ok (.ireturn, 1) := by decide +kernel
theorem dX4_costOfBoth_0 : decode cX4_costOfBoth 0 = .ok (.iload_n 0, 1) := by decide +kernel
theorem dX4_costOfBoth_1 : decode cX4_costOfBoth 1 = .ok (.iload_n 1, 1) := by decide +kernel
theorem dX4_costOfBoth_2 : decode cX4_costOfBoth 2 = .ok (.iadd, 1) := by decide +kernel
theorem dX4_costOfBoth_3 : decode cX4_costOfBoth 3 = .ok (.ldc 203, 2) := by decide +kernel
theorem dX4_costOfBoth_5 : decode cX4_costOfBoth 5 = .ok (.invokestatic 204, 3) := by decide +kernel
theorem dX4_costOfBoth_8 : decode cX4_costOfBoth 8 = .ok (.ireturn, 1) := by decide +kernel
theorem dX4_workMost_0 : decode cX4_workMost 0 = .ok (.iconst 0, 1) := by decide +kernel
theorem dX4_workMost_1 : decode cX4_workMost 1 = .ok (.istore 4, 2) := by decide +kernel
theorem dX4_workMost_3 : decode cX4_workMost 3 = .ok (.iload 4, 2) := by decide +kernel
theorem dX4_workMost_5 : decode cX4_workMost 5 = .ok (.aload_n 1, 1) := by decide +kernel
theorem dX4_workMost_6 : decode cX4_workMost 6 = .ok (.getfield 127, 3) := by decide +kernel
theorem dX4_workMost_9 : decode cX4_workMost 9 = .ok (.if_icmp .ge 81, 3) := by decide +kernel
theorem dX4_workMost_12 : decode cX4_workMost 12 = .ok (.aload_n 2, 1) := by decide +kernel
theorem dX4_workMost_13 : decode cX4_workMost 13 = .ok (.aload_n 2, 1) := by decide +kernel
theorem dX4_workMost_14 : decode cX4_workMost 14 = .ok (.aload_n 1, 1) := by decide +kernel
theorem dX4_workMost_15 : decode cX4_workMost 15 = .ok (.getfield 130, 3) := by decide +kernel
theorem dX4_workMost_18 : decode cX4_workMost 18 = .ok (.iload 4, 2) := by decide +kernel
theorem dX4_workMost_20 : decode cX4_workMost 20 = .ok (.aaload, 1) := by decide +kernel
theorem dX4_workMost_21 : decode cX4_workMost 21 = .ok (.getfield 134, 3) := by decide +kernel
theorem dX4_workMost_24 : decode cX4_workMost 24 = .ok (.invokevirtual 150, 3) := by decide +kernel
theorem dX4_workMost_27 : decode cX4_workMost 27 = .ok (.invokevirtual 206, 3) := by decide +kernel
theorem dX4_workMost_30 : decode cX4_workMost 30 = .ok (.astore 5, 2) := by decide +kernel
theorem dX4_workMost_32 : decode cX4_workMost 32 = .ok (.aload 5, 2) := by decide +kernel
theorem dX4_workMost_34 : decode cX4_workMost 34 = .ok (.ifnull 26, 3) := by decide +kernel
theorem dX4_workMost_37 : decode cX4_workMost 37 = .ok (.aload 5, 2) := by decide +kernel
theorem dX4_workMost_39 : decode cX4_workMost 39 = .ok (.aload_n 0, 1) := by decide +kernel
theorem dX4_workMost_40 : decode cX4_workMost 40 = .ok (.getfield 41, 3) := by decide +kernel
theorem dX4_workMost_43 : decode cX4_workMost 43 = .ok (.getfield 210, 3) := by decide +kernel
theorem dX4_workMost_46 : decode cX4_workMost 46 = .ok (.ldc2_w 213, 3) := by decide +kernel
theorem dX4_workMost_49 : decode cX4_workMost 49 = .ok (.lxor, 1) := by decide +kernel
theorem dX4_workMost_50 : decode cX4_workMost 50 = .ok (.invokevirtual 215, 3) := by decide +kernel
theorem dX4_workMost_53 : decode cX4_workMost 53 = .ok (.ifCond .eq 7, 3) := by decide +kernel
theorem dX4_workMost_56 : decode cX4_workMost 56 = .ok (.iconst 1, 1) := by decide +kernel
theorem dX4_workMost_57 : decode cX4_workMost 57 = .ok (.goto 4, 3) := by decide +kernel
theorem dX4_workMost_60 : decode cX4_workMost 60 = .ok (.iconst 0, 1) := by decide +kernel
theorem dX4_workMost_61 : decode cX4_workMost 61 = .ok (.istore 6, 2) := by decide +kernel
theorem dX4_workMost_63 : decode cX4_workMost 63 = .ok (.iload 6, 2) := by decide +kernel
theorem dX4_workMost_65 : decode cX4_workMost 65 = .ok (.ifCond .ne 19, 3) := by decide +kernel
theorem dX4_workMost_68 : decode cX4_workMost 68 = .ok (.aload_n 3, 1) := by decide +kernel
theorem dX4_workMost_69 : decode cX4_workMost 69 = .ok (.aload_n 1, 1) := by decide +kernel
theorem dX4_workMost_70 : decode cX4_workMost 70 = .ok (.getfield 130, 3) := by decide +kernel
theorem dX4_workMost_73 : decode cX4_workMost 73 = .ok (.iload 4, 2) := by decide +kernel
theorem dX4_workMost_75 : decode cX4_workMost 75 = .ok (.aaload, 1) := by decide +kernel
theorem dX4_workMost_76 : decode cX4_workMost 76 = .ok (.invokevirtual 138, 3) := by decide +kernel
theorem dX4_workMost_79 : decode cX4_workMost 79 = .ok (.ifCond .ne 5, 3) := by decide +kernel
theorem dX4_workMost_82 : decode cX4_workMost 82 = .ok (.iconst 0, 1) := by decide +kernel
theorem dX4_workMost_83 : decode cX4_workMost 83 = .ok (.ireturn, 1) := by decide +kernel
theorem dX4_workMost_84 : decode cX4_workMost 84 = .ok (.iinc 4 1, 3) := by decide +kernel
theorem dX4_workMost_87 : decode cX4_workMost 87 = .ok (.goto (-84), 3) := by decide +kernel
theorem dX4_workMost_90 : decode cX4_workMost 90 = .ok (.iconst 1, 1) := by decide +kernel
theorem dX4_workMost_91 : decode cX4_workMost 91 = .ok (.ireturn, 1) := by decide +kernel
theorem dX4_workClose_0 : decode cX4_workClose 0 = .ok (.aload_n 2, 1) := by decide +kernel
theorem dX4_workClose_1 : decode cX4_workClose 1 = .ok (.aload_n 1, 1) := by decide +kernel
theorem dX4_workClose_2 : decode cX4_workClose 2 = .ok (.invokevirtual 219, 3) := by decide +kernel
theorem dX4_workClose_5 : decode cX4_workClose 5 = .ok (.iconst 0, 1) := by decide +kernel
theorem dX4_workClose_6 : decode cX4_workClose 6 = .ok (.istore_n 3, 1) := by decide +kernel
theorem dX4_workClose_7 : decode cX4_workClose 7 = .ok (.iload_n 3, 1) := by decide +kernel
theorem dX4_workClose_8 : decode cX4_workClose 8 = .ok (.sipush 1000, 3) := by decide +kernel
theorem dX4_workClose_11 : decode cX4_workClose 11 = .ok (.if_icmp .ge 51, 3) := by decide +kernel
theorem dX4_workClose_14 : decode cX4_workClose 14 = .ok (.aload_n 0, 1) := by decide +kernel
theorem dX4_workClose_15 : decode cX4_workClose 15 = .ok (.aload_n 1, 1) := by decide +kernel
theorem dX4_workClose_16 : decode cX4_workClose 16 = .ok (.aload_n 2, 1) := by decide +kernel
theorem dX4_workClose_17 : decode cX4_workClose 17 = .ok (.invokevirtual 223, 3) := by decide +kernel
theorem dX4_workClose_20 : decode cX4_workClose 20 = .ok (.ifCond .eq 12, 3) := by decide +kernel
theorem dX4_workClose_23 : decode cX4_workClose 23 = .ok (.aload_n 0, 1) := by decide +kernel
theorem dX4_workClose_24 : decode cX4_workClose 24 = .ok (.aload_n 1, 1) := by decide +kernel
theorem dX4_workClose_25 : decode cX4_workClose 25 = .ok (.aload_n 2, 1) := by decide +kernel
theorem dX4_workClose_26 : decode cX4_workClose 26 = .ok (.invokevirtual 226, 3) := by decide +kernel
theorem dX4_workClose_29 : decode cX4_workClose 29 = .ok (.ifCond .ne 5, 3) := by decide +kernel
theorem dX4_workClose_32 : decode cX4_workClose 32 = .ok (.iconst 0, 1) := by decide +kernel
theorem dX4_workClose_33 : decode cX4_workClose 33 = .ok (.ireturn, 1) := by decide +kernel
theorem dX4_workClose_34 : decode cX4_workClose 34 = .ok (.aload_n 0, 1) := by decide +kernel
theorem dX4_workClose_35 : decode cX4_workClose 35 = .ok (.getfield 31, 3) := by decide +kernel
theorem dX4_workClose_38 : decode cX4_workClose 38 = .ok (.aload_n 2, 1) := by decide +kernel
theorem dX4_workClose_39 : decode cX4_workClose 39 = .ok (.invokevirtual 229, 3) := by decide +kernel
theorem dX4_workClose_42 : decode cX4_workClose 42 = .ok (.ifCond .eq 6, 3) := by decide +kernel
theorem dX4_workClose_45 : decode cX4_workClose 45 = .ok (.goto 17, 3) := by decide +kernel
theorem dX4_workClose_48 : decode cX4_workClose 48 = .ok (.aload_n 2, 1) := by decide +kernel
theorem dX4_workClose_49 : decode cX4_workClose 49 = .ok (.aload_n 0, 1) := by decide +kernel
theorem dX4_workClose_50 : decode cX4_workClose 50 = .ok (.getfield 31, 3) := by decide +kernel
theorem dX4_workClose_53 : decode cX4_workClose 53 = .ok (.invokevirtual 219, 3) := by decide +kernel
theorem dX4_workClose_56 : decode cX4_workClose 56 = .ok (.iinc 3 1, 3) := by decide +kernel
theorem dX4_workClose_59 : decode cX4_workClose 59 = .ok (.goto (-52), 3) := by decide +kernel
theorem dX4_workClose_62 : decode cX4_workClose 62 = .ok (.aload_n 0, 1) := by decide +kernel
theorem dX4_workClose_63 : decode cX4_workClose 63 = .ok (.aload_n 1, 1) := by decide +kernel
theorem dX4_workClose_64 : decode cX4_workClose 64 = .ok (.aload_n 2, 1) := by decide +kernel
theorem dX4_workClose_65 : decode cX4_workClose 65 = .ok (.invokevirtual 232, 3) := by decide +kernel
theorem dX4_workClose_68 : decode cX4_workClose 68 = .ok (.iconst 1, 1) := by decide +kernel
theorem dX4_workClose_69 : decode cX4_workClose 69 = .ok (.ireturn, 1) := by decide +kernel
theorem dX4_reach_0 : decode cX4_reach 0 = .ok (.aload_n 0, 1) := by decide +kernel
theorem dX4_reach_1 : decode cX4_reach 1 = .ok (.getfield 31, 3) := by decide +kernel
theorem dX4_reach_4 : decode cX4_reach 4 = .ok (.iconst 2, 1) := by decide +kernel
theorem dX4_reach_5 : decode cX4_reach 5 = .ok (.invokevirtual 76, 3) := by decide +kernel
theorem dX4_reach_8 : decode cX4_reach 8 = .ok (.iconst 0, 1) := by decide +kernel
theorem dX4_reach_9 : decode cX4_reach 9 = .ok (.istore_n 3, 1) := by decide +kernel
theorem dX4_reach_10 : decode cX4_reach 10 = .ok (.iload_n 3, 1) := by decide +kernel
theorem dX4_reach_11 : decode cX4_reach 11 = .ok (.aload_n 2, 1) := by decide +kernel
theorem dX4_reach_12 : decode cX4_reach 12 = .ok (.getfield 127, 3) := by decide +kernel
theorem dX4_reach_15 : decode cX4_reach 15 = .ok (.if_icmp .ge 111, 3) := by decide +kernel
theorem dX4_reach_18 : decode cX4_reach 18 = .ok (.aload_n 2, 1) := by decide +kernel
theorem dX4_reach_19 : decode cX4_reach 19 = .ok (.getfield 130, 3) := by decide +kernel
theorem dX4_reach_22 : decode cX4_reach 22 = .ok (.iload_n 3, 1) := by decide +kernel
theorem dX4_reach_23 : decode cX4_reach 23 = .ok (.aaload, 1) := by decide +kernel
theorem dX4_reach_24 : decode cX4_reach 24 = .ok (.getfield 134, 3) := by decide +kernel
theorem dX4_reach_27 : decode cX4_reach 27 = .ok (.astore 4, 2) := by decide +kernel
theorem dX4_reach_29 : decode cX4_reach 29 = .ok (.aload_n 0, 1) := by decide +kernel
theorem dX4_reach_30 : decode cX4_reach 30 = .ok (.getfield 31, 3) := by decide +kernel
theorem dX4_reach_33 : decode cX4_reach 33 = .ok (.aload 4, 2) := by decide +kernel
theorem dX4_reach_35 : decode cX4_reach 35 = .ok (.invokevirtual 146, 3) := by decide +kernel
theorem dX4_reach_38 : decode cX4_reach 38 = .ok (.ifCond .ne 5, 3) := by decide +kernel
theorem dX4_reach_41 : decode cX4_reach 41 = .ok (.iconst 0, 1) := by decide +kernel
theorem dX4_reach_42 : decode cX4_reach 42 = .ok (.ireturn, 1) := by decide +kernel
theorem dX4_reach_43 : decode cX4_reach 43 = .ok (.iconst 0, 1) := by decide +kernel
theorem dX4_reach_44 : decode cX4_reach 44 = .ok (.istore 5, 2) := by decide +kernel
theorem dX4_reach_46 : decode cX4_reach 46 = .ok (.iload 5, 2) := by decide +kernel
theorem dX4_reach_48 : decode cX4_reach 48 = .ok (.aload_n 1, 1) := by decide +kernel
theorem dX4_reach_49 : decode cX4_reach 49 = .ok (.getfield 127, 3) := by decide +kernel
theorem dX4_reach_52 : decode cX4_reach 52 = .ok (.if_icmp .ge 68, 3) := by decide +kernel
theorem dX4_reach_55 : decode cX4_reach 55 = .ok (.aload_n 1, 1) := by decide +kernel
theorem dX4_reach_56 : decode cX4_reach 56 = .ok (.getfield 130, 3) := by decide +kernel
theorem dX4_reach_59 : decode cX4_reach 59 = .ok (.iload 5, 2) := by decide +kernel
theorem dX4_reach_61 : decode cX4_reach 61 = .ok (.aaload, 1) := by decide +kernel
theorem dX4_reach_62 : decode cX4_reach 62 = .ok (.getfield 134, 3) := by decide +kernel
theorem dX4_reach_65 : decode cX4_reach 65 = .ok (.astore 6, 2) := by decide +kernel
theorem dX4_reach_67 : decode cX4_reach 67 = .ok (.aload_n 0, 1) := by decide +kernel
theorem dX4_reach_68 : decode cX4_reach 68 = .ok (.getfield 38, 3) := by decide +kernel
theorem dX4_reach_71 : decode cX4_reach 71 = .ok (.iconst 0, 1) := by decide +kernel
theorem dX4_reach_72 : decode cX4_reach 72 = .ok (.aload 4, 2) := by decide +kernel
theorem dX4_reach_74 : decode cX4_reach 74 = .ok (.iconst 0, 1) := by decide +kernel
theorem dX4_reach_75 : decode cX4_reach 75 = .ok (.iaload, 1) := by decide +kernel
theorem dX4_reach_76 : decode cX4_reach 76 = .ok (.iastore, 1) := by decide +kernel
theorem dX4_reach_77 : decode cX4_reach 77 = .ok (.aload_n 0, 1) := by decide +kernel
theorem dX4_reach_78 : decode cX4_reach 78 = .ok (.getfield 38, 3) := by decide +kernel
theorem dX4_reach_81 : decode cX4_reach 81 = .ok (.iconst 1, 1) := by decide +kernel
theorem dX4_reach_82 : decode cX4_reach 82 = .ok (.aload 6, 2) := by decide +kernel
theorem dX4_reach_84 : decode cX4_reach 84 = .ok (.iconst 1, 1) := by decide +kernel
theorem dX4_reach_85 : decode cX4_reach 85 = .ok (.iaload, 1) := by decide +kernel
theorem dX4_reach_86 : decode cX4_reach 86 = .ok (.iastore, 1) := by decide +kernel
theorem dX4_reach_87 : decode cX4_reach 87 = .ok (.aload 6, 2) := by decide +kernel
theorem dX4_reach_89 : decode cX4_reach 89 = .ok (.iconst 0, 1) := by decide +kernel
theorem dX4_reach_90 : decode cX4_reach 90 = .ok (.iaload, 1) := by decide +kernel
theorem dX4_reach_91 : decode cX4_reach 91 = .ok (.aload 4, 2) := by decide +kernel
theorem dX4_reach_93 : decode cX4_reach 93 = .ok (.iconst 1, 1) := by decide +kernel
theorem dX4_reach_94 : decode cX4_reach 94 = .ok (.iaload, 1) := by decide +kernel
theorem dX4_reach_95 : decode cX4_reach 95 = .ok (.if_icmp .ne 19, 3) := by decide +kernel
theorem dX4_reach_98 : decode cX4_reach 98 = .ok (.aload_n 0, 1) := by decide +kernel
theorem dX4_reach_99 : decode cX4_reach 99 = .ok (.getfield 31, 3) := by decide +kernel
theorem dX4_reach_102 : decode cX4_reach 102 = .ok (.aload_n 0, 1) := by decide +kernel
theorem dX4_reach_103 : decode cX4_reach 103 = .ok (.getfield 38, 3) := by decide +kernel
theorem dX4_reach_106 : decode cX4_reach 106 = .ok (.invokevirtual 146, 3) := by decide +kernel
theorem dX4_reach_109 : decode cX4_reach 109 = .ok (.ifCond .ne 5, 3) := by decide +kernel
theorem dX4_reach_112 : decode cX4_reach 112 = .ok (.iconst 0, 1) := by decide +kernel
theorem dX4_reach_113 : decode cX4_reach 113 = .ok (.ireturn, 1) := by decide +kernel
theorem dX4_reach_114 : decode cX4_reach 114 = .ok (.iinc 5 1, 3) := by decide +kernel
theorem dX4_reach_117 : decode cX4_reach 117 = .ok (.goto (-71), 3) := by decide +kernel
theorem dX4_reach_120 : decode cX4_reach 120 = .ok (.iinc 3 1, 3) := by decide +kernel
theorem dX4_reach_123 : decode cX4_reach 123 = .ok (.goto (-113), 3) := by decide +kernel
theorem dX4_reach_126 : decode cX4_reach 126 = .ok (.iconst 1, 1) := by decide +kernel
theorem dX4_reach_127 : decode cX4_reach 127 = .ok (.ireturn, 1) := by decide +kernel
theorem dX4_gatherRound_0 : decode cX4_gatherRound 0 = .ok (.iconst 0, 1) := by decide +kernel
theorem dX4_gatherRound_1 : decode cX4_gatherRound 1 = .ok (.istore_n 3, 1) := by decide +kernel
theorem dX4_gatherRound_2 : decode cX4_gatherRound 2 = .ok (.iload_n 3, 1) := by decide +kernel
theorem dX4_gatherRound_3 : decode cX4_gatherRound 3 = .ok (.aload_n 0, 1) := by decide +kernel
theorem dX4_gatherRound_4 : decode cX4_gatherRound 4 = .ok (.getfield 31, 3) := by decide +kernel
theorem dX4_gatherRound_7 : decode cX4_gatherRound 7 = .ok (.getfield 127, 3) := by decide +kernel
theorem dX4_gatherRound_10 : decode cX4_gatherRound 10 = .ok (.if_icmp .ge 48, 3) := by decide +kernel
theorem dX4_gatherRound_13 : decode cX4_gatherRound 13 = .ok (.aload_n 0, 1) := by decide +kernel
theorem dX4_gatherRound_14 : decode cX4_gatherRound 14 = .ok (.aload_n 1, 1) := by decide +kernel
theorem dX4_gatherRound_15 : decode cX4_gatherRound 15 = .ok (.aload_n 2, 1) := by decide +kernel
theorem dX4_gatherRound_16 : decode cX4_gatherRound 16 = .ok (.aload_n 0, 1) := by decide +kernel
theorem dX4_gatherRound_17 : decode cX4_gatherRound 17 = .ok (.getfield 31, 3) := by decide +kernel
theorem dX4_gatherRound_20 : decode cX4_gatherRound 20 = .ok (.getfield 130, 3) := by decide +kernel
theorem dX4_gatherRound_23 : decode cX4_gatherRound 23 = .ok (.iload_n 3, 1) := by decide +kernel
theorem dX4_gatherRound_24 : decode cX4_gatherRound 24 = .ok (.aaload, 1) := by decide +kernel
theorem dX4_gatherRound_25 : decode cX4_gatherRound 25 = .ok (.getfield 134, 3) := by decide +kernel
theorem dX4_gatherRound_28 : decode cX4_gatherRound 28 = .ok (.invokevirtual 236, 3) := by decide +kernel
theorem dX4_gatherRound_31 : decode cX4_gatherRound 31 = .ok (.aload_n 0, 1) := by decide +kernel
theorem dX4_gatherRound_32 : decode cX4_gatherRound 32 = .ok (.getfield 20, 3) := by decide +kernel
theorem dX4_gatherRound_35 : decode cX4_gatherRound 35 = .ok (.aload_n 0, 1) := by decide +kernel
theorem dX4_gatherRound_36 : decode cX4_gatherRound 36 = .ok (.getfield 31, 3) := by decide +kernel
theorem dX4_gatherRound_39 : decode cX4_gatherRound 39 = .ok (.getfield 130, 3) := by decide +kernel
theorem dX4_gatherRound_42 : decode cX4_gatherRound 42 = .ok (.iload_n 3, 1) := by decide +kernel
theorem dX4_gatherRound_43 : decode cX4_gatherRound 43 = .ok (.aaload, 1) := by decide +kernel
theorem dX4_gatherRound_44 : decode cX4_gatherRound 44 = .ok (.invokevirtual 200, 3) := by decide +kernel
theorem dX4_gatherRound_47 : decode cX4_gatherRound 47 = .ok (.ifCond .ne 5, 3) := by decide +kernel
theorem dX4_gatherRound_50 : decode cX4_gatherRound 50 = .ok (.iconst 0, 1) := by decide +kernel
theorem dX4_gatherRound_51 : decode cX4_gatherRound 51 = .ok (.ireturn, 1) := by decide +kernel
theorem dX4_gatherRound_52 : decode cX4_gatherRound 52 = .ok (.iinc 3 1, 3) := by decide +kernel
theorem dX4_gatherRound_55 : decode cX4_gatherRound 55 = .ok (.goto (-53), 3) := by decide +kernel
theorem dX4_gatherRound_58 : decode cX4_gatherRound 58 = .ok (.iconst 1, 1) := by decide +kernel
theorem dX4_gatherRound_59 : decode cX4_gatherRound 59 = .ok (.ireturn, 1) := by decide +kernel
theorem dX4_gatherChains_0 : decode cX4_gatherChains 0 = .ok (.aload_n 0, 1) := by decide +kernel
theorem dX4_gatherChains_1 : decode cX4_gatherChains 1 = .ok (.getfield 20, 3) := by decide +kernel
theorem dX4_gatherChains_4 : decode cX4_gatherChains 4 = .ok (.invokevirtual 154, 3) := by decide +kernel
theorem dX4_gatherChains_7 : decode cX4_gatherChains 7 = .ok (.iconst 0, 1) := by decide +kernel
theorem dX4_gatherChains_8 : decode cX4_gatherChains 8 = .ok (.istore 4, 2) := by decide +kernel
theorem dX4_gatherChains_10 : decode cX4_gatherChains 10 = .ok (.iload 4, 2) := by decide +kernel
theorem dX4_gatherChains_12 : decode cX4_gatherChains 12 = .ok (.aload_n 2, 1) := by decide +kernel
theorem dX4_gatherChains_13 : decode cX4_gatherChains 13 = .ok (.getfield 127, 3) := by decide +kernel
theorem dX4_gatherChains_16 : decode cX4_gatherChains 16 = .ok (.if_icmp .ge 88, 3) := by decide +kernel
theorem dX4_gatherChains_19 : decode cX4_gatherChains 19 = .ok (.aload_n 2, 1) := by decide +kernel
theorem dX4_gatherChains_20 : decode cX4_gatherChains 20 = .ok (.getfield 130, 3) := by decide +kernel
theorem dX4_gatherChains_23 : decode cX4_gatherChains 23 = .ok (.iload 4, 2) := by decide +kernel
theorem dX4_gatherChains_25 : decode cX4_gatherChains 25 = .ok (.aaload, 1) := by decide +kernel
theorem dX4_gatherChains_26 : decode cX4_gatherChains 26 = .ok (.astore 5, 2) := by decide +kernel
theorem dX4_gatherChains_28 : decode cX4_gatherChains 28 = .ok (.aload 5, 2) := by decide +kernel
theorem dX4_gatherChains_30 : decode cX4_gatherChains 30 = .ok (.getfield 134, 3) := by decide +kernel
theorem dX4_gatherChains_33 : decode cX4_gatherChains 33 = .ok (.iconst 0, 1) := by decide +kernel
theorem dX4_gatherChains_34 : decode cX4_gatherChains 34 = .ok (.iaload, 1) := by decide +kernel
theorem dX4_gatherChains_35 : decode cX4_gatherChains 35 = .ok (.aload_n 3, 1) := by decide +kernel
theorem dX4_gatherChains_36 : decode cX4_gatherChains 36 = .ok (.iconst 0, 1) := by decide +kernel
theorem dX4_gatherChains_37 : decode cX4_gatherChains 37 = .ok (.iaload, 1) := by decide +kernel
theorem dX4_gatherChains_38 : decode cX4_gatherChains 38 = .ok (.if_icmp .eq 6, 3) := by decide +kernel
theorem dX4_gatherChains_41 : decode cX4_gatherChains 41 = .ok (.goto 57, 3) := by decide +kernel
theorem dX4_gatherChains_44 : decode cX4_gatherChains 44 = .ok (.aload 5, 2) := by decide +kernel
theorem dX4_gatherChains_46 : decode cX4_gatherChains 46 = .ok (.getfield 134, 3) := by decide +kernel
theorem dX4_gatherChains_49 : decode cX4_gatherChains 49 = .ok (.iconst 1, 1) := by decide +kernel
theorem dX4_gatherChains_50 : decode cX4_gatherChains 50 = .ok (.iaload, 1) := by decide +kernel
theorem dX4_gatherChains_51 : decode cX4_gatherChains 51 = .ok (.aload_n 3, 1) := by decide +kernel
theorem dX4_gatherChains_52 : decode cX4_gatherChains 52 = .ok (.iconst 1, 1) := by decide +kernel
theorem dX4_gatherChains_53 : decode cX4_gatherChains 53 = .ok (.iaload, 1) := by decide +kernel
theorem dX4_gatherChains_54 : decode cX4_gatherChains 54 = .ok (.if_icmp .ne 12, 3) := by decide +kernel
theorem dX4_gatherChains_57 : decode cX4_gatherChains 57 = .ok (.aload_n 0, 1) := by decide +kernel
theorem dX4_gatherChains_58 : decode cX4_gatherChains 58 = .ok (.getfield 20, 3) := by decide +kernel
theorem dX4_gatherChains_61 : decode cX4_gatherChains 61 = .ok (.aload 5, 2) := by decide +kernel
theorem dX4_gatherChains_63 : decode cX4_gatherChains 63 = .ok (.invokevirtual 156, 3) := by decide +kernel
theorem dX4_gatherChains_66 : decode cX4_gatherChains 66 = .ok (.aload_n 1, 1) := by decide +kernel
theorem dX4_gatherChains_67 : decode cX4_gatherChains 67 = .ok (.aload 5, 2) := by decide +kernel
theorem dX4_gatherChains_69 : decode cX4_gatherChains 69 = .ok (.getfield 134, 3) := by decide +kernel
theorem dX4_gatherChains_72 : decode cX4_gatherChains 72 = .ok (.iconst 1, 1) := by decide +kernel
theorem dX4_gatherChains_73 : decode cX4_gatherChains 73 = .ok (.iaload, 1) := by decide +kernel
theorem dX4_gatherChains_74 : decode cX4_gatherChains 74 = .ok (.aload_n 3, 1) := by decide +kernel
theorem dX4_gatherChains_75 : decode cX4_gatherChains 75 = .ok (.iconst 1, 1) := by decide +kernel
theorem dX4_gatherChains_76 : decode cX4_gatherChains 76 = .ok (.iaload, 1) := by decide +kernel
theorem dX4_gatherChains_77 : decode cX4_gatherChains 77 = .ok (.invokestatic 240, 3) := by decide +kernel
theorem dX4_gatherChains_80 : decode cX4_gatherChains 80 = .ok (.astore 6, 2) := by decide +kernel
theorem dX4_gatherChains_82 : decode cX4_gatherChains 82 = .ok (.aload 6, 2) := by decide +kernel
theorem dX4_gatherChains_84 : decode cX4_gatherChains 84 = .ok (.ifnull 14, 3) := by decide +kernel
theorem dX4_gatherChains_87 : decode cX4_gatherChains 87 = .ok (.aload_n 0, 1) := by decide +kernel
theorem dX4_gatherChains_88 : decode cX4_gatherChains 88 = .ok (.getfield 20, 3) := by decide +kernel
theorem dX4_gatherChains_91 : decode cX4_gatherChains 91 = .ok (.aload 5, 2) := by decide +kernel
theorem dX4_gatherChains_93 : decode cX4_gatherChains 93 = .ok (.aload 6, 2) := by decide +kernel
theorem dX4_gatherChains_95 : decode cX4_gatherChains 95 = .ok (.invokevirtual 196, 3) := by decide +kernel
theorem dX4_gatherChains_98 : decode cX4_gatherChains 98 = .ok (.iinc 4 1, 3) := by decide +kernel
theorem dX4_gatherChains_101 : decode cX4_gatherChains 101 = .ok (.goto (-91), 3) := by decide +kernel
theorem dX4_gatherChains_104 : decode cX4_gatherChains 104 = .ok (.return_, 1) := by decide +kernel
theorem dX4_stepOf_0 : decode cX4_stepOf 0 = .ok (.iconst 0, 1) := by decide +kernel
theorem dX4_stepOf_1 : decode cX4_stepOf 1 = .ok (.istore_n 3, 1) := by decide +kernel
theorem dX4_stepOf_2 : decode cX4_stepOf 2 = .ok (.iload_n 3, 1) := by decide +kernel
theorem dX4_stepOf_3 : decode cX4_stepOf 3 = .ok (.aload_n 0, 1) := by decide +kernel
theorem dX4_stepOf_4 : decode cX4_stepOf 4 = .ok (.getfield 127, 3) := by decide +kernel
theorem dX4_stepOf_7 : decode cX4_stepOf 7 = .ok (.if_icmp .ge 43, 3) := by decide +kernel
theorem dX4_stepOf_10 : decode cX4_stepOf 10 = .ok (.aload_n 0, 1) := by decide +kernel
theorem dX4_stepOf_11 : decode cX4_stepOf 11 = .ok (.getfield 130, 3) := by decide +kernel
theorem dX4_stepOf_14 : decode cX4_stepOf 14 = .ok (.iload_n 3, 1) := by decide +kernel
theorem dX4_stepOf_15 : decode cX4_stepOf 15 = .ok (.aaload, 1) := by decide +kernel
theorem dX4_stepOf_16 : decode cX4_stepOf 16 = .ok (.getfield 134, 3) := by decide +kernel
theorem dX4_stepOf_19 : decode cX4_stepOf 19 = .ok (.astore 4, 2) := by decide +kernel
theorem dX4_stepOf_21 : decode cX4_stepOf 21 = .ok (.aload 4, 2) := by decide +kernel
theorem dX4_stepOf_23 : decode cX4_stepOf 23 = .ok (.iconst 0, 1) := by decide +kernel
theorem dX4_stepOf_24 : decode cX4_stepOf 24 = .ok (.iaload, 1) := by decide +kernel
theorem dX4_stepOf_25 : decode cX4_stepOf 25 = .ok (.iload_n 1, 1) := by decide +kernel
theorem dX4_stepOf_26 : decode cX4_stepOf 26 = .ok (.if_icmp .ne 18, 3) := by decide +kernel
theorem dX4_stepOf_29 : decode cX4_stepOf 29 = .ok (.aload 4, 2) := by decide +kernel
theorem dX4_stepOf_31 : decode cX4_stepOf 31 = .ok (.iconst 1, 1) := by decide +kernel
theorem dX4_stepOf_32 : decode cX4_stepOf 32 = .ok (.iaload, 1) := by decide +kernel
theorem dX4_stepOf_33 : decode cX4_stepOf 33 = .ok (.iload_n 2, 1) := by decide +kernel
theorem dX4_stepOf_34 : decode cX4_stepOf 34 = .ok (.if_icmp .ne 10, 3) := by decide +kernel
theorem dX4_stepOf_37 : decode cX4_stepOf 37 = .ok (.aload_n 0, 1) := by decide +kernel
theorem dX4_stepOf_38 : decode cX4_stepOf 38 = .ok (.getfield 130, 3) := by decide +kernel
theorem dX4_stepOf_41 : decode cX4_stepOf 41 = .ok (.iload_n 3, 1) := by decide +kernel
theorem dX4_stepOf_42 : decode cX4_stepOf 42 = .ok (.aaload, 1) := by decide +kernel
theorem dX4_stepOf_43 : decode cX4_stepOf 43 = .ok (.areturn, 1) := by decide +kernel
theorem dX4_stepOf_44 : decode cX4_stepOf 44 = .ok (.iinc 3 1, 3) := by decide +kernel
theorem dX4_stepOf_47 : decode cX4_stepOf 47 = .ok (.goto (-45), 3) := by decide +kernel
theorem dX4_stepOf_50 : decode cX4_stepOf 50 = .ok (.aconst_null, 1) := by decide +kernel
theorem dX4_stepOf_51 : decode cX4_stepOf 51 = .ok (.areturn, 1) := by decide +kernel
theorem dX4_weighChains_0 : decode cX4_weighChains 0 = .ok (.iconst 0, 1) := by decide +kernel
theorem dX4_weighChains_1 : decode cX4_weighChains 1 = .ok (.istore_n 3, 1) := by decide +kernel
theorem dX4_weighChains_2 : decode cX4_weighChains 2 = .ok (.iload_n 3, 1) := by decide +kernel
theorem dX4_weighChains_3 : decode cX4_weighChains 3 = .ok (.aload_n 2, 1) := by decide +kernel
theorem dX4_weighChains_4 : decode cX4_weighChains 4 = .ok (.getfield 127, 3) := by decide +kernel
theorem dX4_weighChains_7 : decode cX4_weighChains 7 = .ok (.if_icmp .ge 82, 3) := by decide +kernel
theorem dX4_weighChains_10 : decode cX4_weighChains 10 = .ok (.aload_n 2, 1) := by decide +kernel
theorem dX4_weighChains_11 : decode cX4_weighChains 11 = .ok (.getfield 130, 3) := by decide +kernel
theorem dX4_weighChains_14 : decode cX4_weighChains 14 = .ok (.iload_n 3, 1) := by decide +kernel
theorem dX4_weighChains_15 : decode cX4_weighChains 15 = .ok (.aaload, 1) := by decide +kernel
theorem dX4_weighChains_16 : decode cX4_weighChains 16 = .ok (.astore 4, 2) := by decide +kernel
theorem dX4_weighChains_18 : decode cX4_weighChains 18 = .ok (.aload_n 1, 1) := by decide +kernel
theorem dX4_weighChains_19 : decode cX4_weighChains 19 = .ok (.aload 4, 2) := by decide +kernel
theorem dX4_weighChains_21 : decode cX4_weighChains 21 = .ok (.getfield 134, 3) := by decide +kernel
theorem dX4_weighChains_24 : decode cX4_weighChains 24 = .ok (.iconst 0, 1) := by decide +kernel
theorem dX4_weighChains_25 : decode cX4_weighChains 25 = .ok (.iaload, 1) := by decide +kernel
theorem dX4_weighChains_26 : decode cX4_weighChains 26 = .ok (.aload 4, 2) := by decide +kernel
theorem dX4_weighChains_28 : decode cX4_weighChains 28 = .ok (.getfield 134, 3) := by decide +kernel
theorem dX4_weighChains_31 : decode cX4_weighChains 31 = .ok (.iconst 1, 1) := by decide +kernel
theorem dX4_weighChains_32 : decode cX4_weighChains 32 = .ok (.iaload, 1) := by decide +kernel
theorem dX4_weighChains_33 : decode cX4_weighChains 33 = .ok (.invokestatic 240, 3) := by decide +kernel
theorem dX4_weighChains_36 : decode cX4_weighChains 36 = .ok (.astore 5, 2) := by decide +kernel
theorem dX4_weighChains_38 : decode cX4_weighChains 38 = .ok (.aload 4, 2) := by decide +kernel
theorem dX4_weighChains_40 : decode cX4_weighChains 40 = .ok (.lconst 0, 1) := by decide +kernel
theorem dX4_weighChains_41 : decode cX4_weighChains 41 = .ok (.putfield 176, 3) := by decide +kernel
theorem dX4_weighChains_44 : decode cX4_weighChains 44 = .ok (.aload 4, 2) := by decide +kernel
theorem dX4_weighChains_46 : decode cX4_weighChains 46 = .ok (.aload 5, 2) := by decide +kernel
theorem dX4_weighChains_48 : decode cX4_weighChains 48 = .ok (.ifnonnull 8, 3) := by decide +kernel
theorem dX4_weighChains_51 : decode cX4_weighChains 51 = .ok (.ldc 203, 2) := by decide +kernel
theorem dX4_weighChains_53 : decode cX4_weighChains 53 = .ok (.goto 8, 3) := by decide +kernel
theorem dX4_weighChains_56 : decode cX4_weighChains 56 = .ok (.aload 5, 2) := by decide +kernel
theorem dX4_weighChains_58 : decode cX4_weighChains 58 = .ok (.getfield 180, 3) := by decide +kernel
theorem dX4_weighChains_61 : decode cX4_weighChains 61 = .ok (.putfield 180, 3) := by decide +kernel
theorem dX4_weighChains_64 : decode cX4_weighChains 64 = .ok (.aload 4, 2) := by decide +kernel
theorem dX4_weighChains_66 : decode cX4_weighChains 66 = .ok (.aload 5, 2) := by decide +kernel
theorem dX4_weighChains_68 : decode cX4_weighChains 68 = .ok (.ifnonnull 7, 3) := by decide +kernel
theorem dX4_weighChains_71 : decode cX4_weighChains 71 = .ok (.lconst 0, 1) := by decide +kernel
theorem dX4_weighChains_72 : decode cX4_weighChains 72 = .ok (.goto 8, 3) := by decide +kernel
theorem dX4_weighChains_75 : decode cX4_weighChains 75 = .ok (.aload 5, 2) := by decide +kernel
theorem dX4_weighChains_77 : decode cX4_weighChains 77 = .ok (.getfield 187, 3) := by decide +kernel
theorem dX4_weighChains_80 : decode cX4_weighChains 80 = .ok (.putfield 187, 3) := by decide +kernel
theorem dX4_weighChains_83 : decode cX4_weighChains 83 = .ok (.iinc 3 1, 3) := by decide +kernel
theorem dX4_weighChains_86 : decode cX4_weighChains 86 = .ok (.goto (-84), 3) := by decide +kernel
theorem dX4_weighChains_89 : decode cX4_weighChains 89 = .ok (.iconst 1, 1) := by decide +kernel
theorem dX4_weighChains_90 : decode cX4_weighChains 90 = .ok (.istore_n 3, 1) := by decide +kernel
theorem dX4_weighChains_91 : decode cX4_weighChains 91 = .ok (.iconst 0, 1) := by decide +kernel
theorem dX4_weighChains_92 : decode cX4_weighChains 92 = .ok (.istore 4, 2) := by decide +kernel
theorem dX4_weighChains_94 : decode cX4_weighChains 94 = .ok (.iload 4, 2) := by decide +kernel
theorem dX4_weighChains_96 : decode cX4_weighChains 96 = .ok (.sipush 1000, 3) := by decide +kernel
theorem dX4_weighChains_99 : decode cX4_weighChains 99 = .ok (.if_icmp .ge 49, 3) := by decide +kernel
theorem dX4_weighChains_102 : decode cX4_weighChains 102 = .ok (.iload_n 3, 1) := by decide +kernel
theorem dX4_weighChains_103 : decode cX4_weighChains 103 = .ok (.ifCond .eq 45, 3) := by decide +kernel
theorem dX4_weighChains_106 : decode cX4_weighChains 106 = .ok (.iconst 0, 1) := by decide +kernel
theorem dX4_weighChains_107 : decode cX4_weighChains 107 = .ok (.istore_n 3, 1) := by decide +kernel
theorem dX4_weighChains_108 : decode cX4_weighChains 108 = .ok (.iconst 0, 1) := by decide +kernel
theorem dX4_weighChains_109 : decode cX4_weighChains 109 = .ok (.istore 5, 2) := by decide +kernel
theorem dX4_weighChains_111 : decode cX4_weighChains 111 = .ok (.iload 5, 2) := by decide +kernel
theorem dX4_weighChains_113 : decode cX4_weighChains 113 = .ok (.aload_n 2, 1) := by decide +kernel
theorem dX4_weighChains_114 : decode cX4_weighChains 114 = .ok (.getfield 127, 3) := by decide +kernel
theorem dX4_weighChains_117 : decode cX4_weighChains 117 = .ok (.if_icmp .ge 25, 3) := by decide +kernel
theorem dX4_weighChains_120 : decode cX4_weighChains 120 = .ok (.iload_n 3, 1) := by decide +kernel
theorem dX4_weighChains_121 : decode cX4_weighChains 121 = .ok (.aload_n 0, 1) := by decide +kernel
theorem dX4_weighChains_122 : decode cX4_weighChains 122 = .ok (.aload_n 1, 1) := by decide +kernel
theorem dX4_weighChains_123 : decode cX4_weighChains 123 = .ok (.aload_n 2, 1) := by decide +kernel
theorem dX4_weighChains_124 : decode cX4_weighChains 124 = .ok (.aload_n 2, 1) := by decide +kernel
theorem dX4_weighChains_125 : decode cX4_weighChains 125 = .ok (.getfield 130, 3) := by decide +kernel
theorem dX4_weighChains_128 : decode cX4_weighChains 128 = .ok (.iload 5, 2) := by decide +kernel
theorem dX4_weighChains_130 : decode cX4_weighChains 130 = .ok (.aaload, 1) := by decide +kernel
theorem dX4_weighChains_131 : decode cX4_weighChains 131 = .ok (.invokevirtual 244, 3) := by decide +kernel
theorem dX4_weighChains_134 : decode cX4_weighChains 134 = .ok (.ior, 1) := by decide +kernel
theorem dX4_weighChains_135 : decode cX4_weighChains 135 = .ok (.istore_n 3, 1) := by decide +kernel
theorem dX4_weighChains_136 : decode cX4_weighChains 136 = .ok (.iinc 5 1, 3) := by decide +kernel
theorem dX4_weighChains_139 : decode cX4_weighChains 139 = .ok (.goto (-28), 3) := by decide +kernel
theorem dX4_weighChains_142 : decode cX4_weighChains 142 = .ok (.iinc 4 1, 3) := by decide +kernel
theorem dX4_weighChains_145 : decode cX4_weighChains 145 = .ok (.goto (-51), 3) := by decide +kernel
theorem dX4_weighChains_148 : decode cX4_weighChains 148 = .ok (.return_, 1) := by decide +kernel
theorem dX4_betterChain_0 : decode cX4_betterChain 0 = .ok (.aload_n 3, 1) := by decide +kernel
theorem dX4_betterChain_1 : decode cX4_betterChain 1 = .ok (.getfield 180, 3) := by decide +kernel
theorem dX4_betterChain_4 : decode cX4_betterChain 4 = .ok (.istore 4, 2) := by decide +kernel
theorem dX4_betterChain_6 : decode cX4_betterChain 6 = .ok (.aload_n 3, 1) := by decide +kernel
theorem dX4_betterChain_7 : decode cX4_betterChain 7 = .ok (.getfield 187, 3) := by decide +kernel
theorem dX4_betterChain_10 : decode cX4_betterChain 10 = .ok (.lstore 5, 2) := by decide +kernel
theorem dX4_betterChain_12 : decode cX4_betterChain 12 = .ok (.iconst 0, 1) := by decide +kernel
theorem dX4_betterChain_13 : decode cX4_betterChain 13 = .ok (.istore 7, 2) := by decide +kernel
theorem dX4_betterChain_15 : decode cX4_betterChain 15 = .ok (.iload 7, 2) := by decide +kernel
theorem dX4_betterChain_17 : decode cX4_betterChain 17 = .ok (.aload_n 2, 1) := by decide +kernel
theorem dX4_betterChain_18 : decode cX4_betterChain 18 = .ok (.getfield 127, 3) := by decide +kernel
theorem dX4_betterChain_21 : decode cX4_betterChain 21 = .ok (.if_icmp .ge 102, 3) := by decide +kernel
theorem dX4_betterChain_24 : decode cX4_betterChain 24 = .ok (.aload_n 2, 1) := by decide +kernel
theorem dX4_betterChain_25 : decode cX4_betterChain 25 = .ok (.getfield 130, 3) := by decide +kernel
theorem dX4_betterChain_28 : decode cX4_betterChain 28 = .ok (.iload 7, 2) := by decide +kernel
theorem dX4_betterChain_30 : decode cX4_betterChain 30 = .ok (.aaload, 1) := by decide +kernel
theorem dX4_betterChain_31 : decode cX4_betterChain 31 = .ok (.astore 8, 2) := by decide +kernel
theorem dX4_betterChain_33 : decode cX4_betterChain 33 = .ok (.aload 8, 2) := by decide +kernel
theorem dX4_betterChain_35 : decode cX4_betterChain 35 = .ok (.getfield 134, 3) := by decide +kernel
theorem dX4_betterChain_38 : decode cX4_betterChain 38 = .ok (.iconst 0, 1) := by decide +kernel
theorem dX4_betterChain_39 : decode cX4_betterChain 39 = .ok (.iaload, 1) := by decide +kernel
theorem dX4_betterChain_40 : decode cX4_betterChain 40 = .ok (.aload_n 3, 1) := by decide +kernel
theorem dX4_betterChain_41 : decode cX4_betterChain 41 = .ok (.getfield 134, 3) := by decide +kernel
theorem dX4_betterChain_44 : decode cX4_betterChain 44 = .ok (.iconst 0, 1) := by decide +kernel
theorem dX4_betterChain_45 : decode cX4_betterChain 45 = .ok (.iaload, 1) := by decide +kernel
theorem dX4_betterChain_46 : decode cX4_betterChain 46 = .ok (.if_icmp .ne 23, 3) := by decide +kernel
theorem dX4_betterChain_49 : decode cX4_betterChain 49 = .ok (.aload_n 1, 1) := by decide +kernel
theorem dX4_betterChain_50 : decode cX4_betterChain 50 = .ok (.aload 8, 2) := by decide +kernel
theorem dX4_betterChain_52 : decode cX4_betterChain 52 = .ok (.getfield 134, 3) := by decide +kernel
theorem dX4_betterChain_55 : decode cX4_betterChain 55 = .ok (.iconst 1, 1) := by decide +kernel
theorem dX4_betterChain_56 : decode cX4_betterChain 56 = .ok (.iaload, 1) := by decide +kernel
theorem dX4_betterChain_57 : decode cX4_betterChain 57 = .ok (.aload_n 3, 1) := by decide +kernel
theorem dX4_betterChain_58 : decode cX4_betterChain 58 = .ok (.getfield 134, 3) := by decide +kernel
theorem dX4_betterChain_61 : decode cX4_betterChain 61 = .ok (.iconst 1, 1) := by decide +kernel
theorem dX4_betterChain_62 : decode cX4_betterChain 62 = .ok (.iaload, 1) := by decide +kernel
theorem dX4_betterChain_63 : decode cX4_betterChain 63 = .ok (.invokestatic 240, 3) := by decide +kernel
theorem dX4_betterChain_66 : decode cX4_betterChain 66 = .ok (.goto 4, 3) := by decide +kernel
theorem dX4_betterChain_69 : decode cX4_betterChain 69 = .ok (.aconst_null, 1) := by decide +kernel
theorem dX4_betterChain_70 : decode cX4_betterChain 70 = .ok (.astore 9, 2) := by decide +kernel
theorem dX4_betterChain_72 : decode cX4_betterChain 72 = .ok (.aload 9, 2) := by decide +kernel
theorem dX4_betterChain_74 : decode cX4_betterChain 74 = .ok (.ifnull 43, 3) := by decide +kernel
theorem dX4_betterChain_77 : decode cX4_betterChain 77 = .ok (.iload 4, 2) := by decide +kernel
theorem dX4_betterChain_79 : decode cX4_betterChain 79 = .ok (.aload 8, 2) := by decide +kernel
theorem dX4_betterChain_81 : decode cX4_betterChain 81 = .ok (.getfield 180, 3) := by decide +kernel
theorem dX4_betterChain_84 : decode cX4_betterChain 84 = .ok (.aload 9, 2) := by decide +kernel
theorem dX4_betterChain_86 : decode cX4_betterChain 86 = .ok (.getfield 180, 3) := by decide +kernel
theorem dX4_betterChain_89 : decode cX4_betterChain 89 = .ok (.invokestatic 183, 3) := by decide +kernel
theorem dX4_betterChain_92 : decode cX4_betterChain 92 = .ok (.invokestatic 204, 3) := by decide +kernel
theorem dX4_betterChain_95 : decode cX4_betterChain 95 = .ok (.istore 4, 2) := by decide +kernel
theorem dX4_betterChain_97 : decode cX4_betterChain 97 = .ok (.lload 5, 2) := by decide +kernel
theorem dX4_betterChain_99 : decode cX4_betterChain 99 = .ok (.aload 8, 2) := by decide +kernel
theorem dX4_betterChain_101 : decode cX4_betterChain 101 = .ok (.getfield 187, 3) := by decide +kernel
theorem dX4_betterChain_104 : decode cX4_betterChain 104 = .ok (.aload 9, 2) := by decide +kernel
theorem dX4_betterChain_106 : decode cX4_betterChain 106 = .ok (.getfield 187, 3) := by decide +kernel
theorem dX4_betterChain_109 : decode cX4_betterChain 109 = .ok (.invokestatic 190, 3) := by decide +kernel
theorem dX4_betterChain_112 : decode cX4_betterChain 112 = .ok (.invokestatic 248, 3) := by decide +kernel
theorem dX4_betterChain_115 : decode cX4_betterChain 115 = .ok (.lstore 5, 2) := by decide +kernel
theorem dX4_betterChain_117 : decode cX4_betterChain 117 = .ok (.iinc 7 1, 3) := by decide +kernel
theorem dX4_betterChain_120 : decode cX4_betterChain 120 = .ok (.goto (-105), 3) := by decide +kernel
theorem dX4_betterChain_123 : decode cX4_betterChain 123 = .ok (.iload 4, 2) := by decide +kernel
theorem dX4_betterChain_125 : decode cX4_betterChain 125 = .ok (.aload_n 3, 1) := by decide +kernel
theorem dX4_betterChain_126 : decode cX4_betterChain 126 = .ok (.getfield 180, 3) := by decide +kernel
theorem dX4_betterChain_129 : decode cX4_betterChain 129 = .ok (.if_icmp .ne 13, 3) := by decide +kernel
theorem dX4_betterChain_132 : decode cX4_betterChain 132 = .ok (.lload 5, 2) := by decide +kernel
theorem dX4_betterChain_134 : decode cX4_betterChain 134 = .ok (.aload_n 3, 1) := by decide +kernel
theorem dX4_betterChain_135 : decode cX4_betterChain 135 = .ok (.getfield 187, 3) := by decide +kernel
theorem dX4_betterChain_138 : decode cX4_betterChain 138 = .ok (.lcmp, 1) := by decide +kernel
theorem dX4_betterChain_139 : decode cX4_betterChain 139 = .ok (.ifCond .eq 7, 3) := by decide +kernel
theorem dX4_betterChain_142 : decode cX4_betterChain 142 = .ok (.iconst 1, 1) := by decide +kernel
theorem dX4_betterChain_143 : decode cX4_betterChain 143 = .ok (.goto 4, 3) := by decide +kernel
theorem dX4_betterChain_146 : decode cX4_betterChain 146 = .ok (.iconst 0, 1) := by decide +kernel
theorem dX4_betterChain_147 : decode cX4_betterChain 147 = .ok (.istore 7, 2) := by decide +kernel
theorem dX4_betterChain_149 : decode cX4_betterChain 149 = .ok (.aload_n 3, 1) := by decide +kernel
theorem dX4_betterChain_150 : decode cX4_betterChain 150 = .ok (.iload 4, 2) := by decide +kernel
theorem dX4_betterChain_152 : decode cX4_betterChain 152 = .ok (.putfield 180, 3) := by decide +kernel
theorem dX4_betterChain_155 : decode cX4_betterChain 155 = .ok (.aload_n 3, 1) := by decide +kernel
theorem dX4_betterChain_156 : decode cX4_betterChain 156 = .ok (.lload 5, 2) := by decide +kernel
theorem dX4_betterChain_158 : decode cX4_betterChain 158 = .ok (.putfield 187, 3) := by decide +kernel
theorem dX4_betterChain_161 : decode cX4_betterChain 161 = .ok (.iload 7, 2) := by decide +kernel
theorem dX4_betterChain_163 : decode cX4_betterChain 163 = .ok (.ireturn, 1) := by decide +kernel
theorem dX5_init_0 : decode cX5_init 0 = .ok (.aload_n 0, 1) := by decide +kernel
theorem dX5_init_1 : decode cX5_init 1 = .ok (.invokespecial 3, 3) := by decide +kernel
theorem dX5_init_4 : decode cX5_init 4 = .ok (.aload_n 0, 1) := by decide +kernel
theorem dX5_init_5 : decode cX5_init 5 = .ok (.bipush 16, 2) := by decide +kernel
theorem dX5_init_7 : decode cX5_init 7 = .ok (.newarray .int, 2) := by decide +kernel
theorem dX5_init_9 : decode cX5_init 9 = .ok (.putfield 9, 3) := by decide +kernel
theorem dX5_init_12 : decode cX5_init 12 = .ok (.aload_n 0, 1) := by decide +kernel
theorem dX5_init_13 : decode cX5_init 13 = .ok (.bipush 16, 2) := by decide +kernel
theorem dX5_init_15 : decode cX5_init 15 = .ok (.newarray .int, 2) := by decide +kernel
theorem dX5_init_17 : decode cX5_init 17 = .ok (.putfield 15, 3) := by decide +kernel
theorem dX5_init_20 : decode cX5_init 20 = .ok (.aload_n 0, 1) := by decide +kernel
theorem dX5_init_21 : decode cX5_init 21 = .ok (.bipush 17, 2) := by decide +kernel
theorem dX5_init_23 : decode cX5_init 23 = .ok (.newarray .int, 2) := by decide +kernel
theorem dX5_init_25 : decode cX5_init 25 = .ok (.putfield 18, 3) := by decide +kernel
theorem dX5_init_28 : decode cX5_init 28 = .ok (.return_, 1) := by decide +kernel
theorem dX5_chanceOf_0 : decode cX5_chanceOf 0 = .ok (.aload_n 1, 1) := by decide +kernel
theorem dX5_chanceOf_1 : decode cX5_chanceOf 1 = .ok (.invokevirtual 21, 3) := by decide +kernel
theorem dX5_chanceOf_4 : decode cX5_chanceOf 4 = .ok (.lstore 5, 2) := by decide +kernel
theorem dX5_chanceOf_6 : decode cX5_chanceOf 6 = .ok (.aload_n 0, 1) := by decide +kernel
theorem dX5_chanceOf_7 : decode cX5_chanceOf 7 = .ok (.iconst 0, 1) := by decide +kernel
theorem dX5_chanceOf_8 : decode cX5_chanceOf 8 = .ok (.putfield 27, 3) := by decide +kernel
theorem dX5_chanceOf_11 : decode cX5_chanceOf 11 = .ok (.iconst 0, 1) := by decide +kernel
theorem dX5_chanceOf_12 : decode cX5_chanceOf 12 = .ok (.istore 7, 2) := by decide +kernel
theorem dX5_chanceOf_14 : decode cX5_chanceOf 14 = .ok (.iload 7, 2) := by decide +kernel
theorem dX5_chanceOf_16 : decode cX5_chanceOf 16 = .ok (.bipush 60, 2) := by decide +kernel
theorem dX5_chanceOf_18 : decode cX5_chanceOf 18 = .ok (.if_icmp .ge 81, 3) := by decide +kernel
theorem dX5_chanceOf_21 : decode cX5_chanceOf 21 = .ok (.aload_n 0, 1) := by decide +kernel
theorem dX5_chanceOf_22 : decode cX5_chanceOf 22 = .ok (.getfield 27, 3) := by decide +kernel
theorem dX5_chanceOf_25 : decode cX5_chanceOf 25 = .ok (.bipush 16, 2) := by decide +kernel
theorem dX5_chanceOf_27 : decode cX5_chanceOf 27 = .ok (.if_icmp .ge 72, 3) := by decide +kernel
theorem dX5_chanceOf_30 : decode cX5_chanceOf 30 = .ok (.lload 5, 2) := by decide +kernel
theorem dX5_chanceOf_32 : decode cX5_chanceOf 32 = .ok (.iload 7, 2) := by decide +kernel
theorem dX5_chanceOf_34 : decode cX5_chanceOf 34 = .ok (.invokestatic 31, 3) := by decide +kernel
theorem dX5_chanceOf_37 : decode cX5_chanceOf 37 = .ok (.ifCond .eq 56, 3) := by decide +kernel
theorem dX5_chanceOf_40 : decode cX5_chanceOf 40 = .ok (.aload_n 0, 1) := by decide +kernel
theorem dX5_chanceOf_41 : decode cX5_chanceOf 41 = .ok (.getfield 9, 3) := by decide +kernel
theorem dX5_chanceOf_44 : decode cX5_chanceOf 44 = .ok (.aload_n 0, 1) := by decide +kernel
theorem dX5_chanceOf_45 : decode cX5_chanceOf 45 = .ok (.getfield 27, 3) := by decide +kernel
theorem dX5_chanceOf_48 : decode cX5_chanceOf 48 = .ok (.iload 7, 2) := by decide +kernel
theorem dX5_chanceOf_50 : decode cX5_chanceOf 50 = .ok (.iload_n 3, 1) := by decide +kernel
theorem dX5_chanceOf_51 : decode cX5_chanceOf 51 = .ok (.if_icmp .ne 8, 3) := by decide +kernel
theorem dX5_chanceOf_54 : decode cX5_chanceOf 54 = .ok (.iload 4, 2) := by decide +kernel
theorem dX5_chanceOf_56 : decode cX5_chanceOf 56 = .ok (.goto 11, 3) := by decide +kernel
theorem dX5_chanceOf_59 : decode cX5_chanceOf 59 = .ok (.aload_n 2, 1) := by decide +kernel
theorem dX5_chanceOf_60 : decode cX5_chanceOf 60 = .ok (.iload 7, 2) := by decide +kernel
theorem dX5_chanceOf_62 : decode cX5_chanceOf 62 = .ok (.iconst 3, 1) := by decide +kernel
theorem dX5_chanceOf_63 : decode cX5_chanceOf 63 = .ok (.invokevirtual 35, 3) := by decide +kernel
theorem dX5_chanceOf_66 : decode cX5_chanceOf 66 = .ok (.l2i, 1) := by decide +kernel
theorem dX5_chanceOf_67 : decode cX5_chanceOf 67 = .ok (.iastore, 1) := by decide +kernel
theorem dX5_chanceOf_68 : decode cX5_chanceOf 68 = .ok (.aload_n 0, 1) := by decide +kernel
theorem dX5_chanceOf_69 : decode cX5_chanceOf 69 = .ok (.getfield 15, 3) := by decide +kernel
theorem dX5_chanceOf_72 : decode cX5_chanceOf 72 = .ok (.aload_n 0, 1) := by decide +kernel
theorem dX5_chanceOf_73 : decode cX5_chanceOf 73 = .ok (.getfield 27, 3) := by decide +kernel
theorem dX5_chanceOf_76 : decode cX5_chanceOf 76 = .ok (.aload_n 1, 1) := by decide +kernel
theorem dX5_chanceOf_77 : decode cX5_chanceOf 77 = .ok (.iload 7, 2) := by decide +kernel
theorem dX5_chanceOf_79 : decode cX5_chanceOf 79 = .ok (.invokestatic 41, 3) := by decide +kernel
theorem dX5_chanceOf_82 : decode cX5_chanceOf 82 = .ok (.iastore, 1) := by decide +kernel
theorem dX5_chanceOf_83 : decode cX5_chanceOf 83 = .ok (.aload_n 0, 1) := by decide +kernel
theorem dX5_chanceOf_84 : decode cX5_chanceOf 84 = .ok (.dup, 1) := by decide +kernel
theorem dX5_chanceOf_85 : decode cX5_chanceOf 85 = .ok (.getfield 27, 3) := by decide +kernel
theorem dX5_chanceOf_88 : decode cX5_chanceOf 88 = .ok (.iconst 1, 1) := by decide +kernel
theorem dX5_chanceOf_89 : decode cX5_chanceOf 89 = .ok (.iadd, 1) := by decide +kernel
theorem dX5_chanceOf_90 : decode cX5_chanceOf 90 = .ok (.putfield 27, 3) := by decide +kernel
theorem dX5_chanceOf_93 : decode cX5_chanceOf 93 = .ok (.iinc 7 1, 3) := by decide +kernel
theorem dX5_chanceOf_96 : decode cX5_chanceOf 96 = .ok (.goto (-82), 3) := by decide +kernel
theorem dX5_chanceOf_99 : decode cX5_chanceOf 99 = .ok (.iconst 0, 1) := by decide +kernel
theorem dX5_chanceOf_100 : decode cX5_chanceOf 100 = .ok (.istore 7, 2) := by decide +kernel
theorem dX5_chanceOf_102 : decode cX5_chanceOf 102 = .ok (.aload_n 0, 1) := by decide +kernel
theorem dX5_chanceOf_103 : decode cX5_chanceOf 103 = .ok (.getfield 27, 3) := by decide +kernel
theorem dX5_chanceOf_106 : decode cX5_chanceOf 106 = .ok (.istore 8, 2) := by decide +kernel
theorem dX5_chanceOf_108 : decode cX5_chanceOf 108 = .ok (.iload 8, 2) := by decide +kernel
theorem dX5_chanceOf_110 : decode cX5_chanceOf 110 = .ok (.ifCond .lt 45, 3) := by decide +kernel
theorem dX5_chanceOf_113 : decode cX5_chanceOf 113 = .ok (.iload 7, 2) := by decide +kernel
theorem dX5_chanceOf_115 : decode cX5_chanceOf 115 = .ok (.iload 8, 2) := by decide +kernel
theorem dX5_chanceOf_117 : decode cX5_chanceOf 117 = .ok (.aload_n 0, 1) := by decide +kernel
theorem dX5_chanceOf_118 : decode cX5_chanceOf 118 = .ok (.getfield 27, 3) := by decide +kernel
theorem dX5_chanceOf_121 : decode cX5_chanceOf 121 = .ok (.if_icmp .ge 13, 3) := by decide +kernel
theorem dX5_chanceOf_124 : decode cX5_chanceOf 124 = .ok (.aload_n 0, 1) := by decide +kernel
theorem dX5_chanceOf_125 : decode cX5_chanceOf 125 = .ok (.getfield 15, 3) := by decide +kernel
theorem dX5_chanceOf_128 : decode cX5_chanceOf 128 = .ok (.iload 8, 2) := by decide +kernel
theorem dX5_chanceOf_130 : decode cX5_chanceOf 130 = .ok (.iaload, 1) := by decide +kernel
theorem dX5_chanceOf_131 : decode cX5_chanceOf 131 = .ok (.goto 4, 3) := by decide +kernel
theorem dX5_chanceOf_134 : decode cX5_chanceOf 134 = .ok (.iconst 0, 1) := by decide +kernel
theorem dX5_chanceOf_135 : decode cX5_chanceOf 135 = .ok (.ior, 1) := by decide +kernel
theorem dX5_chanceOf_136 : decode cX5_chanceOf 136 = .ok (.istore 7, 2) := by decide +kernel
theorem dX5_chanceOf_138 : decode cX5_chanceOf 138 = .ok (.aload_n 0, 1) := by decide +kernel
theorem dX5_chanceOf_139 : decode cX5_chanceOf 139 = .ok (.getfield 18, 3) := by decide +kernel
theorem dX5_chanceOf_142 : decode cX5_chanceOf 142 = .ok (.iload 8, 2) := by decide +kernel
theorem dX5_chanceOf_144 : decode cX5_chanceOf 144 = .ok (.iload 7, 2) := by decide +kernel
theorem dX5_chanceOf_146 : decode cX5_chanceOf 146 = .ok (.iconst (-1), 1) := by decide +kernel
theorem dX5_chanceOf_147 : decode cX5_chanceOf 147 = .ok (.ixor, 1) := by decide +kernel
theorem dX5_chanceOf_148 : decode cX5_chanceOf 148 = .ok (.iastore, 1) := by decide +kernel
theorem dX5_chanceOf_149 : decode cX5_chanceOf 149 = .ok (.iinc 8 (-1), 3) := by decide +kernel
theorem dX5_chanceOf_152 : decode cX5_chanceOf 152 = .ok (.goto (-44), 3) := by decide +kernel
theorem dX5_chanceOf_155 : decode cX5_chanceOf 155 = .ok (.aload_n 0, 1) := by decide +kernel
theorem dX5_chanceOf_156 : decode cX5_chanceOf 156 = .ok (.iconst 0, 1) := by decide +kernel
theorem dX5_chanceOf_157 : decode cX5_chanceOf 157 = .ok (.iconst 1, 1) := by decide +kernel
theorem dX5_chanceOf_158 : decode cX5_chanceOf 158 = .ok (.aload_n 1, 1) := by decide +kernel
theorem dX5_chanceOf_159 : decode cX5_chanceOf 159 = .ok (.getfield 45, 3) := by decide +kernel
theorem dX5_chanceOf_162 : decode cX5_chanceOf 162 = .ok (.ishl, 1) := by decide +kernel
theorem dX5_chanceOf_163 : decode cX5_chanceOf 163 = .ok (.iconst 1, 1) := by decide +kernel
theorem dX5_chanceOf_164 : decode cX5_chanceOf 164 = .ok (.isub, 1) := by decide +kernel
theorem dX5_chanceOf_165 : decode cX5_chanceOf 165 = .ok (.invokevirtual 48, 3) := by decide +kernel
theorem dX5_chanceOf_168 : decode cX5_chanceOf 168 = .ok (.lreturn, 1) := by decide +kernel
theorem dX5_holdersOf_0 : decode cX5_holdersOf 0 = .ok (.iconst 0, 1) := by decide +kernel
theorem dX5_holdersOf_1 : decode cX5_holdersOf 1 = .ok (.istore_n 2, 1) := by decide +kernel
theorem dX5_holdersOf_2 : decode cX5_holdersOf 2 = .ok (.iconst 0, 1) := by decide +kernel
theorem dX5_holdersOf_3 : decode cX5_holdersOf 3 = .ok (.istore_n 3, 1) := by decide +kernel
theorem dX5_holdersOf_4 : decode cX5_holdersOf 4 = .ok (.iload_n 3, 1) := by decide +kernel
theorem dX5_holdersOf_5 : decode cX5_holdersOf 5 = .ok (.aload_n 0, 1) := by decide +kernel
theorem dX5_holdersOf_6 : decode cX5_holdersOf 6 = .ok (.getfield 45, 3) := by decide +kernel
theorem dX5_holdersOf_9 : decode cX5_holdersOf 9 = .ok (.if_icmp .ge 28, 3) := by decide +kernel
theorem dX5_holdersOf_12 : decode cX5_holdersOf 12 = .ok (.aload_n 0, 1) := by decide +kernel
theorem dX5_holdersOf_13 : decode cX5_holdersOf 13 = .ok (.getfield 51, 3) := by decide +kernel
theorem dX5_holdersOf_16 : decode cX5_holdersOf 16 = .ok (.iload_n 3, 1) := by decide +kernel
theorem dX5_holdersOf_17 : decode cX5_holdersOf 17 = .ok (.laload, 1) := by decide +kernel
theorem dX5_holdersOf_18 : decode cX5_holdersOf 18 = .ok (.iload_n 1, 1) := by decide +kernel
theorem dX5_holdersOf_19 : decode cX5_holdersOf 19 = .ok (.invokestatic 31, 3) := by decide +kernel
theorem dX5_holdersOf_22 : decode cX5_holdersOf 22 = .ok (.ifCond .eq 9, 3) := by decide +kernel
theorem dX5_holdersOf_25 : decode cX5_holdersOf 25 = .ok (.iload_n 2, 1) := by decide +kernel
theorem dX5_holdersOf_26 : decode cX5_holdersOf 26 = .ok (.iconst 1, 1) := by decide +kernel
theorem dX5_holdersOf_27 : decode cX5_holdersOf 27 = .ok (.iload_n 3, 1) := by decide +kernel
theorem dX5_holdersOf_28 : decode cX5_holdersOf 28 = .ok (.ishl, 1) := by decide +kernel
theorem dX5_holdersOf_29 : decode cX5_holdersOf 29 = .ok (.ior, 1) := by decide +kernel
theorem dX5_holdersOf_30 : decode cX5_holdersOf 30 = .ok (.istore_n 2, 1) := by decide +kernel
theorem dX5_holdersOf_31 : decode cX5_holdersOf 31 = .ok (.iinc 3 1, 3) := by decide +kernel
theorem dX5_holdersOf_34 : decode cX5_holdersOf 34 = .ok (.goto (-30), 3) := by decide +kernel
theorem dX5_holdersOf_37 : decode cX5_holdersOf 37 = .ok (.iload_n 2, 1) := by decide +kernel
theorem dX5_holdersOf_38 : decode cX5_holdersOf 38 = .ok (.ireturn, 1) := by decide +kernel
theorem dX5_partsFrom_0 : decode cX5_partsFrom 0 = .ok (.iload_n 2, 1) := by decide +kernel
theorem dX5_partsFrom_1 : decode cX5_partsFrom 1 = .ok (.ifCond .eq 11, 3) := by decide +kernel
theorem dX5_partsFrom_4 : decode cX5_partsFrom 4 = .ok (.iload_n 1, 1) := by decide +kernel
theorem dX5_partsFrom_5 : decode cX5_partsFrom 5 = .ok (.aload_n 0, 1) := by decide +kernel
theorem dX5_partsFrom_6 : decode cX5_partsFrom 6 = .ok (.getfield 27, 3) := by decide +kernel
theorem dX5_partsFrom_9 : decode cX5_partsFrom 9 = .ok (.if_icmp .le 5, 3) := by decide +kernel
theorem dX5_partsFrom_12 : decode cX5_partsFrom 12 = .ok (.lconst 0, 1) := by decide +kernel
theorem dX5_partsFrom_13 : decode cX5_partsFrom 13 = .ok (.lreturn, 1) := by decide +kernel
theorem dX5_partsFrom_14 : decode cX5_partsFrom 14 = .ok (.iload_n 2, 1) := by decide +kernel
theorem dX5_partsFrom_15 : decode cX5_partsFrom 15 = .ok (.aload_n 0, 1) := by decide +kernel
theorem dX5_partsFrom_16 : decode cX5_partsFrom 16 = .ok (.getfield 18, 3) := by decide +kernel
theorem dX5_partsFrom_19 : decode cX5_partsFrom 19 = .ok (.iload_n 1, 1) := by decide +kernel
theorem dX5_partsFrom_20 : decode cX5_partsFrom 20 = .ok (.iaload, 1) := by decide +kernel
theorem dX5_partsFrom_21 : decode cX5_partsFrom 21 = .ok (.iand, 1) := by decide +kernel
theorem dX5_partsFrom_22 : decode cX5_partsFrom 22 = .ok (.ifCond .ne 11, 3) := by decide +kernel
theorem dX5_partsFrom_25 : decode cX5_partsFrom 25 = .ok (.iload_n 1, 1) := by decide +kernel
theorem dX5_partsFrom_26 : decode cX5_partsFrom 26 = .ok (.aload_n 0, 1) := by decide +kernel
theorem dX5_partsFrom_27 : decode cX5_partsFrom 27 = .ok (.getfield 27, 3) := by decide +kernel
theorem dX5_partsFrom_30 : decode cX5_partsFrom 30 = .ok (.if_icmp .ne 12, 3) := by decide +kernel
theorem dX5_partsFrom_33 : decode cX5_partsFrom 33 = .ok (.lconst 1, 1) := by decide +kernel
theorem dX5_partsFrom_34 : decode cX5_partsFrom 34 = .ok (.iconst 3, 1) := by decide +kernel
theorem dX5_partsFrom_35 : decode cX5_partsFrom 35 = .ok (.bipush 16, 2) := by decide +kernel
theorem dX5_partsFrom_37 : decode cX5_partsFrom 37 = .ok (.iload_n 1, 1) := by decide +kernel
theorem dX5_partsFrom_38 : decode cX5_partsFrom 38 = .ok (.isub, 1) := by decide +kernel
theorem dX5_partsFrom_39 : decode cX5_partsFrom 39 = .ok (.imul, 1) := by decide +kernel
theorem dX5_partsFrom_40 : decode cX5_partsFrom 40 = .ok (.lshl, 1) := by decide +kernel
theorem dX5_partsFrom_41 : decode cX5_partsFrom 41 = .ok (.lreturn, 1) := by decide +kernel
theorem dX5_partsFrom_42 : decode cX5_partsFrom 42 = .ok (.iload_n 2, 1) := by decide +kernel
theorem dX5_partsFrom_43 : decode cX5_partsFrom 43 = .ok (.aload_n 0, 1) := by decide +kernel
theorem dX5_partsFrom_44 : decode cX5_partsFrom 44 = .ok (.getfield 15, 3) := by decide +kernel
theorem dX5_partsFrom_47 : decode cX5_partsFrom 47 = .ok (.iload_n 1, 1) := by decide +kernel
theorem dX5_partsFrom_48 : decode cX5_partsFrom 48 = .ok (.iaload, 1) := by decide +kernel
theorem dX5_partsFrom_49 : decode cX5_partsFrom 49 = .ok (.iand, 1) := by decide +kernel
theorem dX5_partsFrom_50 : decode cX5_partsFrom 50 = .ok (.ifCond .ne 16, 3) := by decide +kernel
theorem dX5_partsFrom_53 : decode cX5_partsFrom 53 = .ok (.ldc2_w 55, 3) := by decide +kernel
theorem dX5_partsFrom_56 : decode cX5_partsFrom 56 = .ok (.aload_n 0, 1) := by decide +kernel
theorem dX5_partsFrom_57 : decode cX5_partsFrom 57 = .ok (.iload_n 1, 1) := by decide +kernel
theorem dX5_partsFrom_58 : decode cX5_partsFrom 58 = .ok (.iconst 1, 1) := by decide +kernel
theorem dX5_partsFrom_59 : decode cX5_partsFrom 59 = .ok (.iadd, 1) := by decide +kernel
theorem dX5_partsFrom_60 : decode cX5_partsFrom 60 = .ok (.iload_n 2, 1) := by decide +kernel
theorem dX5_partsFrom_61 : decode cX5_partsFrom 61 = .ok (.invokevirtual 48, 3) := by decide +kernel
theorem dX5_partsFrom_64 : decode cX5_partsFrom 64 = .ok (.lmul, 1) := by decide +kernel
theorem dX5_partsFrom_65 : decode cX5_partsFrom 65 = .ok (.lreturn, 1) := by decide +kernel
theorem dX5_partsFrom_66 : decode cX5_partsFrom 66 = .ok (.lconst 0, 1) := by decide +kernel
theorem dX5_partsFrom_67 : decode cX5_partsFrom 67 = .ok (.lstore_n 3, 1) := by decide +kernel
theorem dX5_partsFrom_68 : decode cX5_partsFrom 68 = .ok (.aload_n 0, 1) := by decide +kernel
theorem dX5_partsFrom_69 : decode cX5_partsFrom 69 = .ok (.getfield 9, 3) := by decide +kernel
theorem dX5_partsFrom_72 : decode cX5_partsFrom 72 = .ok (.iload_n 1, 1) := by decide +kernel
theorem dX5_partsFrom_73 : decode cX5_partsFrom 73 = .ok (.iaload, 1) := by decide +kernel
theorem dX5_partsFrom_74 : decode cX5_partsFrom 74 = .ok (.ifCond .le 22, 3) := by decide +kernel
theorem dX5_partsFrom_77 : decode cX5_partsFrom 77 = .ok (.lload_n 3, 1) := by decide +kernel
theorem dX5_partsFrom_78 : decode cX5_partsFrom 78 = .ok (.aload_n 0, 1) := by decide +kernel
theorem dX5_partsFrom_79 : decode cX5_partsFrom 79 = .ok (.getfield 9, 3) := by decide +kernel
theorem dX5_partsFrom_82 : decode cX5_partsFrom 82 = .ok (.iload_n 1, 1) := by decide +kernel
theorem dX5_partsFrom_83 : decode cX5_partsFrom 83 = .ok (.iaload, 1) := by decide +kernel
theorem dX5_partsFrom_84 : decode cX5_partsFrom 84 = .ok (.i2l, 1) := by decide +kernel
theorem dX5_partsFrom_85 : decode cX5_partsFrom 85 = .ok (.aload_n 0, 1) := by decide +kernel
theorem dX5_partsFrom_86 : decode cX5_partsFrom 86 = .ok (.iload_n 1, 1) := by decide +kernel
theorem dX5_partsFrom_87 : decode cX5_partsFrom 87 = .ok (.iconst 1, 1) := by decide +kernel
theorem dX5_partsFrom_88 : decode cX5_partsFrom 88 = .ok (.iadd, 1) := by decide +kernel
theorem dX5_partsFrom_89 : decode cX5_partsFrom 89 = .ok (.iload_n 2, 1) := by decide +kernel
theorem dX5_partsFrom_90 : decode cX5_partsFrom 90 = .ok (.invokevirtual 48, 3) := by decide +kernel
theorem dX5_partsFrom_93 : decode cX5_partsFrom 93 = .ok (.lmul, 1) := by decide +kernel
theorem dX5_partsFrom_94 : decode cX5_partsFrom 94 = .ok (.ladd, 1) := by decide +kernel
theorem dX5_partsFrom_95 : decode cX5_partsFrom 95 = .ok (.lstore_n 3, 1) := by decide +kernel
theorem dX5_partsFrom_96 : decode cX5_partsFrom 96 = .ok (.aload_n 0, 1) := by decide +kernel
theorem dX5_partsFrom_97 : decode cX5_partsFrom 97 = .ok (.getfield 9, 3) := by decide +kernel
theorem dX5_partsFrom_100 : decode cX5_partsFrom 100 = .ok (.iload_n 1, 1) := by decide +kernel
theorem dX5_partsFrom_101 : decode cX5_partsFrom 101 = .ok (.iaload, 1) := by decide +kernel
theorem dX5_partsFrom_102 : decode cX5_partsFrom 102 = .ok (.bipush 8, 2) := by decide +kernel
theorem dX5_partsFrom_104 : decode cX5_partsFrom 104 = .ok (.if_icmp .ge 34, 3) := by decide +kernel
theorem dX5_partsFrom_107 : decode cX5_partsFrom 107 = .ok (.lload_n 3, 1) := by decide +kernel
theorem dX5_partsFrom_108 : decode cX5_partsFrom 108 = .ok (.bipush 8, 2) := by decide +kernel
theorem dX5_partsFrom_110 : decode cX5_partsFrom 110 = .ok (.aload_n 0, 1) := by decide +kernel
theorem dX5_partsFrom_111 : decode cX5_partsFrom 111 = .ok (.getfield 9, 3) := by decide +kernel
theorem dX5_partsFrom_114 : decode cX5_partsFrom 114 = .ok (.iload_n 1, 1) := by decide +kernel
theorem dX5_partsFrom_115 : decode cX5_partsFrom 115 = .ok (.iaload, 1) := by decide +kernel
theorem dX5_partsFrom_116 : decode cX5_partsFrom 116 = .ok (.isub, 1) := by decide +kernel
theorem dX5_partsFrom_117 : decode cX5_partsFrom 117 = .ok (.i2l, 1) := by decide +kernel
theorem dX5_partsFrom_118 : decode cX5_partsFrom 118 = .ok (.aload_n 0, 1) := by decide +kernel
theorem dX5_partsFrom_119 : decode cX5_partsFrom 119 = .ok (.iload_n 1, 1) := by decide +kernel
theorem dX5_partsFrom_120 : decode cX5_partsFrom 120 = .ok (.iconst 1, 1) := by decide +kernel
theorem dX5_partsFrom_121 : decode cX5_partsFrom 121 = .ok (.iadd, 1) := by decide +kernel
theorem dX5_partsFrom_122 : decode cX5_partsFrom 122 = .ok (.iload_n 2, 1) := by decide +kernel
theorem dX5_partsFrom_123 : decode cX5_partsFrom 123 = .ok (.aload_n 0, 1) := by decide +kernel
theorem dX5_partsFrom_124 : decode cX5_partsFrom 124 = .ok (.getfield 15, 3) := by decide +kernel
theorem dX5_partsFrom_127 : decode cX5_partsFrom 127 = .ok (.iload_n 1, 1) := by decide +kernel
theorem dX5_partsFrom_128 : decode cX5_partsFrom 128 = .ok (.iaload, 1) := by decide +kernel
theorem dX5_partsFrom_129 : decode cX5_partsFrom 129 = .ok (.iconst (-1), 1) := by decide +kernel
theorem dX5_partsFrom_130 : decode cX5_partsFrom 130 = .ok (.ixor, 1) := by decide +kernel
theorem dX5_partsFrom_131 : decode cX5_partsFrom 131 = .ok (.iand, 1) := by decide +kernel
theorem dX5_partsFrom_132 : decode cX5_partsFrom 132 = .ok (.invokevirtual 48, 3) := by decide +kernel
theorem dX5_partsFrom_135 : decode cX5_partsFrom 135 = .ok (.lmul, 1) := by decide +kernel
theorem dX5_partsFrom_136 : decode cX5_partsFrom 136 = .ok (.ladd, 1) := by decide +kernel
theorem dX5_partsFrom_137 : decode cX5_partsFrom 137 = .ok (.lstore_n 3, 1) := by decide +kernel
theorem dX5_partsFrom_138 : decode cX5_partsFrom 138 = .ok (.lload_n 3, 1) := by decide +kernel
theorem dX5_partsFrom_139 : decode cX5_partsFrom 139 = .ok (.lreturn, 1) := by decide +kernel
theorem dX6_init_0 : decode cX6_init 0 = .ok (.aload_n 0, 1) := by decide +kernel
theorem dX6_init_1 : decode cX6_init 1 = .ok (.invokespecial 3, 3) := by decide +kernel
theorem dX6_init_4 : decode cX6_init 4 = .ok (.aload_n 0, 1) := by decide +kernel
theorem dX6_init_5 : decode cX6_init 5 = .ok (.bipush 10, 2) := by decide +kernel
theorem dX6_init_7 : decode cX6_init 7 = .ok (.newarray .int, 2) := by decide +kernel
theorem dX6_init_9 : decode cX6_init 9 = .ok (.putfield 9, 3) := by decide +kernel
theorem dX6_init_12 : decode cX6_init 12 = .ok (.aload_n 0, 1) := by decide +kernel
theorem dX6_init_13 : decode cX6_init 13 = .ok (.bipush 60, 2) := by decide +kernel
theorem dX6_init_15 : decode cX6_init 15 = .ok (.newarray .int, 2) := by decide +kernel
theorem dX6_init_17 : decode cX6_init 17 = .ok (.putfield 15, 3) := by decide +kernel
theorem dX6_init_20 : decode cX6_init 20 = .ok (.aload_n 0, 1) := by decide +kernel
theorem dX6_init_21 : decode cX6_init 21 = .ok (.sipush 240, 3) := by decide +kernel
theorem dX6_init_24 : decode cX6_init 24 = .ok (.newarray .int, 2) := by decide +kernel
theorem dX6_init_26 : decode cX6_init 26 = .ok (.putfield 18, 3) := by decide +kernel
theorem dX6_init_29 : decode cX6_init 29 = .ok (.aload_n 0, 1) := by decide +kernel
theorem dX6_init_30 : decode cX6_init 30 = .ok (.sipush 240, 3) := by decide +kernel
theorem dX6_init_33 : decode cX6_init 33 = .ok (.newarray .long, 2) := by decide +kernel
theorem dX6_init_35 : decode cX6_init 35 = .ok (.putfield 21, 3) := by decide +kernel
theorem dX6_init_38 : decode cX6_init 38 = .ok (.return_, 1) := by decide +kernel
theorem dX6_isTable_0 : decode cX6_isTable 0 = .ok (.iload_n 1, 1) := by decide +kernel
theorem dX6_isTable_1 : decode cX6_isTable 1 = .ok (.ifCond .lt 15, 3) := by decide +kernel
theorem dX6_isTable_4 : decode cX6_isTable 4 = .ok (.iload_n 1, 1) := by decide +kernel
theorem dX6_isTable_5 : decode cX6_isTable 5 = .ok (.aload_n 0, 1) := by decide +kernel
theorem dX6_isTable_6 : decode cX6_isTable 6 = .ok (.getfield 25, 3) := by decide +kernel
theorem dX6_isTable_9 : decode cX6_isTable 9 = .ok (.if_icmp .ge 7, 3) := by decide +kernel
theorem dX6_isTable_12 : decode cX6_isTable 12 = .ok (.iconst 1, 1) := by decide +kernel
theorem dX6_isTable_13 : decode cX6_isTable 13 = .ok (.goto 4, 3) := by decide +kernel
theorem dX6_isTable_16 : decode cX6_isTable 16 = .ok (.iconst 0, 1) := by decide +kernel
theorem dX6_isTable_17 : decode cX6_isTable 17 = .ok (.ireturn, 1) := by decide +kernel
theorem dX6_isFact_0 : decode cX6_isFact 0 = .ok (.iload_n 1, 1) := by decide +kernel
theorem dX6_isFact_1 : decode cX6_isFact 1 = .ok (.ifCond .lt 15, 3) := by decide +kernel
theorem dX6_isFact_4 : decode cX6_isFact 4 = .ok (.iload_n 1, 1) := by decide +kernel
theorem dX6_isFact_5 : decode cX6_isFact 5 = .ok (.aload_n 0, 1) := by decide +kernel
theorem dX6_isFact_6 : decode cX6_isFact 6 = .ok (.getfield 29, 3) := by decide +kernel
theorem dX6_isFact_9 : decode cX6_isFact 9 = .ok (.if_icmp .ge 7, 3) := by decide +kernel
theorem dX6_isFact_12 : decode cX6_isFact 12 = .ok (.iconst 1, 1) := by decide +kernel
theorem dX6_isFact_13 : decode cX6_isFact 13 = .ok (.goto 4, 3) := by decide +kernel
theorem dX6_isFact_16 : decode cX6_isFact 16 = .ok (.iconst 0, 1) := by decide +kernel
theorem dX6_isFact_17 : decode cX6_isFact 17 = .ok (.ireturn, 1) := by decide +kernel
theorem dX6_newTable_0 : decode cX6_newTable 0 = .ok (.aload_n 0, 1) := by decide +kernel
theorem dX6_newTable_1 : decode cX6_newTable 1 = .ok (.getfield 9, 3) := by decide +kernel
theorem dX6_newTable_4 : decode cX6_newTable 4 = .ok (.aload_n 0, 1) := by decide +kernel
theorem dX6_newTable_5 : decode cX6_newTable 5 = .ok (.getfield 25, 3) := by decide +kernel
theorem dX6_newTable_8 : decode cX6_newTable 8 = .ok (.iload_n 1, 1) := by decide +kernel
theorem dX6_newTable_9 : decode cX6_newTable 9 = .ok (.iastore, 1) := by decide +kernel
theorem dX6_newTable_10 : decode cX6_newTable 10 = .ok (.aload_n 0, 1) := by decide +kernel
theorem dX6_newTable_11 : decode cX6_newTable 11 = .ok (.dup, 1) := by decide +kernel
theorem dX6_newTable_12 : decode cX6_newTable 12 = .ok (.getfield 25, 3) := by decide +kernel
theorem dX6_newTable_15 : decode cX6_newTable 15 = .ok (.iconst 1, 1) := by decide +kernel
theorem dX6_newTable_16 : decode cX6_newTable 16 = .ok (.iadd, 1) := by decide +kernel
theorem dX6_newTable_17 : decode cX6_newTable 17 = .ok (.putfield 25, 3) := by decide +kernel
theorem dX6_newTable_20 : decode cX6_newTable 20 = .ok (.aload_n 0, 1) := by decide +kernel
theorem dX6_newTable_21 : decode cX6_newTable 21 = .ok (.getfield 25, 3) := by decide +kernel
theorem dX6_newTable_24 : decode cX6_newTable 24 = .ok (.iconst 1, 1) := by decide +kernel
theorem dX6_newTable_25 : decode cX6_newTable 25 = .ok (.isub, 1) := by decide +kernel
theorem dX6_newTable_26 : decode cX6_newTable 26 = .ok (.ireturn, 1) := by decide +kernel
theorem dX6_newFact_0 : decode cX6_newFact 0 = .ok (.aload_n 0, 1) := by decide +kernel
theorem dX6_newFact_1 : decode cX6_newFact 1 = .ok (.getfield 29, 3) := by decide +kernel
theorem dX6_newFact_4 : decode cX6_newFact 4 = .ok (.istore 6, 2) := by decide +kernel
theorem dX6_newFact_6 : decode cX6_newFact 6 = .ok (.aload_n 0, 1) := by decide +kernel
theorem dX6_newFact_7 : decode cX6_newFact 7 = .ok (.dup, 1) := by decide +kernel
theorem dX6_newFact_8 : decode cX6_newFact 8 = .ok (.getfield 29, 3) := by decide +kernel
theorem dX6_newFact_11 : decode cX6_newFact 11 = .ok (.iconst 1, 1) := by decide +kernel
theorem dX6_newFact_12 : decode cX6_newFact 12 = .ok (.iadd, 1) := by decide +kernel
theorem dX6_newFact_13 : decode cX6_newFact 13 = .ok (.putfield 29, 3) := by decide +kernel
theorem dX6_newFact_16 : decode cX6_newFact 16 = .ok (.aload_n 0, 1) := by decide +kernel
theorem dX6_newFact_17 : decode cX6_newFact 17 = .ok (.getfield 15, 3) := by decide +kernel
theorem dX6_newFact_20 : decode cX6_newFact 20 = .ok (.iload 6, 2) := by decide +kernel
theorem dX6_newFact_22 : decode cX6_newFact 22 = .ok (.iload_n 1, 1) := by decide +kernel
theorem dX6_newFact_23 : decode cX6_newFact 23 = .ok (.iastore, 1) := by decide +kernel
theorem dX6_newFact_24 : decode cX6_newFact 24 = .ok (.iload 6, 2) := by decide +kernel
theorem dX6_newFact_26 : decode cX6_newFact 26 = .ok (.iconst 4, 1) := by decide +kernel
theorem dX6_newFact_27 : decode cX6_newFact 27 = .ok (.imul, 1) := by decide +kernel
theorem dX6_newFact_28 : decode cX6_newFact 28 = .ok (.istore 7, 2) := by decide +kernel
theorem dX6_newFact_30 : decode cX6_newFact 30 = .ok (.aload_n 0, 1) := by decide +kernel
theorem dX6_newFact_31 : decode cX6_newFact 31 = .ok (.getfield 18, 3) := by decide +kernel
theorem dX6_newFact_34 : decode cX6_newFact 34 = .ok (.iload 7, 2) := by decide +kernel
theorem dX6_newFact_36 : decode cX6_newFact 36 = .ok (.iload_n 2, 1) := by decide +kernel
theorem dX6_newFact_37 : decode cX6_newFact 37 = .ok (.iastore, 1) := by decide +kernel
theorem dX6_newFact_38 : decode cX6_newFact 38 = .ok (.aload_n 0, 1) := by decide +kernel
theorem dX6_newFact_39 : decode cX6_newFact 39 = .ok (.getfield 18, 3) := by decide +kernel
theorem dX6_newFact_42 : decode cX6_newFact 42 = .ok (.iload 7, 2) := by decide +kernel
theorem dX6_newFact_44 : decode cX6_newFact 44 = .ok (.iconst 1, 1) := by decide +kernel
theorem dX6_newFact_45 : decode cX6_newFact 45 = .ok (.iadd, 1) := by decide +kernel
theorem dX6_newFact_46 : decode cX6_newFact 46 = .ok (.iload_n 3, 1) := by decide +kernel
theorem dX6_newFact_47 : decode cX6_newFact 47 = .ok (.iastore, 1) := by decide +kernel
theorem dX6_newFact_48 : decode cX6_newFact 48 = .ok (.aload_n 0, 1) := by decide +kernel
theorem dX6_newFact_49 : decode cX6_newFact 49 = .ok (.getfield 18, 3) := by decide +kernel
theorem dX6_newFact_52 : decode cX6_newFact 52 = .ok (.iload 7, 2) := by decide +kernel
theorem dX6_newFact_54 : decode cX6_newFact 54 = .ok (.iconst 2, 1) := by decide +kernel
theorem dX6_newFact_55 : decode cX6_newFact 55 = .ok (.iadd, 1) := by decide +kernel
theorem dX6_newFact_56 : decode cX6_newFact 56 = .ok (.iload 4, 2) := by decide +kernel
theorem dX6_newFact_58 : decode cX6_newFact 58 = .ok (.iastore, 1) := by decide +kernel
theorem dX6_newFact_59 : decode cX6_newFact 59 = .ok (.aload_n 0, 1) := by decide +kernel
theorem dX6_newFact_60 : decode cX6_newFact 60 = .ok (.getfield 18, 3) := by decide +kernel
theorem dX6_newFact_63 : decode cX6_newFact 63 = .ok (.iload 7, 2) := by decide +kernel
theorem dX6_newFact_65 : decode cX6_newFact 65 = .ok (.iconst 3, 1) := by decide +kernel
theorem dX6_newFact_66 : decode cX6_newFact 66 = .ok (.iadd, 1) := by decide +kernel
theorem dX6_newFact_67 : decode cX6_newFact 67 = .ok (.iload 5, 2) := by decide +kernel
theorem dX6_newFact_69 : decode cX6_newFact 69 = .ok (.iastore, 1) := by decide +kernel
theorem dX6_newFact_70 : decode cX6_newFact 70 = .ok (.getstatic 32, 3) := by decide +kernel
theorem dX6_newFact_73 : decode cX6_newFact 73 = .ok (.iconst 0, 1) := by decide +kernel
theorem dX6_newFact_74 : decode cX6_newFact 74 = .ok (.aload_n 0, 1) := by decide +kernel
theorem dX6_newFact_75 : decode cX6_newFact 75 = .ok (.getfield 21, 3) := by decide +kernel
theorem dX6_newFact_78 : decode cX6_newFact 78 = .ok (.iload 6, 2) := by decide +kernel
theorem dX6_newFact_80 : decode cX6_newFact 80 = .ok (.iconst 4, 1) := by decide +kernel
theorem dX6_newFact_81 : decode cX6_newFact 81 = .ok (.imul, 1) := by decide +kernel
theorem dX6_newFact_82 : decode cX6_newFact 82 = .ok (.iconst 4, 1) := by decide +kernel
theorem dX6_newFact_83 : decode cX6_newFact 83 = .ok (.invokestatic 35, 3) := by decide +kernel
theorem dX6_newFact_86 : decode cX6_newFact 86 = .ok (.aload_n 0, 1) := by decide +kernel
theorem dX6_newFact_87 : decode cX6_newFact 87 = .ok (.iload 6, 2) := by decide +kernel
theorem dX6_newFact_89 : decode cX6_newFact 89 = .ok (.iconst 0, 1) := by decide +kernel
theorem dX6_newFact_90 : decode cX6_newFact 90 = .ok (.invokevirtual 41, 3) := by decide +kernel
theorem dX6_newFact_93 : decode cX6_newFact 93 = .ok (.iload 6, 2) := by decide +kernel
theorem dX6_newFact_95 : decode cX6_newFact 95 = .ok (.ireturn, 1) := by decide +kernel
theorem dX6_placesOf_0 : decode cX6_placesOf 0 = .ok (.aload_n 0, 1) := by decide +kernel
theorem dX6_placesOf_1 : decode cX6_placesOf 1 = .ok (.getfield 9, 3) := by decide +kernel
theorem dX6_placesOf_4 : decode cX6_placesOf 4 = .ok (.aload_n 0, 1) := by decide +kernel
theorem dX6_placesOf_5 : decode cX6_placesOf 5 = .ok (.getfield 15, 3) := by decide +kernel
theorem dX6_placesOf_8 : decode cX6_placesOf 8 = .ok (.iload_n 1, 1) := by decide +kernel
theorem dX6_placesOf_9 : decode cX6_placesOf 9 = .ok (.iaload, 1) := by decide +kernel
theorem dX6_placesOf_10 : decode cX6_placesOf 10 = .ok (.iaload, 1) := by decide +kernel
theorem dX6_placesOf_11 : decode cX6_placesOf 11 = .ok (.ireturn, 1) := by decide +kernel
theorem dX6_cell_0 : decode cX6_cell 0 = .ok (.aload_n 0, 1) := by decide +kernel
theorem dX6_cell_1 : decode cX6_cell 1 = .ok (.getfield 18, 3) := by decide +kernel
theorem dX6_cell_4 : decode cX6_cell 4 = .ok (.iload_n 1, 1) := by decide +kernel
theorem dX6_cell_5 : decode cX6_cell 5 = .ok (.iconst 4, 1) := by decide +kernel
theorem dX6_cell_6 : decode cX6_cell 6 = .ok (.imul, 1) := by decide +kernel
theorem dX6_cell_7 : decode cX6_cell 7 = .ok (.iload_n 2, 1) := by decide +kernel
theorem dX6_cell_8 : decode cX6_cell 8 = .ok (.iadd, 1) := by decide +kernel
theorem dX6_cell_9 : decode cX6_cell 9 = .ok (.iaload, 1) := by decide +kernel
theorem dX6_cell_10 : decode cX6_cell 10 = .ok (.ireturn, 1) := by decide +kernel
theorem dX6_weight_0 : decode cX6_weight 0 = .ok (.aload_n 0, 1) := by decide +kernel
theorem dX6_weight_1 : decode cX6_weight 1 = .ok (.getfield 21, 3) := by decide +kernel
theorem dX6_weight_4 : decode cX6_weight 4 = .ok (.iload_n 1, 1) := by decide +kernel
theorem dX6_weight_5 : decode cX6_weight 5 = .ok (.iconst 4, 1) := by decide +kernel
theorem dX6_weight_6 : decode cX6_weight 6 = .ok (.imul, 1) := by decide +kernel
theorem dX6_weight_7 : decode cX6_weight 7 = .ok (.iload_n 2, 1) := by decide +kernel
theorem dX6_weight_8 : decode cX6_weight 8 = .ok (.iadd, 1) := by decide +kernel
theorem dX6_weight_9 : decode cX6_weight 9 = .ok (.laload, 1) := by decide +kernel
theorem dX6_weight_10 : decode cX6_weight 10 = .ok (.lreturn, 1) := by decide +kernel
theorem dX6_weigh_0 : decode cX6_weigh 0 = .ok (.aload_n 0, 1) := by decide +kernel
theorem dX6_weigh_1 : decode cX6_weigh 1 = .ok (.getfield 21, 3) := by decide +kernel
theorem dX6_weigh_4 : decode cX6_weigh 4 = .ok (.iload_n 1, 1) := by decide +kernel
theorem dX6_weigh_5 : decode cX6_weigh 5 = .ok (.iconst 4, 1) := by decide +kernel
theorem dX6_weigh_6 : decode cX6_weigh 6 = .ok (.imul, 1) := by decide +kernel
theorem dX6_weigh_7 : decode cX6_weigh 7 = .ok (.iload_n 2, 1) := by decide +kernel
theorem dX6_weigh_8 : decode cX6_weigh 8 = .ok (.iadd, 1) := by decide +kernel
theorem dX6_weigh_9 : decode cX6_weigh 9 = .ok (.lload_n 3, 1) := by decide +kernel
theorem dX6_weigh_10 : decode cX6_weigh 10 = .ok (.lastore, 1) := by decide +kernel
theorem dX6_weigh_11 : decode cX6_weigh 11 = .ok (.return_, 1) := by decide +kernel
theorem dX6_isDropped_0 : decode cX6_isDropped 0 = .ok (.aload_n 0, 1) := by decide +kernel
theorem dX6_isDropped_1 : decode cX6_isDropped 1 = .ok (.getfield 45, 3) := by decide +kernel
theorem dX6_isDropped_4 : decode cX6_isDropped 4 = .ok (.iload_n 1, 1) := by decide +kernel
theorem dX6_isDropped_5 : decode cX6_isDropped 5 = .ok (.invokestatic 49, 3) := by decide +kernel
theorem dX6_isDropped_8 : decode cX6_isDropped 8 = .ok (.ireturn, 1) := by decide +kernel
theorem dX6_markDropped_0 : decode cX6_markDropped 0 = .ok (.iload_n 2, 1) := by decide +kernel
theorem dX6_markDropped_1 : decode cX6_markDropped 1 = .ok (.ifCond .eq 18, 3) := by decide +kernel
theorem dX6_markDropped_4 : decode cX6_markDropped 4 = .ok (.aload_n 0, 1) := by decide +kernel
theorem dX6_markDropped_5 : decode cX6_markDropped 5 = .ok (.dup, 1) := by decide +kernel
theorem dX6_markDropped_6 : decode cX6_markDropped 6 = .ok (.getfield 45, 3) := by decide +kernel
theorem dX6_markDropped_9 : decode cX6_markDropped 9 = .ok (.lconst 1, 1) := by decide +kernel
theorem dX6_markDropped_10 : decode cX6_markDropped 10 = .ok (.iload_n 1, 1) := by decide +kernel
theorem dX6_markDropped_11 : decode cX6_markDropped 11 = .ok (.lshl, 1) := by decide +kernel
theorem dX6_markDropped_12 : decode cX6_markDropped 12 = .ok (.lor, 1) := by decide +kernel
theorem dX6_markDropped_13 : decode cX6_markDropped 13 = .ok (.putfield 45, 3) := by decide +kernel
theorem dX6_markDropped_16 : decode cX6_markDropped 16 = .ok (.goto 19, 3) := by decide +kernel
theorem dX6_markDropped_19 : decode cX6_markDropped 19 = .ok (.aload_n 0, 1) := by decide +kernel
theorem dX6_markDropped_20 : decode cX6_markDropped 20 = .ok (.dup, 1) := by decide +kernel
theorem dX6_markDropped_21 : decode cX6_markDropped 21 = .ok (.getfield 45, 3) := by decide +kernel
theorem dX6_markDropped_24 : decode cX6_markDropped 24 = .ok (.lconst 1, 1) := by decide +kernel
theorem dX6_markDropped_25 : decode cX6_markDropped 25 = .ok (.iload_n 1, 1) := by decide +kernel
theorem dX6_markDropped_26 : decode cX6_markDropped 26 = .ok (.lshl, 1) := by decide +kernel
theorem dX6_markDropped_27 : decode cX6_markDropped 27 = .ok (.ldc2_w 53, 3) := by decide +kernel
theorem dX6_markDropped_30 : decode cX6_markDropped 30 = .ok (.lxor, 1) := by decide +kernel
theorem dX6_markDropped_31 : decode cX6_markDropped 31 = .ok (.land, 1) := by decide +kernel
theorem dX6_markDropped_32 : decode cX6_markDropped 32 = .ok (.putfield 45, 3) := by decide +kernel
theorem dX6_markDropped_35 : decode cX6_markDropped 35 = .ok (.return_, 1) := by decide +kernel
theorem dX7_init_0 : decode cX7_init 0 = .ok (.aload_n 0, 1) := by decide +kernel
theorem dX7_init_1 : decode cX7_init 1 = .ok (.invokespecial 3, 3) := by decide +kernel
theorem dX7_init_4 : decode cX7_init 4 = .ok (.aload_n 0, 1) := by decide +kernel
theorem dX7_init_5 : decode cX7_init 5 = .ok (.sipush 8208, 3) := by decide +kernel
theorem dX7_init_8 : decode cX7_init 8 = .ok (.newarray .long, 2) := by decide +kernel
theorem dX7_init_10 : decode cX7_init 10 = .ok (.putfield 9, 3) := by decide +kernel
theorem dX7_init_13 : decode cX7_init 13 = .ok (.return_, 1) := by decide +kernel
theorem dX7_clear_0 : decode cX7_clear 0 = .ok (.aload_n 0, 1) := by decide +kernel
theorem dX7_clear_1 : decode cX7_clear 1 = .ok (.iconst 0, 1) := by decide +kernel
theorem dX7_clear_2 : decode cX7_clear 2 = .ok (.putfield 15, 3) := by decide +kernel
theorem dX7_clear_5 : decode cX7_clear 5 = .ok (.aload_n 0, 1) := by decide +kernel
theorem dX7_clear_6 : decode cX7_clear 6 = .ok (.lconst 0, 1) := by decide +kernel
theorem dX7_clear_7 : decode cX7_clear 7 = .ok (.putfield 19, 3) := by decide +kernel
theorem dX7_clear_10 : decode cX7_clear 10 = .ok (.aload_n 0, 1) := by decide +kernel
theorem dX7_clear_11 : decode cX7_clear 11 = .ok (.ldc 23, 2) := by decide +kernel
theorem dX7_clear_13 : decode cX7_clear 13 = .ok (.putfield 24, 3) := by decide +kernel
theorem dX7_clear_16 : decode cX7_clear 16 = .ok (.aload_n 0, 1) := by decide +kernel
theorem dX7_clear_17 : decode cX7_clear 17 = .ok (.lconst 0, 1) := by decide +kernel
theorem dX7_clear_18 : decode cX7_clear 18 = .ok (.putfield 27, 3) := by decide +kernel
theorem dX7_clear_21 : decode cX7_clear 21 = .ok (.return_, 1) := by decide +kernel
theorem dX7_addWay_0 : decode cX7_addWay 0 = .ok (.iconst 0, 1) := by decide +kernel
theorem dX7_addWay_1 : decode cX7_addWay 1 = .ok (.istore_n 3, 1) := by decide +kernel
theorem dX7_addWay_2 : decode cX7_addWay 2 = .ok (.iconst 0, 1) := by decide +kernel
theorem dX7_addWay_3 : decode cX7_addWay 3 = .ok (.istore 4, 2) := by decide +kernel
theorem dX7_addWay_5 : decode cX7_addWay 5 = .ok (.iload 4, 2) := by decide +kernel
theorem dX7_addWay_7 : decode cX7_addWay 7 = .ok (.aload_n 0, 1) := by decide +kernel
theorem dX7_addWay_8 : decode cX7_addWay 8 = .ok (.getfield 15, 3) := by decide +kernel
theorem dX7_addWay_11 : decode cX7_addWay 11 = .ok (.if_icmp .ge 62, 3) := by decide +kernel
theorem dX7_addWay_14 : decode cX7_addWay 14 = .ok (.aload_n 0, 1) := by decide +kernel
theorem dX7_addWay_15 : decode cX7_addWay 15 = .ok (.getfield 9, 3) := by decide +kernel
theorem dX7_addWay_18 : decode cX7_addWay 18 = .ok (.iload 4, 2) := by decide +kernel
theorem dX7_addWay_20 : decode cX7_addWay 20 = .ok (.laload, 1) := by decide +kernel
theorem dX7_addWay_21 : decode cX7_addWay 21 = .ok (.lload_n 1, 1) := by decide +kernel
theorem dX7_addWay_22 : decode cX7_addWay 22 = .ok (.ldc2_w 30, 3) := by decide +kernel
theorem dX7_addWay_25 : decode cX7_addWay 25 = .ok (.lxor, 1) := by decide +kernel
theorem dX7_addWay_26 : decode cX7_addWay 26 = .ok (.land, 1) := by decide +kernel
theorem dX7_addWay_27 : decode cX7_addWay 27 = .ok (.lconst 0, 1) := by decide +kernel
theorem dX7_addWay_28 : decode cX7_addWay 28 = .ok (.lcmp, 1) := by decide +kernel
theorem dX7_addWay_29 : decode cX7_addWay 29 = .ok (.ifCond .ne 4, 3) := by decide +kernel
theorem dX7_addWay_32 : decode cX7_addWay 32 = .ok (.return_, 1) := by decide +kernel
theorem dX7_addWay_33 : decode cX7_addWay 33 = .ok (.lload_n 1, 1) := by decide +kernel
theorem dX7_addWay_34 : decode cX7_addWay 34 = .ok (.aload_n 0, 1) := by decide +kernel
theorem dX7_addWay_35 : decode cX7_addWay 35 = .ok (.getfield 9, 3) := by decide +kernel
theorem dX7_addWay_38 : decode cX7_addWay 38 = .ok (.iload 4, 2) := by decide +kernel
theorem dX7_addWay_40 : decode cX7_addWay 40 = .ok (.laload, 1) := by decide +kernel
theorem dX7_addWay_41 : decode cX7_addWay 41 = .ok (.ldc2_w 30, 3) := by decide +kernel
theorem dX7_addWay_44 : decode cX7_addWay 44 = .ok (.lxor, 1) := by decide +kernel
theorem dX7_addWay_45 : decode cX7_addWay 45 = .ok (.land, 1) := by decide +kernel
theorem dX7_addWay_46 : decode cX7_addWay 46 = .ok (.lconst 0, 1) := by decide +kernel
theorem dX7_addWay_47 : decode cX7_addWay 47 = .ok (.lcmp, 1) := by decide +kernel
theorem dX7_addWay_48 : decode cX7_addWay 48 = .ok (.ifCond .eq 19, 3) := by decide +kernel
theorem dX7_addWay_51 : decode cX7_addWay 51 = .ok (.aload_n 0, 1) := by decide +kernel
theorem dX7_addWay_52 : decode cX7_addWay 52 = .ok (.getfield 9, 3) := by decide +kernel
theorem dX7_addWay_55 : decode cX7_addWay 55 = .ok (.iload_n 3, 1) := by decide +kernel
theorem dX7_addWay_56 : decode cX7_addWay 56 = .ok (.aload_n 0, 1) := by decide +kernel
theorem dX7_addWay_57 : decode cX7_addWay 57 = .ok (.getfield 9, 3) := by decide +kernel
theorem dX7_addWay_60 : decode cX7_addWay 60 = .ok (.iload 4, 2) := by decide +kernel
theorem dX7_addWay_62 : decode cX7_addWay 62 = .ok (.laload, 1) := by decide +kernel
theorem dX7_addWay_63 : decode cX7_addWay 63 = .ok (.lastore, 1) := by decide +kernel
theorem dX7_addWay_64 : decode cX7_addWay 64 = .ok (.iinc 3 1, 3) := by decide +kernel
theorem dX7_addWay_67 : decode cX7_addWay 67 = .ok (.iinc 4 1, 3) := by decide +kernel
theorem dX7_addWay_70 : decode cX7_addWay 70 = .ok (.goto (-65), 3) := by decide +kernel
theorem dX7_addWay_73 : decode cX7_addWay 73 = .ok (.aload_n 0, 1) := by decide +kernel
theorem dX7_addWay_74 : decode cX7_addWay 74 = .ok (.iload_n 3, 1) := by decide +kernel
theorem dX7_addWay_75 : decode cX7_addWay 75 = .ok (.putfield 15, 3) := by decide +kernel
theorem dX7_addWay_78 : decode cX7_addWay 78 = .ok (.aload_n 0, 1) := by decide +kernel
theorem dX7_addWay_79 : decode cX7_addWay 79 = .ok (.getfield 15, 3) := by decide +kernel
theorem dX7_addWay_82 : decode cX7_addWay 82 = .ok (.sipush 8208, 3) := by decide +kernel
theorem dX7_addWay_85 : decode cX7_addWay 85 = .ok (.if_icmp .ge 23, 3) := by decide +kernel
theorem dX7_addWay_88 : decode cX7_addWay 88 = .ok (.aload_n 0, 1) := by decide +kernel
theorem dX7_addWay_89 : decode cX7_addWay 89 = .ok (.getfield 9, 3) := by decide +kernel
theorem dX7_addWay_92 : decode cX7_addWay 92 = .ok (.aload_n 0, 1) := by decide +kernel
theorem dX7_addWay_93 : decode cX7_addWay 93 = .ok (.getfield 15, 3) := by decide +kernel
theorem dX7_addWay_96 : decode cX7_addWay 96 = .ok (.lload_n 1, 1) := by decide +kernel
theorem dX7_addWay_97 : decode cX7_addWay 97 = .ok (.lastore, 1) := by decide +kernel
theorem dX7_addWay_98 : decode cX7_addWay 98 = .ok (.aload_n 0, 1) := by decide +kernel
theorem dX7_addWay_99 : decode cX7_addWay 99 = .ok (.dup, 1) := by decide +kernel
theorem dX7_addWay_100 : decode cX7_addWay 100 = .ok (.getfield 15, 3) := by decide +kernel
theorem dX7_addWay_103 : decode cX7_addWay 103 = .ok (.iconst 1, 1) := by decide +kernel
theorem dX7_addWay_104 : decode cX7_addWay 104 = .ok (.iadd, 1) := by decide +kernel
theorem dX7_addWay_105 : decode cX7_addWay 105 = .ok (.putfield 15, 3) := by decide +kernel
theorem dX7_addWay_108 : decode cX7_addWay 108 = .ok (.return_, 1) := by decide +kernel
theorem dX7_addWays_0 : decode cX7_addWays 0 = .ok (.iconst 0, 1) := by decide +kernel
theorem dX7_addWays_1 : decode cX7_addWays 1 = .ok (.istore_n 2, 1) := by decide +kernel
theorem dX7_addWays_2 : decode cX7_addWays 2 = .ok (.iload_n 2, 1) := by decide +kernel
theorem dX7_addWays_3 : decode cX7_addWays 3 = .ok (.aload_n 1, 1) := by decide +kernel
theorem dX7_addWays_4 : decode cX7_addWays 4 = .ok (.getfield 32, 3) := by decide +kernel
theorem dX7_addWays_7 : decode cX7_addWays 7 = .ok (.if_icmp .ge 19, 3) := by decide +kernel
theorem dX7_addWays_10 : decode cX7_addWays 10 = .ok (.aload_n 0, 1) := by decide +kernel
theorem dX7_addWays_11 : decode cX7_addWays 11 = .ok (.aload_n 1, 1) := by decide +kernel
theorem dX7_addWays_12 : decode cX7_addWays 12 = .ok (.getfield 37, 3) := by decide +kernel
theorem dX7_addWays_15 : decode cX7_addWays 15 = .ok (.iload_n 2, 1) := by decide +kernel
theorem dX7_addWays_16 : decode cX7_addWays 16 = .ok (.laload, 1) := by decide +kernel
theorem dX7_addWays_17 : decode cX7_addWays 17 = .ok (.invokevirtual 38, 3) := by decide +kernel
theorem dX7_addWays_20 : decode cX7_addWays 20 = .ok (.iinc 2 1, 3) := by decide +kernel
theorem dX7_addWays_23 : decode cX7_addWays 23 = .ok (.goto (-21), 3) := by decide +kernel
theorem dX7_addWays_26 : decode cX7_addWays 26 = .ok (.return_, 1) := by decide +kernel
theorem dX7_addUnions_0 : decode cX7_addUnions 0 = .ok (.iconst 0, 1) := by decide +kernel
theorem dX7_addUnions_1 : decode cX7_addUnions 1 = .ok (.istore_n 3, 1) := by decide +kernel
theorem dX7_addUnions_2 : decode cX7_addUnions 2 = .ok (.iload_n 3, 1) := by decide +kernel
theorem dX7_addUnions_3 : decode cX7_addUnions 3 = .ok (.aload_n 1, 1) := by decide +kernel
theorem dX7_addUnions_4 : decode cX7_addUnions 4 = .ok (.getfield 32, 3) := by decide +kernel
theorem dX7_addUnions_7 : decode cX7_addUnions 7 = .ok (.if_icmp .ge 45, 3) := by decide +kernel
theorem dX7_addUnions_10 : decode cX7_addUnions 10 = .ok (.iconst 0, 1) := by decide +kernel
theorem dX7_addUnions_11 : decode cX7_addUnions 11 = .ok (.istore 4, 2) := by decide +kernel
theorem dX7_addUnions_13 : decode cX7_addUnions 13 = .ok (.iload 4, 2) := by decide +kernel
theorem dX7_addUnions_15 : decode cX7_addUnions 15 = .ok (.aload_n 2, 1) := by decide +kernel
theorem dX7_addUnions_16 : decode cX7_addUnions 16 = .ok (.getfield 32, 3) := by decide +kernel
theorem dX7_addUnions_19 : decode cX7_addUnions 19 = .ok (.if_icmp .ge 27, 3) := by decide +kernel
theorem dX7_addUnions_22 : decode cX7_addUnions 22 = .ok (.aload_n 0, 1) := by decide +kernel
theorem dX7_addUnions_23 : decode cX7_addUnions 23 = .ok (.aload_n 1, 1) := by decide +kernel
theorem dX7_addUnions_24 : decode cX7_addUnions 24 = .ok (.getfield 37, 3) := by decide +kernel
theorem dX7_addUnions_27 : decode cX7_addUnions 27 = .ok (.iload_n 3, 1) := by decide +kernel
theorem dX7_addUnions_28 : decode cX7_addUnions 28 = .ok (.laload, 1) := by decide +kernel
theorem dX7_addUnions_29 : decode cX7_addUnions 29 = .ok (.aload_n 2, 1) := by decide +kernel
theorem dX7_addUnions_30 : decode cX7_addUnions 30 = .ok (.getfield 37, 3) := by decide +kernel
theorem dX7_addUnions_33 : decode cX7_addUnions 33 = .ok (.iload 4, 2) := by decide +kernel
theorem dX7_addUnions_35 : decode cX7_addUnions 35 = .ok (.laload, 1) := by decide +kernel
theorem dX7_addUnions_36 : decode cX7_addUnions 36 = .ok (.lor, 1) := by decide +kernel
theorem dX7_addUnions_37 : decode cX7_addUnions 37 = .ok (.invokevirtual 38, 3) := by decide +kernel
theorem dX7_addUnions_40 : decode cX7_addUnions 40 = .ok (.iinc 4 1, 3) := by decide +kernel
theorem dX7_addUnions_43 : decode cX7_addUnions 43 = .ok (.goto (-30), 3) := by decide +kernel
theorem dX7_addUnions_46 : decode cX7_addUnions 46 = .ok (.iinc 3 1, 3) := by decide +kernel
theorem dX7_addUnions_49 : decode cX7_addUnions 49 = .ok (.goto (-47), 3) := by decide +kernel
theorem dX7_addUnions_52 : decode cX7_addUnions 52 = .ok (.return_, 1) := by decide +kernel
theorem dX7_addReadings_0 : decode cX7_addReadings 0 = .ok (.aload_n 0, 1) := by decide +kernel
theorem dX7_addReadings_1 : decode cX7_addReadings 1 = .ok (.dup, 1) := by decide +kernel
theorem dX7_addReadings_2 : decode cX7_addReadings 2 = .ok (.getfield 19, 3) := by decide +kernel
theorem dX7_addReadings_5 : decode cX7_addReadings 5 = .ok (.aload_n 1, 1) := by decide +kernel
theorem dX7_addReadings_6 : decode cX7_addReadings 6 = .ok (.getfield 42, 3) := by decide +kernel
theorem dX7_addReadings_9 : decode cX7_addReadings 9 = .ok (.ladd, 1) := by decide +kernel
theorem dX7_addReadings_10 : decode cX7_addReadings 10 = .ok (.putfield 19, 3) := by decide +kernel
theorem dX7_addReadings_13 : decode cX7_addReadings 13 = .ok (.aload_n 0, 1) := by decide +kernel
theorem dX7_addReadings_14 : decode cX7_addReadings 14 = .ok (.aload_n 0, 1) := by decide +kernel
theorem dX7_addReadings_15 : decode cX7_addReadings 15 = .ok (.getfield 24, 3) := by decide +kernel
theorem dX7_addReadings_18 : decode cX7_addReadings 18 = .ok (.aload_n 1, 1) := by decide +kernel
theorem dX7_addReadings_19 : decode cX7_addReadings 19 = .ok (.getfield 43, 3) := by decide +kernel
theorem dX7_addReadings_22 : decode cX7_addReadings 22 = .ok (.invokestatic 44, 3) := by decide +kernel
theorem dX7_addReadings_25 : decode cX7_addReadings 25 = .ok (.putfield 24, 3) := by decide +kernel
theorem dX7_addReadings_28 : decode cX7_addReadings 28 = .ok (.aload_n 0, 1) := by decide +kernel
theorem dX7_addReadings_29 : decode cX7_addReadings 29 = .ok (.aload_n 0, 1) := by decide +kernel
theorem dX7_addReadings_30 : decode cX7_addReadings 30 = .ok (.getfield 27, 3) := by decide +kernel
theorem dX7_addReadings_33 : decode cX7_addReadings 33 = .ok (.aload_n 1, 1) := by decide +kernel
theorem dX7_addReadings_34 : decode cX7_addReadings 34 = .ok (.getfield 50, 3) := by decide +kernel
theorem dX7_addReadings_37 : decode cX7_addReadings 37 = .ok (.invokestatic 51, 3) := by decide +kernel
theorem dX7_addReadings_40 : decode cX7_addReadings 40 = .ok (.putfield 27, 3) := by decide +kernel
theorem dX7_addReadings_43 : decode cX7_addReadings 43 = .ok (.return_, 1) := by decide +kernel
theorem dX7_giveWays_0 : decode cX7_giveWays 0 = .ok (.aload_n 0, 1) := by decide +kernel
theorem dX7_giveWays_1 : decode cX7_giveWays 1 = .ok (.getfield 15, 3) := by decide +kernel
theorem dX7_giveWays_4 : decode cX7_giveWays 4 = .ok (.bipush 16, 2) := by decide +kernel
theorem dX7_giveWays_6 : decode cX7_giveWays 6 = .ok (.if_icmp .le 5, 3) := by decide +kernel
theorem dX7_giveWays_9 : decode cX7_giveWays 9 = .ok (.iconst 0, 1) := by decide +kernel
theorem dX7_giveWays_10 : decode cX7_giveWays 10 = .ok (.ireturn, 1) := by decide +kernel
theorem dX7_giveWays_11 : decode cX7_giveWays 11 = .ok (.iconst 0, 1) := by decide +kernel
theorem dX7_giveWays_12 : decode cX7_giveWays 12 = .ok (.istore_n 2, 1) := by decide +kernel
theorem dX7_giveWays_13 : decode cX7_giveWays 13 = .ok (.iload_n 2, 1) := by decide +kernel
theorem dX7_giveWays_14 : decode cX7_giveWays 14 = .ok (.aload_n 0, 1) := by decide +kernel
theorem dX7_giveWays_15 : decode cX7_giveWays 15 = .ok (.getfield 15, 3) := by decide +kernel
theorem dX7_giveWays_18 : decode cX7_giveWays 18 = .ok (.if_icmp .ge 65, 3) := by decide +kernel
theorem dX7_giveWays_21 : decode cX7_giveWays 21 = .ok (.iload_n 2, 1) := by decide +kernel
theorem dX7_giveWays_22 : decode cX7_giveWays 22 = .ok (.istore_n 3, 1) := by decide +kernel
theorem dX7_giveWays_23 : decode cX7_giveWays 23 = .ok (.iload_n 3, 1) := by decide +kernel
theorem dX7_giveWays_24 : decode cX7_giveWays 24 = .ok (.ifCond .le 41, 3) := by decide +kernel
theorem dX7_giveWays_27 : decode cX7_giveWays 27 = .ok (.aload_n 1, 1) := by decide +kernel
theorem dX7_giveWays_28 : decode cX7_giveWays 28 = .ok (.getfield 37, 3) := by decide +kernel
theorem dX7_giveWays_31 : decode cX7_giveWays 31 = .ok (.iload_n 3, 1) := by decide +kernel
theorem dX7_giveWays_32 : decode cX7_giveWays 32 = .ok (.iconst 1, 1) := by decide +kernel
theorem dX7_giveWays_33 : decode cX7_giveWays 33 = .ok (.isub, 1) := by decide +kernel
theorem dX7_giveWays_34 : decode cX7_giveWays 34 = .ok (.laload, 1) := by decide +kernel
theorem dX7_giveWays_35 : decode cX7_giveWays 35 = .ok (.aload_n 0, 1) := by decide +kernel
theorem dX7_giveWays_36 : decode cX7_giveWays 36 = .ok (.getfield 9, 3) := by decide +kernel
theorem dX7_giveWays_39 : decode cX7_giveWays 39 = .ok (.iload_n 2, 1) := by decide +kernel
theorem dX7_giveWays_40 : decode cX7_giveWays 40 = .ok (.laload, 1) := by decide +kernel
theorem dX7_giveWays_41 : decode cX7_giveWays 41 = .ok (.lcmp, 1) := by decide +kernel
theorem dX7_giveWays_42 : decode cX7_giveWays 42 = .ok (.ifCond .le 23, 3) := by decide +kernel
theorem dX7_giveWays_45 : decode cX7_giveWays 45 = .ok (.aload_n 1, 1) := by decide +kernel
theorem dX7_giveWays_46 : decode cX7_giveWays 46 = .ok (.getfield 37, 3) := by decide +kernel
theorem dX7_giveWays_49 : decode cX7_giveWays 49 = .ok (.iload_n 3, 1) := by decide +kernel
theorem dX7_giveWays_50 : decode cX7_giveWays 50 = .ok (.aload_n 1, 1) := by decide +kernel
theorem dX7_giveWays_51 : decode cX7_giveWays 51 = .ok (.getfield 37, 3) := by decide +kernel
theorem dX7_giveWays_54 : decode cX7_giveWays 54 = .ok (.iload_n 3, 1) := by decide +kernel
theorem dX7_giveWays_55 : decode cX7_giveWays 55 = .ok (.iconst 1, 1) := by decide +kernel
theorem dX7_giveWays_56 : decode cX7_giveWays 56 = .ok (.isub, 1) := by decide +kernel
theorem dX7_giveWays_57 : decode cX7_giveWays 57 = .ok (.laload, 1) := by decide +kernel
theorem dX7_giveWays_58 : decode cX7_giveWays 58 = .ok (.lastore, 1) := by decide +kernel
theorem dX7_giveWays_59 : decode cX7_giveWays 59 = .ok (.iinc 3 (-1), 3) := by decide +kernel
theorem dX7_giveWays_62 : decode cX7_giveWays 62 = .ok (.goto (-39), 3) := by decide +kernel
theorem dX7_giveWays_65 : decode cX7_giveWays 65 = .ok (.aload_n 1, 1) := by decide +kernel
theorem dX7_giveWays_66 : decode cX7_giveWays 66 = .ok (.getfield 37, 3) := by decide +kernel
theorem dX7_giveWays_69 : decode cX7_giveWays 69 = .ok (.iload_n 3, 1) := by decide +kernel
theorem dX7_giveWays_70 : decode cX7_giveWays 70 = .ok (.aload_n 0, 1) := by decide +kernel
theorem dX7_giveWays_71 : decode cX7_giveWays 71 = .ok (.getfield 9, 3) := by decide +kernel
theorem dX7_giveWays_74 : decode cX7_giveWays 74 = .ok (.iload_n 2, 1) := by decide +kernel
theorem dX7_giveWays_75 : decode cX7_giveWays 75 = .ok (.laload, 1) := by decide +kernel
theorem dX7_giveWays_76 : decode cX7_giveWays 76 = .ok (.lastore, 1) := by decide +kernel
theorem dX7_giveWays_77 : decode cX7_giveWays 77 = .ok (.iinc 2 1, 3) := by decide +kernel
theorem dX7_giveWays_80 : decode cX7_giveWays 80 = .ok (.goto (-67), 3) := by decide +kernel
theorem dX7_giveWays_83 : decode cX7_giveWays 83 = .ok (.aload_n 1, 1) := by decide +kernel
theorem dX7_giveWays_84 : decode cX7_giveWays 84 = .ok (.aload_n 0, 1) := by decide +kernel
theorem dX7_giveWays_85 : decode cX7_giveWays 85 = .ok (.getfield 15, 3) := by decide +kernel
theorem dX7_giveWays_88 : decode cX7_giveWays 88 = .ok (.putfield 32, 3) := by decide +kernel
theorem dX7_giveWays_91 : decode cX7_giveWays 91 = .ok (.iconst 1, 1) := by decide +kernel
theorem dX7_giveWays_92 : decode cX7_giveWays 92 = .ok (.ireturn, 1) := by decide +kernel
theorem dX7_giveAll_0 : decode cX7_giveAll 0 = .ok (.aload_n 1, 1) := by decide +kernel
theorem dX7_giveAll_1 : decode cX7_giveAll 1 = .ok (.aload_n 0, 1) := by decide +kernel
theorem dX7_giveAll_2 : decode cX7_giveAll 2 = .ok (.getfield 19, 3) := by decide +kernel
theorem dX7_giveAll_5 : decode cX7_giveAll 5 = .ok (.putfield 42, 3) := by decide +kernel
theorem dX7_giveAll_8 : decode cX7_giveAll 8 = .ok (.aload_n 1, 1) := by decide +kernel
theorem dX7_giveAll_9 : decode cX7_giveAll 9 = .ok (.aload_n 0, 1) := by decide +kernel
theorem dX7_giveAll_10 : decode cX7_giveAll 10 = .ok (.getfield 24, 3) := by decide +kernel
theorem dX7_giveAll_13 : decode cX7_giveAll 13 = .ok (.putfield 43, 3) := by decide +kernel
theorem dX7_giveAll_16 : decode cX7_giveAll 16 = .ok (.aload_n 1, 1) := by decide +kernel
theorem dX7_giveAll_17 : decode cX7_giveAll 17 = .ok (.aload_n 0, 1) := by decide +kernel
theorem dX7_giveAll_18 : decode cX7_giveAll 18 = .ok (.getfield 27, 3) := by decide +kernel
theorem dX7_giveAll_21 : decode cX7_giveAll 21 = .ok (.putfield 50, 3) := by decide +kernel
theorem dX7_giveAll_24 : decode cX7_giveAll 24 = .ok (.aload_n 0, 1) := by decide +kernel
theorem dX7_giveAll_25 : decode cX7_giveAll 25 = .ok (.aload_n 1, 1) := by decide +kernel
theorem dX7_giveAll_26 : decode cX7_giveAll 26 = .ok (.invokevirtual 55, 3) := by decide +kernel
theorem dX7_giveAll_29 : decode cX7_giveAll 29 = .ok (.ireturn, 1) := by decide +kernel
theorem dX8_init_0 : decode cX8_init 0 = .ok (.aload_n 0, 1) := by decide +kernel
theorem dX8_init_1 : decode cX8_init 1 = .ok (.invokespecial 3, 3) := by decide +kernel
theorem dX8_init_4 : decode cX8_init 4 = .ok (.aload_n 0, 1) := by decide +kernel
theorem dX8_init_5 : decode cX8_init 5 = .ok (.bipush 16, 2) := by decide +kernel
theorem dX8_init_7 : decode cX8_init 7 = .ok (.newarray .long, 2) := by decide +kernel
theorem dX8_init_9 : decode cX8_init 9 = .ok (.putfield 9, 3) := by decide +kernel
theorem dX8_init_12 : decode cX8_init 12 = .ok (.return_, 1) := by decide +kernel
theorem dX8_leastOf_0 : decode cX8_leastOf 0 = .ok (.aload_n 0, 1) := by decide +kernel
theorem dX8_leastOf_1 : decode cX8_leastOf 1 = .ok (.aload_n 1, 1) := by decide +kernel
theorem dX8_leastOf_2 : decode cX8_leastOf 2 = .ok (.getfield 15, 3) := by decide +kernel
theorem dX8_leastOf_5 : decode cX8_leastOf 5 = .ok (.putfield 21, 3) := by decide +kernel
theorem dX8_leastOf_8 : decode cX8_leastOf 8 = .ok (.aload_n 1, 1) := by decide +kernel
theorem dX8_leastOf_9 : decode cX8_leastOf 9 = .ok (.getfield 24, 3) := by decide +kernel
theorem dX8_leastOf_12 : decode cX8_leastOf 12 = .ok (.iconst 0, 1) := by decide +kernel
theorem dX8_leastOf_13 : decode cX8_leastOf 13 = .ok (.aload_n 0, 1) := by decide +kernel
theorem dX8_leastOf_14 : decode cX8_leastOf 14 = .ok (.getfield 9, 3) := by decide +kernel
theorem dX8_leastOf_17 : decode cX8_leastOf 17 = .ok (.iconst 0, 1) := by decide +kernel
theorem dX8_leastOf_18 : decode cX8_leastOf 18 = .ok (.aload_n 0, 1) := by decide +kernel
theorem dX8_leastOf_19 : decode cX8_leastOf 19 = .ok (.getfield 21, 3) := by decide +kernel
theorem dX8_leastOf_22 : decode cX8_leastOf 22 = .ok (.invokestatic 27, 3) := by decide +kernel
theorem dX8_leastOf_25 : decode cX8_leastOf 25 = .ok (.aload_n 0, 1) := by decide +kernel
theorem dX8_leastOf_26 : decode cX8_leastOf 26 = .ok (.invokevirtual 33, 3) := by decide +kernel
theorem dX8_leastOf_29 : decode cX8_leastOf 29 = .ok (.lreturn, 1) := by decide +kernel
theorem dX8_blameOf_0 : decode cX8_blameOf 0 = .ok (.bipush 60, 2) := by decide +kernel
theorem dX8_blameOf_2 : decode cX8_blameOf 2 = .ok (.istore_n 3, 1) := by decide +kernel
theorem dX8_blameOf_3 : decode cX8_blameOf 3 = .ok (.iconst 0, 1) := by decide +kernel
theorem dX8_blameOf_4 : decode cX8_blameOf 4 = .ok (.istore 4, 2) := by decide +kernel
theorem dX8_blameOf_6 : decode cX8_blameOf 6 = .ok (.iload 4, 2) := by decide +kernel
theorem dX8_blameOf_8 : decode cX8_blameOf 8 = .ok (.aload_n 1, 1) := by decide +kernel
theorem dX8_blameOf_9 : decode cX8_blameOf 9 = .ok (.getfield 15, 3) := by decide +kernel
theorem dX8_blameOf_12 : decode cX8_blameOf 12 = .ok (.if_icmp .ge 41, 3) := by decide +kernel
theorem dX8_blameOf_15 : decode cX8_blameOf 15 = .ok (.aload_n 1, 1) := by decide +kernel
theorem dX8_blameOf_16 : decode cX8_blameOf 16 = .ok (.getfield 24, 3) := by decide +kernel
theorem dX8_blameOf_19 : decode cX8_blameOf 19 = .ok (.iload 4, 2) := by decide +kernel
theorem dX8_blameOf_21 : decode cX8_blameOf 21 = .ok (.laload, 1) := by decide +kernel
theorem dX8_blameOf_22 : decode cX8_blameOf 22 = .ok (.iload_n 2, 1) := by decide +kernel
theorem dX8_blameOf_23 : decode cX8_blameOf 23 = .ok (.invokestatic 37, 3) := by decide +kernel
theorem dX8_blameOf_26 : decode cX8_blameOf 26 = .ok (.ifCond .eq 21, 3) := by decide +kernel
theorem dX8_blameOf_29 : decode cX8_blameOf 29 = .ok (.iload_n 3, 1) := by decide +kernel
theorem dX8_blameOf_30 : decode cX8_blameOf 30 = .ok (.aload_n 0, 1) := by decide +kernel
theorem dX8_blameOf_31 : decode cX8_blameOf 31 = .ok (.aload_n 1, 1) := by decide +kernel
theorem dX8_blameOf_32 : decode cX8_blameOf 32 = .ok (.iload_n 2, 1) := by decide +kernel
theorem dX8_blameOf_33 : decode cX8_blameOf 33 = .ok (.aload_n 1, 1) := by decide +kernel
theorem dX8_blameOf_34 : decode cX8_blameOf 34 = .ok (.getfield 24, 3) := by decide +kernel
theorem dX8_blameOf_37 : decode cX8_blameOf 37 = .ok (.iload 4, 2) := by decide +kernel
theorem dX8_blameOf_39 : decode cX8_blameOf 39 = .ok (.laload, 1) := by decide +kernel
theorem dX8_blameOf_40 : decode cX8_blameOf 40 = .ok (.invokevirtual 41, 3) := by decide +kernel
theorem dX8_blameOf_43 : decode cX8_blameOf 43 = .ok (.invokestatic 45, 3) := by decide +kernel
theorem dX8_blameOf_46 : decode cX8_blameOf 46 = .ok (.istore_n 3, 1) := by decide +kernel
theorem dX8_blameOf_47 : decode cX8_blameOf 47 = .ok (.iinc 4 1, 3) := by decide +kernel
theorem dX8_blameOf_50 : decode cX8_blameOf 50 = .ok (.goto (-44), 3) := by decide +kernel
theorem dX8_blameOf_53 : decode cX8_blameOf 53 = .ok (.iload_n 3, 1) := by decide +kernel
theorem dX8_blameOf_54 : decode cX8_blameOf 54 = .ok (.ireturn, 1) := by decide +kernel
theorem dX8_othersToGo_0 : decode cX8_othersToGo 0 = .ok (.aload_n 0, 1) := by decide +kernel
theorem dX8_othersToGo_1 : decode cX8_othersToGo 1 = .ok (.iconst 0, 1) := by decide +kernel
theorem dX8_othersToGo_2 : decode cX8_othersToGo 2 = .ok (.putfield 21, 3) := by decide +kernel
theorem dX8_othersToGo_5 : decode cX8_othersToGo 5 = .ok (.iconst 0, 1) := by decide +kernel
theorem dX8_othersToGo_6 : decode cX8_othersToGo 6 = .ok (.istore 5, 2) := by decide +kernel
theorem dX8_othersToGo_8 : decode cX8_othersToGo 8 = .ok (.iload 5, 2) := by decide +kernel
theorem dX8_othersToGo_10 : decode cX8_othersToGo 10 = .ok (.aload_n 1, 1) := by decide +kernel
theorem dX8_othersToGo_11 : decode cX8_othersToGo 11 = .ok (.getfield 15, 3) := by decide +kernel
theorem dX8_othersToGo_14 : decode cX8_othersToGo 14 = .ok (.if_icmp .ge 55, 3) := by decide +kernel
theorem dX8_othersToGo_17 : decode cX8_othersToGo 17 = .ok (.aload_n 1, 1) := by decide +kernel
theorem dX8_othersToGo_18 : decode cX8_othersToGo 18 = .ok (.getfield 24, 3) := by decide +kernel
theorem dX8_othersToGo_21 : decode cX8_othersToGo 21 = .ok (.iload 5, 2) := by decide +kernel
theorem dX8_othersToGo_23 : decode cX8_othersToGo 23 = .ok (.laload, 1) := by decide +kernel
theorem dX8_othersToGo_24 : decode cX8_othersToGo 24 = .ok (.iload_n 2, 1) := by decide +kernel
theorem dX8_othersToGo_25 : decode cX8_othersToGo 25 = .ok (.invokestatic 37, 3) := by decide +kernel
theorem dX8_othersToGo_28 : decode cX8_othersToGo 28 = .ok (.ifCond .ne 35, 3) := by decide +kernel
theorem dX8_othersToGo_31 : decode cX8_othersToGo 31 = .ok (.aload_n 0, 1) := by decide +kernel
theorem dX8_othersToGo_32 : decode cX8_othersToGo 32 = .ok (.getfield 9, 3) := by decide +kernel
theorem dX8_othersToGo_35 : decode cX8_othersToGo 35 = .ok (.aload_n 0, 1) := by decide +kernel
theorem dX8_othersToGo_36 : decode cX8_othersToGo 36 = .ok (.getfield 21, 3) := by decide +kernel
theorem dX8_othersToGo_39 : decode cX8_othersToGo 39 = .ok (.aload_n 1, 1) := by decide +kernel
theorem dX8_othersToGo_40 : decode cX8_othersToGo 40 = .ok (.getfield 24, 3) := by decide +kernel
theorem dX8_othersToGo_43 : decode cX8_othersToGo 43 = .ok (.iload 5, 2) := by decide +kernel
theorem dX8_othersToGo_45 : decode cX8_othersToGo 45 = .ok (.laload, 1) := by decide +kernel
theorem dX8_othersToGo_46 : decode cX8_othersToGo 46 = .ok (.lload_n 3, 1) := by decide +kernel
theorem dX8_othersToGo_47 : decode cX8_othersToGo 47 = .ok (.ldc2_w 51, 3) := by decide +kernel
theorem dX8_othersToGo_50 : decode cX8_othersToGo 50 = .ok (.lxor, 1) := by decide +kernel
theorem dX8_othersToGo_51 : decode cX8_othersToGo 51 = .ok (.land, 1) := by decide +kernel
theorem dX8_othersToGo_52 : decode cX8_othersToGo 52 = .ok (.lastore, 1) := by decide +kernel
theorem dX8_othersToGo_53 : decode cX8_othersToGo 53 = .ok (.aload_n 0, 1) := by decide +kernel
theorem dX8_othersToGo_54 : decode cX8_othersToGo 54 = .ok (.dup, 1) := by decide +kernel
theorem dX8_othersToGo_55 : decode cX8_othersToGo 55 = .ok (.getfield 21, 3) := by decide +kernel
theorem dX8_othersToGo_58 : decode cX8_othersToGo 58 = .ok (.iconst 1, 1) := by decide +kernel
theorem dX8_othersToGo_59 : decode cX8_othersToGo 59 = .ok (.iadd, 1) := by decide +kernel
theorem dX8_othersToGo_60 : decode cX8_othersToGo 60 = .ok (.putfield 21, 3) := by decide +kernel
theorem dX8_othersToGo_63 : decode cX8_othersToGo 63 = .ok (.iinc 5 1, 3) := by decide +kernel
theorem dX8_othersToGo_66 : decode cX8_othersToGo 66 = .ok (.goto (-58), 3) := by decide +kernel
theorem dX8_othersToGo_69 : decode cX8_othersToGo 69 = .ok (.aload_n 0, 1) := by decide +kernel
theorem dX8_othersToGo_70 : decode cX8_othersToGo 70 = .ok (.invokevirtual 33, 3) := by decide +kernel
theorem dX8_othersToGo_73 : decode cX8_othersToGo 73 = .ok (.invokestatic 53, 3) := by decide +kernel
theorem dX8_othersToGo_76 : decode cX8_othersToGo 76 = .ok (.ireturn, 1) := by decide +kernel
theorem dX8_smallest_0 : decode cX8_smallest 0 = .ok (.aload_n 0, 1) := by decide +kernel
theorem dX8_smallest_1 : decode cX8_smallest 1 = .ok (.ldc2_w 51, 3) := by decide +kernel
theorem dX8_smallest_4 : decode cX8_smallest 4 = .ok (.putfield 59, 3) := by decide +kernel
theorem dX8_smallest_7 : decode cX8_smallest 7 = .ok (.iconst 0, 1) := by decide +kernel
theorem dX8_smallest_8 : decode cX8_smallest 8 = .ok (.istore_n 1, 1) := by decide +kernel
theorem dX8_smallest_9 : decode cX8_smallest 9 = .ok (.iload_n 1, 1) := by decide +kernel
theorem dX8_smallest_10 : decode cX8_smallest 10 = .ok (.aload_n 0, 1) := by decide +kernel
theorem dX8_smallest_11 : decode cX8_smallest 11 = .ok (.getfield 21, 3) := by decide +kernel
theorem dX8_smallest_14 : decode cX8_smallest 14 = .ok (.if_icmp .gt 26, 3) := by decide +kernel
theorem dX8_smallest_17 : decode cX8_smallest 17 = .ok (.aload_n 0, 1) := by decide +kernel
theorem dX8_smallest_18 : decode cX8_smallest 18 = .ok (.getfield 59, 3) := by decide +kernel
theorem dX8_smallest_21 : decode cX8_smallest 21 = .ok (.ldc2_w 51, 3) := by decide +kernel
theorem dX8_smallest_24 : decode cX8_smallest 24 = .ok (.lcmp, 1) := by decide +kernel
theorem dX8_smallest_25 : decode cX8_smallest 25 = .ok (.ifCond .ne 15, 3) := by decide +kernel
theorem dX8_smallest_28 : decode cX8_smallest 28 = .ok (.aload_n 0, 1) := by decide +kernel
theorem dX8_smallest_29 : decode cX8_smallest 29 = .ok (.lconst 0, 1) := by decide +kernel
theorem dX8_smallest_30 : decode cX8_smallest 30 = .ok (.iload_n 1, 1) := by decide +kernel
theorem dX8_smallest_31 : decode cX8_smallest 31 = .ok (.invokevirtual 63, 3) := by decide +kernel
theorem dX8_smallest_34 : decode cX8_smallest 34 = .ok (.iinc 1 1, 3) := by decide +kernel
theorem dX8_smallest_37 : decode cX8_smallest 37 = .ok (.goto (-28), 3) := by decide +kernel
theorem dX8_smallest_40 : decode cX8_smallest 40 = .ok (.aload_n 0, 1) := by decide +kernel
theorem dX8_smallest_41 : decode cX8_smallest 41 = .ok (.getfield 59, 3) := by decide +kernel
theorem dX8_smallest_44 : decode cX8_smallest 44 = .ok (.lreturn, 1) := by decide +kernel
theorem dX8_seek_0 : decode cX8_seek 0 = .ok (.aload_n 0, 1) := by decide +kernel
theorem dX8_seek_1 : decode cX8_seek 1 = .ok (.lload_n 1, 1) := by decide +kernel
theorem dX8_seek_2 : decode cX8_seek 2 = .ok (.invokevirtual 67, 3) := by decide +kernel
theorem dX8_seek_5 : decode cX8_seek 5 = .ok (.lstore 4, 2) := by decide +kernel
theorem dX8_seek_7 : decode cX8_seek 7 = .ok (.lload 4, 2) := by decide +kernel
theorem dX8_seek_9 : decode cX8_seek 9 = .ok (.lconst 0, 1) := by decide +kernel
theorem dX8_seek_10 : decode cX8_seek 10 = .ok (.lcmp, 1) := by decide +kernel
theorem dX8_seek_11 : decode cX8_seek 11 = .ok (.ifCond .ne 31, 3) := by decide +kernel
theorem dX8_seek_14 : decode cX8_seek 14 = .ok (.aload_n 0, 1) := by decide +kernel
theorem dX8_seek_15 : decode cX8_seek 15 = .ok (.aload_n 0, 1) := by decide +kernel
theorem dX8_seek_16 : decode cX8_seek 16 = .ok (.getfield 59, 3) := by decide +kernel
theorem dX8_seek_19 : decode cX8_seek 19 = .ok (.ldc2_w 51, 3) := by decide +kernel
theorem dX8_seek_22 : decode cX8_seek 22 = .ok (.lcmp, 1) := by decide +kernel
theorem dX8_seek_23 : decode cX8_seek 23 = .ok (.ifCond .ne 7, 3) := by decide +kernel
theorem dX8_seek_26 : decode cX8_seek 26 = .ok (.lload_n 1, 1) := by decide +kernel
theorem dX8_seek_27 : decode cX8_seek 27 = .ok (.goto 11, 3) := by decide +kernel
theorem dX8_seek_30 : decode cX8_seek 30 = .ok (.aload_n 0, 1) := by decide +kernel
theorem dX8_seek_31 : decode cX8_seek 31 = .ok (.getfield 59, 3) := by decide +kernel
theorem dX8_seek_34 : decode cX8_seek 34 = .ok (.lload_n 1, 1) := by decide +kernel
theorem dX8_seek_35 : decode cX8_seek 35 = .ok (.invokestatic 71, 3) := by decide +kernel
theorem dX8_seek_38 : decode cX8_seek 38 = .ok (.putfield 59, 3) := by decide +kernel
theorem dX8_seek_41 : decode cX8_seek 41 = .ok (.return_, 1) := by decide +kernel
theorem dX8_seek_42 : decode cX8_seek 42 = .ok (.iload_n 3, 1) := by decide +kernel
theorem dX8_seek_43 : decode cX8_seek 43 = .ok (.ifCond .gt 4, 3) := by decide +kernel
theorem dX8_seek_46 : decode cX8_seek 46 = .ok (.return_, 1) := by decide +kernel
theorem dX8_seek_47 : decode cX8_seek 47 = .ok (.lload 4, 2) := by decide +kernel
theorem dX8_seek_49 : decode cX8_seek 49 = .ok (.invokestatic 53, 3) := by decide +kernel
theorem dX8_seek_52 : decode cX8_seek 52 = .ok (.istore 6, 2) := by decide +kernel
theorem dX8_seek_54 : decode cX8_seek 54 = .ok (.iconst 0, 1) := by decide +kernel
theorem dX8_seek_55 : decode cX8_seek 55 = .ok (.istore 7, 2) := by decide +kernel
theorem dX8_seek_57 : decode cX8_seek 57 = .ok (.iload 7, 2) := by decide +kernel
theorem dX8_seek_59 : decode cX8_seek 59 = .ok (.iload 6, 2) := by decide +kernel
theorem dX8_seek_61 : decode cX8_seek 61 = .ok (.if_icmp .ge 39, 3) := by decide +kernel
theorem dX8_seek_64 : decode cX8_seek 64 = .ok (.lload 4, 2) := by decide +kernel
theorem dX8_seek_66 : decode cX8_seek 66 = .ok (.lload 4, 2) := by decide +kernel
theorem dX8_seek_68 : decode cX8_seek 68 = .ok (.lneg, 1) := by decide +kernel
theorem dX8_seek_69 : decode cX8_seek 69 = .ok (.land, 1) := by decide +kernel
theorem dX8_seek_70 : decode cX8_seek 70 = .ok (.lstore 8, 2) := by decide +kernel
theorem dX8_seek_72 : decode cX8_seek 72 = .ok (.lload 4, 2) := by decide +kernel
theorem dX8_seek_74 : decode cX8_seek 74 = .ok (.lload 8, 2) := by decide +kernel
theorem dX8_seek_76 : decode cX8_seek 76 = .ok (.ldc2_w 51, 3) := by decide +kernel
theorem dX8_seek_79 : decode cX8_seek 79 = .ok (.lxor, 1) := by decide +kernel
theorem dX8_seek_80 : decode cX8_seek 80 = .ok (.land, 1) := by decide +kernel
theorem dX8_seek_81 : decode cX8_seek 81 = .ok (.lstore 4, 2) := by decide +kernel
theorem dX8_seek_83 : decode cX8_seek 83 = .ok (.aload_n 0, 1) := by decide +kernel
theorem dX8_seek_84 : decode cX8_seek 84 = .ok (.lload_n 1, 1) := by decide +kernel
theorem dX8_seek_85 : decode cX8_seek 85 = .ok (.lload 8, 2) := by decide +kernel
theorem dX8_seek_87 : decode cX8_seek 87 = .ok (.lor, 1) := by decide +kernel
theorem dX8_seek_88 : decode cX8_seek 88 = .ok (.iload_n 3, 1) := by decide +kernel
theorem dX8_seek_89 : decode cX8_seek 89 = .ok (.iconst 1, 1) := by decide +kernel
theorem dX8_seek_90 : decode cX8_seek 90 = .ok (.isub, 1) := by decide +kernel
theorem dX8_seek_91 : decode cX8_seek 91 = .ok (.invokevirtual 63, 3) := by decide +kernel
theorem dX8_seek_94 : decode cX8_seek 94 = .ok (.iinc 7 1, 3) := by decide +kernel
theorem dX8_seek_97 : decode cX8_seek 97 = .ok (.goto (-40), 3) := by decide +kernel
theorem dX8_seek_100 : decode cX8_seek 100 = .ok (.return_, 1) := by decide +kernel
theorem dX8_firstMissed_0 : decode cX8_firstMissed 0 = .ok (.iconst 0, 1) := by decide +kernel
theorem dX8_firstMissed_1 : decode cX8_firstMissed 1 = .ok (.istore_n 3, 1) := by decide +kernel
theorem dX8_firstMissed_2 : decode cX8_firstMissed 2 = .ok (.iload_n 3, 1) := by decide +kernel
theorem dX8_firstMissed_3 : decode cX8_firstMissed 3 = .ok (.aload_n 0, 1) := by decide +kernel
theorem dX8_firstMissed_4 : decode cX8_firstMissed 4 = .ok (.getfield 21, 3) := by decide +kernel
theorem dX8_firstMissed_7 : decode cX8_firstMissed 7 = .ok (.if_icmp .ge 29, 3) := by decide +kernel
theorem dX8_firstMissed_10 : decode cX8_firstMissed 10 = .ok (.aload_n 0, 1) := by decide +kernel
theorem dX8_firstMissed_11 : decode cX8_firstMissed 11 = .ok (.getfield 9, 3) := by decide +kernel
theorem dX8_firstMissed_14 : decode cX8_firstMissed 14 = .ok (.iload_n 3, 1) := by decide +kernel
theorem dX8_firstMissed_15 : decode cX8_firstMissed 15 = .ok (.laload, 1) := by decide +kernel
theorem dX8_firstMissed_16 : decode cX8_firstMissed 16 = .ok (.lload_n 1, 1) := by decide +kernel
theorem dX8_firstMissed_17 : decode cX8_firstMissed 17 = .ok (.land, 1) := by decide +kernel
theorem dX8_firstMissed_18 : decode cX8_firstMissed 18 = .ok (.lconst 0, 1) := by decide +kernel
theorem dX8_firstMissed_19 : decode cX8_firstMissed 19 = .ok (.lcmp, 1) := by decide +kernel
theorem dX8_firstMissed_20 : decode cX8_firstMissed 20 = .ok (.ifCond .ne 10, 3) := by decide +kernel
theorem dX8_firstMissed_23 : decode cX8_firstMissed 23 = .ok (.aload_n 0, 1) := by decide +kernel
theorem dX8_firstMissed_24 : decode cX8_firstMissed 24 = .ok (.getfield 9, 3) := by decide +kernel
theorem dX8_firstMissed_27 : decode cX8_firstMissed 27 = .ok (.iload_n 3, 1) := by decide +kernel
theorem dX8_firstMissed_28 : decode cX8_firstMissed 28 = .ok (.laload, 1) := by decide +kernel
theorem dX8_firstMissed_29 : decode cX8_firstMissed 29 = .ok (.lreturn, 1) := by decide +kernel
theorem dX8_firstMissed_30 : decode cX8_firstMissed 30 = .ok (.iinc 3 1, 3) := by decide +kernel
theorem dX8_firstMissed_33 : decode cX8_firstMissed 33 = .ok (.goto (-31), 3) := by decide +kernel
theorem dX8_firstMissed_36 : decode cX8_firstMissed 36 = .ok (.lconst 0, 1) := by decide +kernel
theorem dX8_firstMissed_37 : decode cX8_firstMissed 37 = .ok (.lreturn, 1) := by decide +kernel
theorem dX9_init_0 : decode cX9_init 0 = .ok (.aload_n 0, 1) := by decide +kernel
theorem dX9_init_1 : decode cX9_init 1 = .ok (.invokespecial 1, 3) := by decide +kernel
theorem dX9_init_4 : decode cX9_init 4 = .ok (.aload_n 0, 1) := by decide +kernel
theorem dX9_init_5 : decode cX9_init 5 = .ok (.iconst 4, 1) := by decide +kernel
theorem dX9_init_6 : decode cX9_init 6 = .ok (.newarray .int, 2) := by decide +kernel
theorem dX9_init_8 : decode cX9_init 8 = .ok (.putfield 7, 3) := by decide +kernel
theorem dX9_init_11 : decode cX9_init 11 = .ok (.aload_n 0, 1) := by decide +kernel
theorem dX9_init_12 : decode cX9_init 12 = .ok (.iload_n 1, 1) := by decide +kernel
theorem dX9_init_13 : decode cX9_init 13 = .ok (.putfield 13, 3) := by decide +kernel
theorem dX9_init_16 : decode cX9_init 16 = .ok (.aload_n 0, 1) := by decide +kernel
theorem dX9_init_17 : decode cX9_init 17 = .ok (.iload_n 2, 1) := by decide +kernel
theorem dX9_init_18 : decode cX9_init 18 = .ok (.putfield 17, 3) := by decide +kernel
theorem dX9_init_21 : decode cX9_init 21 = .ok (.aload_n 0, 1) := by decide +kernel
theorem dX9_init_22 : decode cX9_init 22 = .ok (.iload_n 3, 1) := by decide +kernel
theorem dX9_init_23 : decode cX9_init 23 = .ok (.putfield 20, 3) := by decide +kernel
theorem dX9_init_26 : decode cX9_init 26 = .ok (.aload_n 0, 1) := by decide +kernel
theorem dX9_init_27 : decode cX9_init 27 = .ok (.iload 4, 2) := by decide +kernel
theorem dX9_init_29 : decode cX9_init 29 = .ok (.putfield 23, 3) := by decide +kernel
theorem dX9_init_32 : decode cX9_init 32 = .ok (.aload_n 0, 1) := by decide +kernel
theorem dX9_init_33 : decode cX9_init 33 = .ok (.iload 5, 2) := by decide +kernel
theorem dX9_init_35 : decode cX9_init 35 = .ok (.putfield 26, 3) := by decide +kernel
theorem dX9_init_38 : decode cX9_init 38 = .ok (.return_, 1) := by decide +kernel
theorem dX9_tell_0 : decode cX9_tell 0 = .ok (.aload_n 0, 1) := by decide +kernel
theorem dX9_tell_1 : decode cX9_tell 1 = .ok (.getfield 7, 3) := by decide +kernel
theorem dX9_tell_4 : decode cX9_tell 4 = .ok (.iconst 0, 1) := by decide +kernel
theorem dX9_tell_5 : decode cX9_tell 5 = .ok (.iload_n 1, 1) := by decide +kernel
theorem dX9_tell_6 : decode cX9_tell 6 = .ok (.iastore, 1) := by decide +kernel
theorem dX9_tell_7 : decode cX9_tell 7 = .ok (.aload_n 0, 1) := by decide +kernel
theorem dX9_tell_8 : decode cX9_tell 8 = .ok (.getfield 7, 3) := by decide +kernel
theorem dX9_tell_11 : decode cX9_tell 11 = .ok (.iconst 1, 1) := by decide +kernel
theorem dX9_tell_12 : decode cX9_tell 12 = .ok (.iload_n 2, 1) := by decide +kernel
theorem dX9_tell_13 : decode cX9_tell 13 = .ok (.iastore, 1) := by decide +kernel
theorem dX9_tell_14 : decode cX9_tell 14 = .ok (.return_, 1) := by decide +kernel
theorem dX9_tellMore_0 : decode cX9_tellMore 0 = .ok (.aload_n 0, 1) := by decide +kernel
theorem dX9_tellMore_1 : decode cX9_tellMore 1 = .ok (.getfield 7, 3) := by decide +kernel
theorem dX9_tellMore_4 : decode cX9_tellMore 4 = .ok (.iconst 2, 1) := by decide +kernel
theorem dX9_tellMore_5 : decode cX9_tellMore 5 = .ok (.iload_n 1, 1) := by decide +kernel
theorem dX9_tellMore_6 : decode cX9_tellMore 6 = .ok (.iastore, 1) := by decide +kernel
theorem dX9_tellMore_7 : decode cX9_tellMore 7 = .ok (.aload_n 0, 1) := by decide +kernel
theorem dX9_tellMore_8 : decode cX9_tellMore 8 = .ok (.getfield 7, 3) := by decide +kernel
theorem dX9_tellMore_11 : decode cX9_tellMore 11 = .ok (.iconst 3, 1) := by decide +kernel
theorem dX9_tellMore_12 : decode cX9_tellMore 12 = .ok (.iload_n 2, 1) := by decide +kernel
theorem dX9_tellMore_13 : decode cX9_tellMore 13 = .ok (.iastore, 1) := by decide +kernel
theorem dX9_tellMore_14 : decode cX9_tellMore 14 = .ok (.return_, 1) := by decide +kernel
theorem dX10_init_0 : decode cX10_init 0 = .ok (.aload_n 0, 1) := by decide +kernel
theorem dX10_init_1 : decode cX10_init 1 = .ok (.invokespecial 1, 3) := by decide +kernel
theorem dX10_init_4 : decode cX10_init 4 = .ok (.aload_n 0, 1) := by decide +kernel
theorem dX10_init_5 : decode cX10_init 5 = .ok (.iload_n 1, 1) := by decide +kernel
theorem dX10_init_6 : decode cX10_init 6 = .ok (.putfield 7, 3) := by decide +kernel
theorem dX10_init_9 : decode cX10_init 9 = .ok (.aload_n 0, 1) := by decide +kernel
theorem dX10_init_10 : decode cX10_init 10 = .ok (.aload_n 2, 1) := by decide +kernel
theorem dX10_init_11 : decode cX10_init 11 = .ok (.putfield 13, 3) := by decide +kernel
theorem dX10_init_14 : decode cX10_init 14 = .ok (.return_, 1) := by decide +kernel
theorem dX11_init_0 : decode cX11_init 0 = .ok (.aload_n 0, 1) := by decide +kernel
theorem dX11_init_1 : decode cX11_init 1 = .ok (.invokespecial 3, 3) := by decide +kernel
theorem dX11_init_4 : decode cX11_init 4 = .ok (.aload_n 0, 1) := by decide +kernel
theorem dX11_init_5 : decode cX11_init 5 = .ok (.new 9, 3) := by decide +kernel
theorem dX11_init_8 : decode cX11_init 8 = .ok (.dup, 1) := by decide +kernel
theorem dX11_init_9 : decode cX11_init 9 = .ok (.invokespecial 11, 3) := by decide +kernel
theorem dX11_init_12 : decode cX11_init 12 = .ok (.putfield 12, 3) := by decide +kernel
theorem dX11_init_15 : decode cX11_init 15 = .ok (.aload_n 0, 1) := by decide +kernel
theorem dX11_init_16 : decode cX11_init 16 = .ok (.bipush 40, 2) := by decide +kernel
theorem dX11_init_18 : decode cX11_init 18 = .ok (.anewarray 16, 3) := by decide +kernel
theorem dX11_init_21 : decode cX11_init 21 = .ok (.putfield 18, 3) := by decide +kernel
theorem dX11_init_24 : decode cX11_init 24 = .ok (.aload_n 0, 1) := by decide +kernel
theorem dX11_init_25 : decode cX11_init 25 = .ok (.new 22, 3) := by decide +kernel
theorem dX11_init_28 : decode cX11_init 28 = .ok (.dup, 1) := by decide +kernel
theorem dX11_init_29 : decode cX11_init 29 = .ok (.aload_n 0, 1) := by decide +kernel
theorem dX11_init_30 : decode cX11_init 30 = .ok (.getfield 12, 3) := by decide +kernel
theorem dX11_init_33 : decode cX11_init 33 = .ok (.aload_n 0, 1) := by decide +kernel
theorem dX11_init_34 : decode cX11_init 34 = .ok (.getfield 18, 3) := by decide +kernel
theorem dX11_init_37 : decode cX11_init 37 = .ok (.invokespecial 24, 3) := by decide +kernel
theorem dX11_init_40 : decode cX11_init 40 = .ok (.putfield 27, 3) := by decide +kernel
theorem dX11_init_43 : decode cX11_init 43 = .ok (.aload_n 0, 1) := by decide +kernel
theorem dX11_init_44 : decode cX11_init 44 = .ok (.new 31, 3) := by decide +kernel
theorem dX11_init_47 : decode cX11_init 47 = .ok (.dup, 1) := by decide +kernel
theorem dX11_init_48 : decode cX11_init 48 = .ok (.bipush 32, 2) := by decide +kernel
theorem dX11_init_50 : decode cX11_init 50 = .ok (.invokespecial 33, 3) := by decide +kernel
theorem dX11_init_53 : decode cX11_init 53 = .ok (.putfield 36, 3) := by decide +kernel
theorem dX11_init_56 : decode cX11_init 56 = .ok (.aload_n 0, 1) := by decide +kernel
theorem dX11_init_57 : decode cX11_init 57 = .ok (.new 40, 3) := by decide +kernel
theorem dX11_init_60 : decode cX11_init 60 = .ok (.dup, 1) := by decide +kernel
theorem dX11_init_61 : decode cX11_init 61 = .ok (.invokespecial 42, 3) := by decide +kernel
theorem dX11_init_64 : decode cX11_init 64 = .ok (.putfield 43, 3) := by decide +kernel
theorem dX11_init_67 : decode cX11_init 67 = .ok (.aload_n 0, 1) := by decide +kernel
theorem dX11_init_68 : decode cX11_init 68 = .ok (.new 47, 3) := by decide +kernel
theorem dX11_init_71 : decode cX11_init 71 = .ok (.dup, 1) := by decide +kernel
theorem dX11_init_72 : decode cX11_init 72 = .ok (.invokespecial 49, 3) := by decide +kernel
theorem dX11_init_75 : decode cX11_init 75 = .ok (.putfield 50, 3) := by decide +kernel
theorem dX11_init_78 : decode cX11_init 78 = .ok (.aload_n 0, 1) := by decide +kernel
theorem dX11_init_79 : decode cX11_init 79 = .ok (.bipush 20, 2) := by decide +kernel
theorem dX11_init_81 : decode cX11_init 81 = .ok (.anewarray 54, 3) := by decide +kernel
theorem dX11_init_84 : decode cX11_init 84 = .ok (.putfield 56, 3) := by decide +kernel
theorem dX11_init_87 : decode cX11_init 87 = .ok (.aload_n 0, 1) := by decide +kernel
theorem dX11_init_88 : decode cX11_init 88 = .ok (.new 60, 3) := by decide +kernel
theorem dX11_init_91 : decode cX11_init 91 = .ok (.dup, 1) := by decide +kernel
theorem dX11_init_92 : decode cX11_init 92 = .ok (.invokespecial 62, 3) := by decide +kernel
theorem dX11_init_95 : decode cX11_init 95 = .ok (.putfield 63, 3) := by decide +kernel
theorem dX11_init_98 : decode cX11_init 98 = .ok (.return_, 1) := by decide +kernel
theorem dX11_table_0 : decode cX11_table 0 = .ok (.iload_n 1, 1) := by decide +kernel
theorem dX11_table_1 : decode cX11_table 1 = .ok (.iconst 1, 1) := by decide +kernel
theorem dX11_table_2 : decode cX11_table 2 = .ok (.if_icmp .lt 8, 3) := by decide +kernel
theorem dX11_table_5 : decode cX11_table 5 = .ok (.iload_n 1, 1) := by decide +kernel
theorem dX11_table_6 : decode cX11_table 6 = .ok (.iconst 4, 1) := by decide +kernel
theorem dX11_table_7 : decode cX11_table 7 = .ok (.if_icmp .le 9, 3) := by decide +kernel
theorem dX11_table_10 : decode cX11_table 10 = .ok (.aload_n 0, 1) := by decide +kernel
theorem dX11_table_11 : decode cX11_table 11 = .ok (.iconst 2, 1) := by decide +kernel
theorem dX11_table_12 : decode cX11_table 12 = .ok (.invokevirtual 67, 3) := by decide +kernel
theorem dX11_table_15 : decode cX11_table 15 = .ok (.ireturn, 1) := by decide +kernel
theorem dX11_table_16 : decode cX11_table 16 = .ok (.aload_n 0, 1) := by decide +kernel
theorem dX11_table_17 : decode cX11_table 17 = .ok (.getfield 12, 3) := by decide +kernel
theorem dX11_table_20 : decode cX11_table 20 = .ok (.getfield 71, 3) := by decide +kernel
theorem dX11_table_23 : decode cX11_table 23 = .ok (.bipush 10, 2) := by decide +kernel
theorem dX11_table_25 : decode cX11_table 25 = .ok (.if_icmp .lt 9, 3) := by decide +kernel
theorem dX11_table_28 : decode cX11_table 28 = .ok (.aload_n 0, 1) := by decide +kernel
theorem dX11_table_29 : decode cX11_table 29 = .ok (.iconst 4, 1) := by decide +kernel
theorem dX11_table_30 : decode cX11_table 30 = .ok (.invokevirtual 67, 3) := by decide +kernel
theorem dX11_table_33 : decode cX11_table 33 = .ok (.ireturn, 1) := by decide +kernel
theorem dX11_table_34 : decode cX11_table 34 = .ok (.aload_n 0, 1) := by decide +kernel
theorem dX11_table_35 : decode cX11_table 35 = .ok (.new 75, 3) := by decide +kernel
theorem dX11_table_38 : decode cX11_table 38 = .ok (.dup, 1) := by decide +kernel
theorem dX11_table_39 : decode cX11_table 39 = .ok (.iconst 0, 1) := by decide +kernel
theorem dX11_table_40 : decode cX11_table 40 = .ok (.iconst 0, 1) := by decide +kernel
theorem dX11_table_41 : decode cX11_table 41 = .ok (.iconst 0, 1) := by decide +kernel
theorem dX11_table_42 : decode cX11_table 42 = .ok (.lconst 0, 1) := by decide +kernel
theorem dX11_table_43 : decode cX11_table 43 = .ok (.aconst_null, 1) := by decide +kernel
theorem dX11_table_44 : decode cX11_table 44 = .ok (.invokespecial 77, 3) := by decide +kernel
theorem dX11_table_47 : decode cX11_table 47 = .ok (.invokevirtual 80, 3) := by decide +kernel
theorem dX11_table_50 : decode cX11_table 50 = .ok (.aload_n 0, 1) := by decide +kernel
theorem dX11_table_51 : decode cX11_table 51 = .ok (.getfield 12, 3) := by decide +kernel
theorem dX11_table_54 : decode cX11_table 54 = .ok (.iload_n 1, 1) := by decide +kernel
theorem dX11_table_55 : decode cX11_table 55 = .ok (.invokevirtual 84, 3) := by decide +kernel
theorem dX11_table_58 : decode cX11_table 58 = .ok (.ireturn, 1) := by decide +kernel
theorem dX11_fact_0 : decode cX11_fact 0 = .ok (.aload_n 0, 1) := by decide +kernel
theorem dX11_fact_1 : decode cX11_fact 1 = .ok (.getfield 12, 3) := by decide +kernel
theorem dX11_fact_4 : decode cX11_fact 4 = .ok (.iload_n 1, 1) := by decide +kernel
theorem dX11_fact_5 : decode cX11_fact 5 = .ok (.invokevirtual 87, 3) := by decide +kernel
theorem dX11_fact_8 : decode cX11_fact 8 = .ok (.ifCond .ne 9, 3) := by decide +kernel
theorem dX11_fact_11 : decode cX11_fact 11 = .ok (.aload_n 0, 1) := by decide +kernel
theorem dX11_fact_12 : decode cX11_fact 12 = .ok (.iconst 1, 1) := by decide +kernel
theorem dX11_fact_13 : decode cX11_fact 13 = .ok (.invokevirtual 67, 3) := by decide +kernel
theorem dX11_fact_16 : decode cX11_fact 16 = .ok (.ireturn, 1) := by decide +kernel
theorem dX11_fact_17 : decode cX11_fact 17 = .ok (.aload_n 0, 1) := by decide +kernel
theorem dX11_fact_18 : decode cX11_fact 18 = .ok (.getfield 12, 3) := by decide +kernel
theorem dX11_fact_21 : decode cX11_fact 21 = .ok (.getfield 91, 3) := by decide +kernel
theorem dX11_fact_24 : decode cX11_fact 24 = .ok (.bipush 60, 2) := by decide +kernel
theorem dX11_fact_26 : decode cX11_fact 26 = .ok (.if_icmp .lt 9, 3) := by decide +kernel
theorem dX11_fact_29 : decode cX11_fact 29 = .ok (.aload_n 0, 1) := by decide +kernel
theorem dX11_fact_30 : decode cX11_fact 30 = .ok (.iconst 4, 1) := by decide +kernel
theorem dX11_fact_31 : decode cX11_fact 31 = .ok (.invokevirtual 67, 3) := by decide +kernel
theorem dX11_fact_34 : decode cX11_fact 34 = .ok (.ireturn, 1) := by decide +kernel
theorem dX11_fact_35 : decode cX11_fact 35 = .ok (.aload_n 0, 1) := by decide +kernel
theorem dX11_fact_36 : decode cX11_fact 36 = .ok (.new 75, 3) := by decide +kernel
theorem dX11_fact_39 : decode cX11_fact 39 = .ok (.dup, 1) := by decide +kernel
theorem dX11_fact_40 : decode cX11_fact 40 = .ok (.iconst 1, 1) := by decide +kernel
theorem dX11_fact_41 : decode cX11_fact 41 = .ok (.iconst 0, 1) := by decide +kernel
theorem dX11_fact_42 : decode cX11_fact 42 = .ok (.iconst 0, 1) := by decide +kernel
theorem dX11_fact_43 : decode cX11_fact 43 = .ok (.lconst 0, 1) := by decide +kernel
theorem dX11_fact_44 : decode cX11_fact 44 = .ok (.aconst_null, 1) := by decide +kernel
theorem dX11_fact_45 : decode cX11_fact 45 = .ok (.invokespecial 77, 3) := by decide +kernel
theorem dX11_fact_48 : decode cX11_fact 48 = .ok (.invokevirtual 80, 3) := by decide +kernel
theorem dX11_fact_51 : decode cX11_fact 51 = .ok (.aload_n 0, 1) := by decide +kernel
theorem dX11_fact_52 : decode cX11_fact 52 = .ok (.getfield 12, 3) := by decide +kernel
theorem dX11_fact_55 : decode cX11_fact 55 = .ok (.iload_n 1, 1) := by decide +kernel
theorem dX11_fact_56 : decode cX11_fact 56 = .ok (.iload_n 2, 1) := by decide +kernel
theorem dX11_fact_57 : decode cX11_fact 57 = .ok (.iload_n 3, 1) := by decide +kernel
theorem dX11_fact_58 : decode cX11_fact 58 = .ok (.iload 4, 2) := by decide +kernel
theorem dX11_fact_60 : decode cX11_fact 60 = .ok (.iload 5, 2) := by decide +kernel
theorem dX11_fact_62 : decode cX11_fact 62 = .ok (.invokevirtual 94, 3) := by decide +kernel
theorem dX11_fact_65 : decode cX11_fact 65 = .ok (.ireturn, 1) := by decide +kernel
theorem dX11_drop_0 : decode cX11_drop 0 = .ok (.aload_n 0, 1) := by decide +kernel
theorem dX11_drop_1 : decode cX11_drop 1 = .ok (.getfield 12, 3) := by decide +kernel
theorem dX11_drop_4 : decode cX11_drop 4 = .ok (.iload_n 1, 1) := by decide +kernel
theorem dX11_drop_5 : decode cX11_drop 5 = .ok (.invokevirtual 98, 3) := by decide +kernel
theorem dX11_drop_8 : decode cX11_drop 8 = .ok (.ifCond .ne 10, 3) := by decide +kernel
theorem dX11_drop_11 : decode cX11_drop 11 = .ok (.aload_n 0, 1) := by decide +kernel
theorem dX11_drop_12 : decode cX11_drop 12 = .ok (.iconst 1, 1) := by decide +kernel
theorem dX11_drop_13 : decode cX11_drop 13 = .ok (.putfield 101, 3) := by decide +kernel
theorem dX11_drop_16 : decode cX11_drop 16 = .ok (.iconst 0, 1) := by decide +kernel
theorem dX11_drop_17 : decode cX11_drop 17 = .ok (.ireturn, 1) := by decide +kernel
theorem dX11_drop_18 : decode cX11_drop 18 = .ok (.aload_n 0, 1) := by decide +kernel
theorem dX11_drop_19 : decode cX11_drop 19 = .ok (.new 75, 3) := by decide +kernel
theorem dX11_drop_22 : decode cX11_drop 22 = .ok (.dup, 1) := by decide +kernel
theorem dX11_drop_23 : decode cX11_drop 23 = .ok (.iconst 2, 1) := by decide +kernel
theorem dX11_drop_24 : decode cX11_drop 24 = .ok (.iload_n 1, 1) := by decide +kernel
theorem dX11_drop_25 : decode cX11_drop 25 = .ok (.iconst 0, 1) := by decide +kernel
theorem dX11_drop_26 : decode cX11_drop 26 = .ok (.aload_n 0, 1) := by decide +kernel
theorem dX11_drop_27 : decode cX11_drop 27 = .ok (.getfield 12, 3) := by decide +kernel
theorem dX11_drop_30 : decode cX11_drop 30 = .ok (.iload_n 1, 1) := by decide +kernel
theorem dX11_drop_31 : decode cX11_drop 31 = .ok (.invokevirtual 104, 3) := by decide +kernel
theorem dX11_drop_34 : decode cX11_drop 34 = .ok (.ifCond .eq 7, 3) := by decide +kernel
theorem dX11_drop_37 : decode cX11_drop 37 = .ok (.lconst 1, 1) := by decide +kernel
theorem dX11_drop_38 : decode cX11_drop 38 = .ok (.goto 4, 3) := by decide +kernel
theorem dX11_drop_41 : decode cX11_drop 41 = .ok (.lconst 0, 1) := by decide +kernel
theorem dX11_drop_42 : decode cX11_drop 42 = .ok (.aconst_null, 1) := by decide +kernel
theorem dX11_drop_43 : decode cX11_drop 43 = .ok (.invokespecial 77, 3) := by decide +kernel
theorem dX11_drop_46 : decode cX11_drop 46 = .ok (.invokevirtual 80, 3) := by decide +kernel
theorem dX11_drop_49 : decode cX11_drop 49 = .ok (.aload_n 0, 1) := by decide +kernel
theorem dX11_drop_50 : decode cX11_drop 50 = .ok (.getfield 12, 3) := by decide +kernel
theorem dX11_drop_53 : decode cX11_drop 53 = .ok (.iload_n 1, 1) := by decide +kernel
theorem dX11_drop_54 : decode cX11_drop 54 = .ok (.iload_n 2, 1) := by decide +kernel
theorem dX11_drop_55 : decode cX11_drop 55 = .ok (.invokevirtual 107, 3) := by decide +kernel
theorem dX11_drop_58 : decode cX11_drop 58 = .ok (.iconst 1, 1) := by decide +kernel
theorem dX11_drop_59 : decode cX11_drop 59 = .ok (.ireturn, 1) := by decide +kernel
theorem dX11_put_0 : decode cX11_put 0 = .ok (.aload_n 0, 1) := by decide +kernel
theorem dX11_put_1 : decode cX11_put 1 = .ok (.getfield 12, 3) := by decide +kernel
theorem dX11_put_4 : decode cX11_put 4 = .ok (.iload_n 1, 1) := by decide +kernel
theorem dX11_put_5 : decode cX11_put 5 = .ok (.invokevirtual 98, 3) := by decide +kernel
theorem dX11_put_8 : decode cX11_put 8 = .ok (.ifCond .ne 10, 3) := by decide +kernel
theorem dX11_put_11 : decode cX11_put 11 = .ok (.aload_n 0, 1) := by decide +kernel
theorem dX11_put_12 : decode cX11_put 12 = .ok (.iconst 1, 1) := by decide +kernel
theorem dX11_put_13 : decode cX11_put 13 = .ok (.putfield 101, 3) := by decide +kernel
theorem dX11_put_16 : decode cX11_put 16 = .ok (.iconst 0, 1) := by decide +kernel
theorem dX11_put_17 : decode cX11_put 17 = .ok (.ireturn, 1) := by decide +kernel
theorem dX11_put_18 : decode cX11_put 18 = .ok (.iload_n 2, 1) := by decide +kernel
theorem dX11_put_19 : decode cX11_put 19 = .ok (.ifCond .lt 24, 3) := by decide +kernel
theorem dX11_put_22 : decode cX11_put 22 = .ok (.iload_n 2, 1) := by decide +kernel
theorem dX11_put_23 : decode cX11_put 23 = .ok (.iconst 4, 1) := by decide +kernel
theorem dX11_put_24 : decode cX11_put 24 = .ok (.if_icmp .ge 19, 3) := by decide +kernel
theorem dX11_put_27 : decode cX11_put 27 = .ok (.lload_n 3, 1) := by decide +kernel
theorem dX11_put_28 : decode cX11_put 28 = .ok (.lconst 0, 1) := by decide +kernel
theorem dX11_put_29 : decode cX11_put 29 = .ok (.lcmp, 1) := by decide +kernel
theorem dX11_put_30 : decode cX11_put 30 = .ok (.ifCond .lt 13, 3) := by decide +kernel
theorem dX11_put_33 : decode cX11_put 33 = .ok (.lload_n 3, 1) := by decide +kernel
theorem dX11_put_34 : decode cX11_put 34 = .ok (.getstatic 111, 3) := by decide +kernel
theorem dX11_put_37 : decode cX11_put 37 = .ok (.iload_n 2, 1) := by decide +kernel
theorem dX11_put_38 : decode cX11_put 38 = .ok (.laload, 1) := by decide +kernel
theorem dX11_put_39 : decode cX11_put 39 = .ok (.lcmp, 1) := by decide +kernel
theorem dX11_put_40 : decode cX11_put 40 = .ok (.ifCond .le 10, 3) := by decide +kernel
theorem dX11_put_43 : decode cX11_put 43 = .ok (.aload_n 0, 1) := by decide +kernel
theorem dX11_put_44 : decode cX11_put 44 = .ok (.iconst 2, 1) := by decide +kernel
theorem dX11_put_45 : decode cX11_put 45 = .ok (.putfield 101, 3) := by decide +kernel
theorem dX11_put_48 : decode cX11_put 48 = .ok (.iconst 0, 1) := by decide +kernel
theorem dX11_put_49 : decode cX11_put 49 = .ok (.ireturn, 1) := by decide +kernel
theorem dX11_put_50 : decode cX11_put 50 = .ok (.aload_n 0, 1) := by decide +kernel
theorem dX11_put_51 : decode cX11_put 51 = .ok (.new 75, 3) := by decide +kernel
theorem dX11_put_54 : decode cX11_put 54 = .ok (.dup, 1) := by decide +kernel
theorem dX11_put_55 : decode cX11_put 55 = .ok (.iconst 3, 1) := by decide +kernel
theorem dX11_put_56 : decode cX11_put 56 = .ok (.iload_n 1, 1) := by decide +kernel
theorem dX11_put_57 : decode cX11_put 57 = .ok (.iload_n 2, 1) := by decide +kernel
theorem dX11_put_58 : decode cX11_put 58 = .ok (.aload_n 0, 1) := by decide +kernel
theorem dX11_put_59 : decode cX11_put 59 = .ok (.getfield 12, 3) := by decide +kernel
theorem dX11_put_62 : decode cX11_put 62 = .ok (.iload_n 1, 1) := by decide +kernel
theorem dX11_put_63 : decode cX11_put 63 = .ok (.iload_n 2, 1) := by decide +kernel
theorem dX11_put_64 : decode cX11_put 64 = .ok (.invokevirtual 115, 3) := by decide +kernel
theorem dX11_put_67 : decode cX11_put 67 = .ok (.aconst_null, 1) := by decide +kernel
theorem dX11_put_68 : decode cX11_put 68 = .ok (.invokespecial 77, 3) := by decide +kernel
theorem dX11_put_71 : decode cX11_put 71 = .ok (.invokevirtual 80, 3) := by decide +kernel
theorem dX11_put_74 : decode cX11_put 74 = .ok (.aload_n 0, 1) := by decide +kernel
theorem dX11_put_75 : decode cX11_put 75 = .ok (.getfield 12, 3) := by decide +kernel
theorem dX11_put_78 : decode cX11_put 78 = .ok (.iload_n 1, 1) := by decide +kernel
theorem dX11_put_79 : decode cX11_put 79 = .ok (.iload_n 2, 1) := by decide +kernel
theorem dX11_put_80 : decode cX11_put 80 = .ok (.lload_n 3, 1) := by decide +kernel
theorem dX11_put_81 : decode cX11_put 81 = .ok (.invokevirtual 119, 3) := by decide +kernel
theorem dX11_put_84 : decode cX11_put 84 = .ok (.iconst 1, 1) := by decide +kernel
theorem dX11_put_85 : decode cX11_put 85 = .ok (.ireturn, 1) := by decide +kernel
theorem dX11_told_0 : decode cX11_told 0 = .ok (.aload_n 0, 1) := by decide +kernel
theorem dX11_told_1 : decode cX11_told 1 = .ok (.getfield 12, 3) := by decide +kernel
theorem dX11_told_4 : decode cX11_told 4 = .ok (.iload_n 1, 1) := by decide +kernel
theorem dX11_told_5 : decode cX11_told 5 = .ok (.invokevirtual 98, 3) := by decide +kernel
theorem dX11_told_8 : decode cX11_told 8 = .ok (.ifCond .eq 7, 3) := by decide +kernel
theorem dX11_told_11 : decode cX11_told 11 = .ok (.iload_n 2, 1) := by decide +kernel
theorem dX11_told_12 : decode cX11_told 12 = .ok (.ifCond .ge 7, 3) := by decide +kernel
theorem dX11_told_15 : decode cX11_told 15 = .ok (.ldc2_w 123, 3) := by decide +kernel
theorem dX11_told_18 : decode cX11_told 18 = .ok (.lreturn, 1) := by decide +kernel
theorem dX11_told_19 : decode cX11_told 19 = .ok (.iload_n 2, 1) := by decide +kernel
theorem dX11_told_20 : decode cX11_told 20 = .ok (.iconst 4, 1) := by decide +kernel
theorem dX11_told_21 : decode cX11_told 21 = .ok (.if_icmp .ge 13, 3) := by decide +kernel
theorem dX11_told_24 : decode cX11_told 24 = .ok (.aload_n 0, 1) := by decide +kernel
theorem dX11_told_25 : decode cX11_told 25 = .ok (.getfield 12, 3) := by decide +kernel
theorem dX11_told_28 : decode cX11_told 28 = .ok (.iload_n 1, 1) := by decide +kernel
theorem dX11_told_29 : decode cX11_told 29 = .ok (.iload_n 2, 1) := by decide +kernel
theorem dX11_told_30 : decode cX11_told 30 = .ok (.invokevirtual 115, 3) := by decide +kernel
theorem dX11_told_33 : decode cX11_told 33 = .ok (.lreturn, 1) := by decide +kernel
theorem dX11_told_34 : decode cX11_told 34 = .ok (.aload_n 0, 1) := by decide +kernel
theorem dX11_told_35 : decode cX11_told 35 = .ok (.getfield 12, 3) := by decide +kernel
theorem dX11_told_38 : decode cX11_told 38 = .ok (.iload_n 1, 1) := by decide +kernel
theorem dX11_told_39 : decode cX11_told 39 = .ok (.invokevirtual 125, 3) := by decide +kernel
theorem dX11_told_42 : decode cX11_told 42 = .ok (.istore_n 3, 1) := by decide +kernel
theorem dX11_told_43 : decode cX11_told 43 = .ok (.iload_n 2, 1) := by decide +kernel
theorem dX11_told_44 : decode cX11_told 44 = .ok (.tableswitch 59 4 6 #[28, 45, 56], 28) := by decide +kernel
theorem dX11_told_72 : decode cX11_told 72 = .ok (.aload_n 0, 1) := by decide +kernel
theorem dX11_told_73 : decode cX11_told 73 = .ok (.getfield 12, 3) := by decide +kernel
theorem dX11_told_76 : decode cX11_told 76 = .ok (.iload_n 1, 1) := by decide +kernel
theorem dX11_told_77 : decode cX11_told 77 = .ok (.invokevirtual 104, 3) := by decide +kernel
theorem dX11_told_80 : decode cX11_told 80 = .ok (.ifCond .eq 7, 3) := by decide +kernel
theorem dX11_told_83 : decode cX11_told 83 = .ok (.lconst 1, 1) := by decide +kernel
theorem dX11_told_84 : decode cX11_told 84 = .ok (.goto 4, 3) := by decide +kernel
theorem dX11_told_87 : decode cX11_told 87 = .ok (.lconst 0, 1) := by decide +kernel
theorem dX11_told_88 : decode cX11_told 88 = .ok (.lreturn, 1) := by decide +kernel
theorem dX11_told_89 : decode cX11_told 89 = .ok (.aload_n 0, 1) := by decide +kernel
theorem dX11_told_90 : decode cX11_told 90 = .ok (.getfield 12, 3) := by decide +kernel
theorem dX11_told_93 : decode cX11_told 93 = .ok (.getfield 128, 3) := by decide +kernel
theorem dX11_told_96 : decode cX11_told 96 = .ok (.iload_n 1, 1) := by decide +kernel
theorem dX11_told_97 : decode cX11_told 97 = .ok (.iaload, 1) := by decide +kernel
theorem dX11_told_98 : decode cX11_told 98 = .ok (.i2l, 1) := by decide +kernel
theorem dX11_told_99 : decode cX11_told 99 = .ok (.lreturn, 1) := by decide +kernel
theorem dX11_told_100 : decode cX11_told 100 = .ok (.iload_n 3, 1) := by decide +kernel
theorem dX11_told_101 : decode cX11_told 101 = .ok (.i2l, 1) := by decide +kernel
theorem dX11_told_102 : decode cX11_told 102 = .ok (.lreturn, 1) := by decide +kernel
theorem dX11_told_103 : decode cX11_told 103 = .ok (.iload_n 2, 1) := by decide +kernel
theorem dX11_told_104 : decode cX11_told 104 = .ok (.bipush 7, 2) := by decide +kernel
theorem dX11_told_106 : decode cX11_told 106 = .ok (.isub, 1) := by decide +kernel
theorem dX11_told_107 : decode cX11_told 107 = .ok (.iload_n 3, 1) := by decide +kernel
theorem dX11_told_108 : decode cX11_told 108 = .ok (.if_icmp .ge 19, 3) := by decide +kernel
theorem dX11_told_111 : decode cX11_told 111 = .ok (.aload_n 0, 1) := by decide +kernel
theorem dX11_told_112 : decode cX11_told 112 = .ok (.getfield 12, 3) := by decide +kernel
theorem dX11_told_115 : decode cX11_told 115 = .ok (.iload_n 1, 1) := by decide +kernel
theorem dX11_told_116 : decode cX11_told 116 = .ok (.iload_n 2, 1) := by decide +kernel
theorem dX11_told_117 : decode cX11_told 117 = .ok (.bipush 7, 2) := by decide +kernel
theorem dX11_told_119 : decode cX11_told 119 = .ok (.isub, 1) := by decide +kernel
theorem dX11_told_120 : decode cX11_told 120 = .ok (.invokevirtual 132, 3) := by decide +kernel
theorem dX11_told_123 : decode cX11_told 123 = .ok (.i2l, 1) := by decide +kernel
theorem dX11_told_124 : decode cX11_told 124 = .ok (.goto 6, 3) := by decide +kernel
theorem dX11_told_127 : decode cX11_told 127 = .ok (.ldc2_w 123, 3) := by decide +kernel
theorem dX11_told_130 : decode cX11_told 130 = .ok (.lreturn, 1) := by decide +kernel
theorem dX11_base_0 : decode cX11_base 0 = .ok (.aload_n 0, 1) := by decide +kernel
theorem dX11_base_1 : decode cX11_base 1 = .ok (.getfield 12, 3) := by decide +kernel
theorem dX11_base_4 : decode cX11_base 4 = .ok (.iload_n 1, 1) := by decide +kernel
theorem dX11_base_5 : decode cX11_base 5 = .ok (.invokevirtual 87, 3) := by decide +kernel
theorem dX11_base_8 : decode cX11_base 8 = .ok (.ifCond .ne 9, 3) := by decide +kernel
theorem dX11_base_11 : decode cX11_base 11 = .ok (.aload_n 0, 1) := by decide +kernel
theorem dX11_base_12 : decode cX11_base 12 = .ok (.iconst 1, 1) := by decide +kernel
theorem dX11_base_13 : decode cX11_base 13 = .ok (.invokevirtual 67, 3) := by decide +kernel
theorem dX11_base_16 : decode cX11_base 16 = .ok (.ireturn, 1) := by decide +kernel
theorem dX11_base_17 : decode cX11_base 17 = .ok (.aload_n 0, 1) := by decide +kernel
theorem dX11_base_18 : decode cX11_base 18 = .ok (.new 16, 3) := by decide +kernel
theorem dX11_base_21 : decode cX11_base 21 = .ok (.dup, 1) := by decide +kernel
theorem dX11_base_22 : decode cX11_base 22 = .ok (.iconst 0, 1) := by decide +kernel
theorem dX11_base_23 : decode cX11_base 23 = .ok (.aload_n 0, 1) := by decide +kernel
theorem dX11_base_24 : decode cX11_base 24 = .ok (.getfield 12, 3) := by decide +kernel
theorem dX11_base_27 : decode cX11_base 27 = .ok (.getfield 136, 3) := by decide +kernel
theorem dX11_base_30 : decode cX11_base 30 = .ok (.iload_n 1, 1) := by decide +kernel
theorem dX11_base_31 : decode cX11_base 31 = .ok (.iaload, 1) := by decide +kernel
theorem dX11_base_32 : decode cX11_base 32 = .ok (.iload_n 1, 1) := by decide +kernel
theorem dX11_base_33 : decode cX11_base 33 = .ok (.iconst (-1), 1) := by decide +kernel
theorem dX11_base_34 : decode cX11_base 34 = .ok (.iconst 0, 1) := by decide +kernel
theorem dX11_base_35 : decode cX11_base 35 = .ok (.invokespecial 139, 3) := by decide +kernel
theorem dX11_base_38 : decode cX11_base 38 = .ok (.invokevirtual 142, 3) := by decide +kernel
theorem dX11_base_41 : decode cX11_base 41 = .ok (.ireturn, 1) := by decide +kernel
theorem dX11_pick_0 : decode cX11_pick 0 = .ok (.aload_n 0, 1) := by decide +kernel
theorem dX11_pick_1 : decode cX11_pick 1 = .ok (.iload_n 1, 1) := by decide +kernel
theorem dX11_pick_2 : decode cX11_pick 2 = .ok (.invokevirtual 146, 3) := by decide +kernel
theorem dX11_pick_5 : decode cX11_pick 5 = .ok (.ifCond .ne 9, 3) := by decide +kernel
theorem dX11_pick_8 : decode cX11_pick 8 = .ok (.aload_n 0, 1) := by decide +kernel
theorem dX11_pick_9 : decode cX11_pick 9 = .ok (.iconst 1, 1) := by decide +kernel
theorem dX11_pick_10 : decode cX11_pick 10 = .ok (.invokevirtual 67, 3) := by decide +kernel
theorem dX11_pick_13 : decode cX11_pick 13 = .ok (.ireturn, 1) := by decide +kernel
theorem dX11_pick_14 : decode cX11_pick 14 = .ok (.aload_n 0, 1) := by decide +kernel
theorem dX11_pick_15 : decode cX11_pick 15 = .ok (.iload_n 1, 1) := by decide +kernel
theorem dX11_pick_16 : decode cX11_pick 16 = .ok (.iload_n 2, 1) := by decide +kernel
theorem dX11_pick_17 : decode cX11_pick 17 = .ok (.invokevirtual 149, 3) := by decide +kernel
theorem dX11_pick_20 : decode cX11_pick 20 = .ok (.ifCond .ne 9, 3) := by decide +kernel
theorem dX11_pick_23 : decode cX11_pick 23 = .ok (.aload_n 0, 1) := by decide +kernel
theorem dX11_pick_24 : decode cX11_pick 24 = .ok (.iconst 2, 1) := by decide +kernel
theorem dX11_pick_25 : decode cX11_pick 25 = .ok (.invokevirtual 67, 3) := by decide +kernel
theorem dX11_pick_28 : decode cX11_pick 28 = .ok (.ireturn, 1) := by decide +kernel
theorem dX11_pick_29 : decode cX11_pick 29 = .ok (.aload_n 0, 1) := by decide +kernel
theorem dX11_pick_30 : decode cX11_pick 30 = .ok (.iconst 1, 1) := by decide +kernel
theorem dX11_pick_31 : decode cX11_pick 31 = .ok (.iload_n 1, 1) := by decide +kernel
theorem dX11_pick_32 : decode cX11_pick 32 = .ok (.aload_n 0, 1) := by decide +kernel
theorem dX11_pick_33 : decode cX11_pick 33 = .ok (.getfield 18, 3) := by decide +kernel
theorem dX11_pick_36 : decode cX11_pick 36 = .ok (.iload_n 1, 1) := by decide +kernel
theorem dX11_pick_37 : decode cX11_pick 37 = .ok (.aaload, 1) := by decide +kernel
theorem dX11_pick_38 : decode cX11_pick 38 = .ok (.getfield 153, 3) := by decide +kernel
theorem dX11_pick_41 : decode cX11_pick 41 = .ok (.invokevirtual 155, 3) := by decide +kernel
theorem dX11_pick_44 : decode cX11_pick 44 = .ok (.astore 4, 2) := by decide +kernel
theorem dX11_pick_46 : decode cX11_pick 46 = .ok (.aload 4, 2) := by decide +kernel
theorem dX11_pick_48 : decode cX11_pick 48 = .ok (.iload_n 2, 1) := by decide +kernel
theorem dX11_pick_49 : decode cX11_pick 49 = .ok (.iload_n 3, 1) := by decide +kernel
theorem dX11_pick_50 : decode cX11_pick 50 = .ok (.invokevirtual 159, 3) := by decide +kernel
theorem dX11_pick_53 : decode cX11_pick 53 = .ok (.aload_n 0, 1) := by decide +kernel
theorem dX11_pick_54 : decode cX11_pick 54 = .ok (.aload 4, 2) := by decide +kernel
theorem dX11_pick_56 : decode cX11_pick 56 = .ok (.invokevirtual 142, 3) := by decide +kernel
theorem dX11_pick_59 : decode cX11_pick 59 = .ok (.ireturn, 1) := by decide +kernel
theorem dX11_like_0 : decode cX11_like 0 = .ok (.aload_n 0, 1) := by decide +kernel
theorem dX11_like_1 : decode cX11_like 1 = .ok (.iload_n 1, 1) := by decide +kernel
theorem dX11_like_2 : decode cX11_like 2 = .ok (.invokevirtual 146, 3) := by decide +kernel
theorem dX11_like_5 : decode cX11_like 5 = .ok (.ifCond .ne 9, 3) := by decide +kernel
theorem dX11_like_8 : decode cX11_like 8 = .ok (.aload_n 0, 1) := by decide +kernel
theorem dX11_like_9 : decode cX11_like 9 = .ok (.iconst 1, 1) := by decide +kernel
theorem dX11_like_10 : decode cX11_like 10 = .ok (.invokevirtual 67, 3) := by decide +kernel
theorem dX11_like_13 : decode cX11_like 13 = .ok (.ireturn, 1) := by decide +kernel
theorem dX11_like_14 : decode cX11_like 14 = .ok (.aload_n 0, 1) := by decide +kernel
theorem dX11_like_15 : decode cX11_like 15 = .ok (.iload_n 1, 1) := by decide +kernel
theorem dX11_like_16 : decode cX11_like 16 = .ok (.iload_n 2, 1) := by decide +kernel
theorem dX11_like_17 : decode cX11_like 17 = .ok (.invokevirtual 149, 3) := by decide +kernel
theorem dX11_like_20 : decode cX11_like 20 = .ok (.ifCond .eq 12, 3) := by decide +kernel
theorem dX11_like_23 : decode cX11_like 23 = .ok (.aload_n 0, 1) := by decide +kernel
theorem dX11_like_24 : decode cX11_like 24 = .ok (.iload_n 1, 1) := by decide +kernel
theorem dX11_like_25 : decode cX11_like 25 = .ok (.iload_n 3, 1) := by decide +kernel
theorem dX11_like_26 : decode cX11_like 26 = .ok (.invokevirtual 149, 3) := by decide +kernel
theorem dX11_like_29 : decode cX11_like 29 = .ok (.ifCond .ne 9, 3) := by decide +kernel
theorem dX11_like_32 : decode cX11_like 32 = .ok (.aload_n 0, 1) := by decide +kernel
theorem dX11_like_33 : decode cX11_like 33 = .ok (.iconst 2, 1) := by decide +kernel
theorem dX11_like_34 : decode cX11_like 34 = .ok (.invokevirtual 67, 3) := by decide +kernel
theorem dX11_like_37 : decode cX11_like 37 = .ok (.ireturn, 1) := by decide +kernel
theorem dX11_like_38 : decode cX11_like 38 = .ok (.aload_n 0, 1) := by decide +kernel
theorem dX11_like_39 : decode cX11_like 39 = .ok (.iconst 2, 1) := by decide +kernel
theorem dX11_like_40 : decode cX11_like 40 = .ok (.iload_n 1, 1) := by decide +kernel
theorem dX11_like_41 : decode cX11_like 41 = .ok (.aload_n 0, 1) := by decide +kernel
theorem dX11_like_42 : decode cX11_like 42 = .ok (.getfield 18, 3) := by decide +kernel
theorem dX11_like_45 : decode cX11_like 45 = .ok (.iload_n 1, 1) := by decide +kernel
theorem dX11_like_46 : decode cX11_like 46 = .ok (.aaload, 1) := by decide +kernel
theorem dX11_like_47 : decode cX11_like 47 = .ok (.getfield 153, 3) := by decide +kernel
theorem dX11_like_50 : decode cX11_like 50 = .ok (.invokevirtual 155, 3) := by decide +kernel
theorem dX11_like_53 : decode cX11_like 53 = .ok (.astore 4, 2) := by decide +kernel
theorem dX11_like_55 : decode cX11_like 55 = .ok (.aload 4, 2) := by decide +kernel
theorem dX11_like_57 : decode cX11_like 57 = .ok (.iload_n 2, 1) := by decide +kernel
theorem dX11_like_58 : decode cX11_like 58 = .ok (.iload_n 3, 1) := by decide +kernel
theorem dX11_like_59 : decode cX11_like 59 = .ok (.invokevirtual 159, 3) := by decide +kernel
theorem dX11_like_62 : decode cX11_like 62 = .ok (.aload_n 0, 1) := by decide +kernel
theorem dX11_like_63 : decode cX11_like 63 = .ok (.aload 4, 2) := by decide +kernel
theorem dX11_like_65 : decode cX11_like 65 = .ok (.invokevirtual 142, 3) := by decide +kernel
theorem dX11_like_68 : decode cX11_like 68 = .ok (.ireturn, 1) := by decide +kernel
theorem dX11_cut_0 : decode cX11_cut 0 = .ok (.aload_n 0, 1) := by decide +kernel
theorem dX11_cut_1 : decode cX11_cut 1 = .ok (.iload_n 1, 1) := by decide +kernel
theorem dX11_cut_2 : decode cX11_cut 2 = .ok (.invokevirtual 146, 3) := by decide +kernel
theorem dX11_cut_5 : decode cX11_cut 5 = .ok (.ifCond .ne 9, 3) := by decide +kernel
theorem dX11_cut_8 : decode cX11_cut 8 = .ok (.aload_n 0, 1) := by decide +kernel
theorem dX11_cut_9 : decode cX11_cut 9 = .ok (.iconst 1, 1) := by decide +kernel
theorem dX11_cut_10 : decode cX11_cut 10 = .ok (.invokevirtual 67, 3) := by decide +kernel
theorem dX11_cut_13 : decode cX11_cut 13 = .ok (.ireturn, 1) := by decide +kernel
theorem dX11_cut_14 : decode cX11_cut 14 = .ok (.iload_n 2, 1) := by decide +kernel
theorem dX11_cut_15 : decode cX11_cut 15 = .ok (.iconst 1, 1) := by decide +kernel
theorem dX11_cut_16 : decode cX11_cut 16 = .ok (.if_icmp .lt 62, 3) := by decide +kernel
theorem dX11_cut_19 : decode cX11_cut 19 = .ok (.iload_n 2, 1) := by decide +kernel
theorem dX11_cut_20 : decode cX11_cut 20 = .ok (.iconst 4, 1) := by decide +kernel
theorem dX11_cut_21 : decode cX11_cut 21 = .ok (.if_icmp .gt 57, 3) := by decide +kernel
theorem dX11_cut_24 : decode cX11_cut 24 = .ok (.aload_n 0, 1) := by decide +kernel
theorem dX11_cut_25 : decode cX11_cut 25 = .ok (.iload_n 1, 1) := by decide +kernel
theorem dX11_cut_26 : decode cX11_cut 26 = .ok (.iload_n 3, 1) := by decide +kernel
theorem dX11_cut_27 : decode cX11_cut 27 = .ok (.invokevirtual 149, 3) := by decide +kernel
theorem dX11_cut_30 : decode cX11_cut 30 = .ok (.ifCond .eq 48, 3) := by decide +kernel
theorem dX11_cut_33 : decode cX11_cut 33 = .ok (.iload_n 2, 1) := by decide +kernel
theorem dX11_cut_34 : decode cX11_cut 34 = .ok (.iconst 1, 1) := by decide +kernel
theorem dX11_cut_35 : decode cX11_cut 35 = .ok (.if_icmp .le 13, 3) := by decide +kernel
theorem dX11_cut_38 : decode cX11_cut 38 = .ok (.aload_n 0, 1) := by decide +kernel
theorem dX11_cut_39 : decode cX11_cut 39 = .ok (.iload_n 1, 1) := by decide +kernel
theorem dX11_cut_40 : decode cX11_cut 40 = .ok (.iload 4, 2) := by decide +kernel
theorem dX11_cut_42 : decode cX11_cut 42 = .ok (.invokevirtual 149, 3) := by decide +kernel
theorem dX11_cut_45 : decode cX11_cut 45 = .ok (.ifCond .eq 33, 3) := by decide +kernel
theorem dX11_cut_48 : decode cX11_cut 48 = .ok (.iload_n 2, 1) := by decide +kernel
theorem dX11_cut_49 : decode cX11_cut 49 = .ok (.iconst 2, 1) := by decide +kernel
theorem dX11_cut_50 : decode cX11_cut 50 = .ok (.if_icmp .le 13, 3) := by decide +kernel
theorem dX11_cut_53 : decode cX11_cut 53 = .ok (.aload_n 0, 1) := by decide +kernel
theorem dX11_cut_54 : decode cX11_cut 54 = .ok (.iload_n 1, 1) := by decide +kernel
theorem dX11_cut_55 : decode cX11_cut 55 = .ok (.iload 5, 2) := by decide +kernel
theorem dX11_cut_57 : decode cX11_cut 57 = .ok (.invokevirtual 149, 3) := by decide +kernel
theorem dX11_cut_60 : decode cX11_cut 60 = .ok (.ifCond .eq 18, 3) := by decide +kernel
theorem dX11_cut_63 : decode cX11_cut 63 = .ok (.iload_n 2, 1) := by decide +kernel
theorem dX11_cut_64 : decode cX11_cut 64 = .ok (.iconst 3, 1) := by decide +kernel
theorem dX11_cut_65 : decode cX11_cut 65 = .ok (.if_icmp .le 19, 3) := by decide +kernel
theorem dX11_cut_68 : decode cX11_cut 68 = .ok (.aload_n 0, 1) := by decide +kernel
theorem dX11_cut_69 : decode cX11_cut 69 = .ok (.iload_n 1, 1) := by decide +kernel
theorem dX11_cut_70 : decode cX11_cut 70 = .ok (.iload 6, 2) := by decide +kernel
theorem dX11_cut_72 : decode cX11_cut 72 = .ok (.invokevirtual 149, 3) := by decide +kernel
theorem dX11_cut_75 : decode cX11_cut 75 = .ok (.ifCond .ne 9, 3) := by decide +kernel
theorem dX11_cut_78 : decode cX11_cut 78 = .ok (.aload_n 0, 1) := by decide +kernel
theorem dX11_cut_79 : decode cX11_cut 79 = .ok (.iconst 2, 1) := by decide +kernel
theorem dX11_cut_80 : decode cX11_cut 80 = .ok (.invokevirtual 67, 3) := by decide +kernel
theorem dX11_cut_83 : decode cX11_cut 83 = .ok (.ireturn, 1) := by decide +kernel
theorem dX11_cut_84 : decode cX11_cut 84 = .ok (.aload_n 0, 1) := by decide +kernel
theorem dX11_cut_85 : decode cX11_cut 85 = .ok (.iconst 3, 1) := by decide +kernel
theorem dX11_cut_86 : decode cX11_cut 86 = .ok (.iload_n 1, 1) := by decide +kernel
theorem dX11_cut_87 : decode cX11_cut 87 = .ok (.iload_n 2, 1) := by decide +kernel
theorem dX11_cut_88 : decode cX11_cut 88 = .ok (.invokevirtual 155, 3) := by decide +kernel
theorem dX11_cut_91 : decode cX11_cut 91 = .ok (.astore 7, 2) := by decide +kernel
theorem dX11_cut_93 : decode cX11_cut 93 = .ok (.aload 7, 2) := by decide +kernel
theorem dX11_cut_95 : decode cX11_cut 95 = .ok (.iload_n 3, 1) := by decide +kernel
theorem dX11_cut_96 : decode cX11_cut 96 = .ok (.iload 4, 2) := by decide +kernel
theorem dX11_cut_98 : decode cX11_cut 98 = .ok (.invokevirtual 159, 3) := by decide +kernel
theorem dX11_cut_101 : decode cX11_cut 101 = .ok (.aload 7, 2) := by decide +kernel
theorem dX11_cut_103 : decode cX11_cut 103 = .ok (.iload 5, 2) := by decide +kernel
theorem dX11_cut_105 : decode cX11_cut 105 = .ok (.iload 6, 2) := by decide +kernel
theorem dX11_cut_107 : decode cX11_cut 107 = .ok (.invokevirtual 163, 3) := by decide +kernel
theorem dX11_cut_110 : decode cX11_cut 110 = .ok (.aload_n 0, 1) := by decide +kernel
theorem dX11_cut_111 : decode cX11_cut 111 = .ok (.aload 7, 2) := by decide +kernel
theorem dX11_cut_113 : decode cX11_cut 113 = .ok (.invokevirtual 142, 3) := by decide +kernel
theorem dX11_cut_116 : decode cX11_cut 116 = .ok (.ireturn, 1) := by decide +kernel
theorem dX11_pair_0 : decode cX11_pair 0 = .ok (.aload_n 0, 1) := by decide +kernel
theorem dX11_pair_1 : decode cX11_pair 1 = .ok (.iload_n 1, 1) := by decide +kernel
theorem dX11_pair_2 : decode cX11_pair 2 = .ok (.invokevirtual 146, 3) := by decide +kernel
theorem dX11_pair_5 : decode cX11_pair 5 = .ok (.ifCond .eq 11, 3) := by decide +kernel
theorem dX11_pair_8 : decode cX11_pair 8 = .ok (.aload_n 0, 1) := by decide +kernel
theorem dX11_pair_9 : decode cX11_pair 9 = .ok (.iload_n 2, 1) := by decide +kernel
theorem dX11_pair_10 : decode cX11_pair 10 = .ok (.invokevirtual 146, 3) := by decide +kernel
theorem dX11_pair_13 : decode cX11_pair 13 = .ok (.ifCond .ne 9, 3) := by decide +kernel
theorem dX11_pair_16 : decode cX11_pair 16 = .ok (.aload_n 0, 1) := by decide +kernel
theorem dX11_pair_17 : decode cX11_pair 17 = .ok (.iconst 1, 1) := by decide +kernel
theorem dX11_pair_18 : decode cX11_pair 18 = .ok (.invokevirtual 67, 3) := by decide +kernel
theorem dX11_pair_21 : decode cX11_pair 21 = .ok (.ireturn, 1) := by decide +kernel
theorem dX11_pair_22 : decode cX11_pair 22 = .ok (.aload_n 0, 1) := by decide +kernel
theorem dX11_pair_23 : decode cX11_pair 23 = .ok (.iload_n 1, 1) := by decide +kernel
theorem dX11_pair_24 : decode cX11_pair 24 = .ok (.iload_n 3, 1) := by decide +kernel
theorem dX11_pair_25 : decode cX11_pair 25 = .ok (.invokevirtual 149, 3) := by decide +kernel
theorem dX11_pair_28 : decode cX11_pair 28 = .ok (.ifCond .eq 13, 3) := by decide +kernel
theorem dX11_pair_31 : decode cX11_pair 31 = .ok (.aload_n 0, 1) := by decide +kernel
theorem dX11_pair_32 : decode cX11_pair 32 = .ok (.iload_n 2, 1) := by decide +kernel
theorem dX11_pair_33 : decode cX11_pair 33 = .ok (.iload 4, 2) := by decide +kernel
theorem dX11_pair_35 : decode cX11_pair 35 = .ok (.invokevirtual 149, 3) := by decide +kernel
theorem dX11_pair_38 : decode cX11_pair 38 = .ok (.ifCond .ne 9, 3) := by decide +kernel
theorem dX11_pair_41 : decode cX11_pair 41 = .ok (.aload_n 0, 1) := by decide +kernel
theorem dX11_pair_42 : decode cX11_pair 42 = .ok (.iconst 2, 1) := by decide +kernel
theorem dX11_pair_43 : decode cX11_pair 43 = .ok (.invokevirtual 67, 3) := by decide +kernel
theorem dX11_pair_46 : decode cX11_pair 46 = .ok (.ireturn, 1) := by decide +kernel
theorem dX11_pair_47 : decode cX11_pair 47 = .ok (.aload_n 0, 1) := by decide +kernel
theorem dX11_pair_48 : decode cX11_pair 48 = .ok (.getfield 18, 3) := by decide +kernel
theorem dX11_pair_51 : decode cX11_pair 51 = .ok (.iload_n 1, 1) := by decide +kernel
theorem dX11_pair_52 : decode cX11_pair 52 = .ok (.aaload, 1) := by decide +kernel
theorem dX11_pair_53 : decode cX11_pair 53 = .ok (.getfield 153, 3) := by decide +kernel
theorem dX11_pair_56 : decode cX11_pair 56 = .ok (.aload_n 0, 1) := by decide +kernel
theorem dX11_pair_57 : decode cX11_pair 57 = .ok (.getfield 18, 3) := by decide +kernel
theorem dX11_pair_60 : decode cX11_pair 60 = .ok (.iload_n 2, 1) := by decide +kernel
theorem dX11_pair_61 : decode cX11_pair 61 = .ok (.aaload, 1) := by decide +kernel
theorem dX11_pair_62 : decode cX11_pair 62 = .ok (.getfield 153, 3) := by decide +kernel
theorem dX11_pair_65 : decode cX11_pair 65 = .ok (.iadd, 1) := by decide +kernel
theorem dX11_pair_66 : decode cX11_pair 66 = .ok (.istore 5, 2) := by decide +kernel
theorem dX11_pair_68 : decode cX11_pair 68 = .ok (.iload 5, 2) := by decide +kernel
theorem dX11_pair_70 : decode cX11_pair 70 = .ok (.bipush 6, 2) := by decide +kernel
theorem dX11_pair_72 : decode cX11_pair 72 = .ok (.if_icmp .le 9, 3) := by decide +kernel
theorem dX11_pair_75 : decode cX11_pair 75 = .ok (.aload_n 0, 1) := by decide +kernel
theorem dX11_pair_76 : decode cX11_pair 76 = .ok (.iconst 3, 1) := by decide +kernel
theorem dX11_pair_77 : decode cX11_pair 77 = .ok (.invokevirtual 67, 3) := by decide +kernel
theorem dX11_pair_80 : decode cX11_pair 80 = .ok (.ireturn, 1) := by decide +kernel
theorem dX11_pair_81 : decode cX11_pair 81 = .ok (.aload_n 0, 1) := by decide +kernel
theorem dX11_pair_82 : decode cX11_pair 82 = .ok (.iconst 4, 1) := by decide +kernel
theorem dX11_pair_83 : decode cX11_pair 83 = .ok (.iload_n 1, 1) := by decide +kernel
theorem dX11_pair_84 : decode cX11_pair 84 = .ok (.iload_n 2, 1) := by decide +kernel
theorem dX11_pair_85 : decode cX11_pair 85 = .ok (.iload 5, 2) := by decide +kernel
theorem dX11_pair_87 : decode cX11_pair 87 = .ok (.invokevirtual 166, 3) := by decide +kernel
theorem dX11_pair_90 : decode cX11_pair 90 = .ok (.astore 6, 2) := by decide +kernel
theorem dX11_pair_92 : decode cX11_pair 92 = .ok (.aload 6, 2) := by decide +kernel
theorem dX11_pair_94 : decode cX11_pair 94 = .ok (.iload_n 3, 1) := by decide +kernel
theorem dX11_pair_95 : decode cX11_pair 95 = .ok (.iload 4, 2) := by decide +kernel
theorem dX11_pair_97 : decode cX11_pair 97 = .ok (.invokevirtual 159, 3) := by decide +kernel
theorem dX11_pair_100 : decode cX11_pair 100 = .ok (.aload_n 0, 1) := by decide +kernel
theorem dX11_pair_101 : decode cX11_pair 101 = .ok (.aload 6, 2) := by decide +kernel
theorem dX11_pair_103 : decode cX11_pair 103 = .ok (.invokevirtual 142, 3) := by decide +kernel
theorem dX11_pair_106 : decode cX11_pair 106 = .ok (.ireturn, 1) := by decide +kernel
theorem dX11_either_0 : decode cX11_either 0 = .ok (.aload_n 0, 1) := by decide +kernel
theorem dX11_either_1 : decode cX11_either 1 = .ok (.iconst 5, 1) := by decide +kernel
theorem dX11_either_2 : decode cX11_either 2 = .ok (.iload_n 1, 1) := by decide +kernel
theorem dX11_either_3 : decode cX11_either 3 = .ok (.iload_n 2, 1) := by decide +kernel
theorem dX11_either_4 : decode cX11_either 4 = .ok (.invokevirtual 170, 3) := by decide +kernel
theorem dX11_either_7 : decode cX11_either 7 = .ok (.ireturn, 1) := by decide +kernel
theorem dX11_close_0 : decode cX11_close 0 = .ok (.aload_n 0, 1) := by decide +kernel
theorem dX11_close_1 : decode cX11_close 1 = .ok (.iload_n 1, 1) := by decide +kernel
theorem dX11_close_2 : decode cX11_close 2 = .ok (.invokevirtual 146, 3) := by decide +kernel
theorem dX11_close_5 : decode cX11_close 5 = .ok (.ifCond .ne 9, 3) := by decide +kernel
theorem dX11_close_8 : decode cX11_close 8 = .ok (.aload_n 0, 1) := by decide +kernel
theorem dX11_close_9 : decode cX11_close 9 = .ok (.iconst 1, 1) := by decide +kernel
theorem dX11_close_10 : decode cX11_close 10 = .ok (.invokevirtual 67, 3) := by decide +kernel
theorem dX11_close_13 : decode cX11_close 13 = .ok (.ireturn, 1) := by decide +kernel
theorem dX11_close_14 : decode cX11_close 14 = .ok (.aload_n 0, 1) := by decide +kernel
theorem dX11_close_15 : decode cX11_close 15 = .ok (.getfield 18, 3) := by decide +kernel
theorem dX11_close_18 : decode cX11_close 18 = .ok (.iload_n 1, 1) := by decide +kernel
theorem dX11_close_19 : decode cX11_close 19 = .ok (.aaload, 1) := by decide +kernel
theorem dX11_close_20 : decode cX11_close 20 = .ok (.getfield 153, 3) := by decide +kernel
theorem dX11_close_23 : decode cX11_close 23 = .ok (.iconst 2, 1) := by decide +kernel
theorem dX11_close_24 : decode cX11_close 24 = .ok (.if_icmp .eq 9, 3) := by decide +kernel
theorem dX11_close_27 : decode cX11_close 27 = .ok (.aload_n 0, 1) := by decide +kernel
theorem dX11_close_28 : decode cX11_close 28 = .ok (.iconst 3, 1) := by decide +kernel
theorem dX11_close_29 : decode cX11_close 29 = .ok (.invokevirtual 67, 3) := by decide +kernel
theorem dX11_close_32 : decode cX11_close 32 = .ok (.ireturn, 1) := by decide +kernel
theorem dX11_close_33 : decode cX11_close 33 = .ok (.aload_n 0, 1) := by decide +kernel
theorem dX11_close_34 : decode cX11_close 34 = .ok (.new 16, 3) := by decide +kernel
theorem dX11_close_37 : decode cX11_close 37 = .ok (.dup, 1) := by decide +kernel
theorem dX11_close_38 : decode cX11_close 38 = .ok (.bipush 6, 2) := by decide +kernel
theorem dX11_close_40 : decode cX11_close 40 = .ok (.iconst 2, 1) := by decide +kernel
theorem dX11_close_41 : decode cX11_close 41 = .ok (.iload_n 1, 1) := by decide +kernel
theorem dX11_close_42 : decode cX11_close 42 = .ok (.iconst (-1), 1) := by decide +kernel
theorem dX11_close_43 : decode cX11_close 43 = .ok (.iconst 1, 1) := by decide +kernel
theorem dX11_close_44 : decode cX11_close 44 = .ok (.invokespecial 139, 3) := by decide +kernel
theorem dX11_close_47 : decode cX11_close 47 = .ok (.invokevirtual 142, 3) := by decide +kernel
theorem dX11_close_50 : decode cX11_close 50 = .ok (.ireturn, 1) := by decide +kernel
theorem dX11_most_0 : decode cX11_most 0 = .ok (.aload_n 0, 1) := by decide +kernel
theorem dX11_most_1 : decode cX11_most 1 = .ok (.bipush 7, 2) := by decide +kernel
theorem dX11_most_3 : decode cX11_most 3 = .ok (.iload_n 1, 1) := by decide +kernel
theorem dX11_most_4 : decode cX11_most 4 = .ok (.iload_n 2, 1) := by decide +kernel
theorem dX11_most_5 : decode cX11_most 5 = .ok (.invokevirtual 170, 3) := by decide +kernel
theorem dX11_most_8 : decode cX11_most 8 = .ok (.ireturn, 1) := by decide +kernel
theorem dX11_kind_0 : decode cX11_kind 0 = .ok (.aload_n 0, 1) := by decide +kernel
theorem dX11_kind_1 : decode cX11_kind 1 = .ok (.iload_n 1, 1) := by decide +kernel
theorem dX11_kind_2 : decode cX11_kind 2 = .ok (.invokevirtual 146, 3) := by decide +kernel
theorem dX11_kind_5 : decode cX11_kind 5 = .ok (.ifCond .ne 5, 3) := by decide +kernel
theorem dX11_kind_8 : decode cX11_kind 8 = .ok (.iconst (-1), 1) := by decide +kernel
theorem dX11_kind_9 : decode cX11_kind 9 = .ok (.ireturn, 1) := by decide +kernel
theorem dX11_kind_10 : decode cX11_kind 10 = .ok (.aload_n 0, 1) := by decide +kernel
theorem dX11_kind_11 : decode cX11_kind 11 = .ok (.getfield 18, 3) := by decide +kernel
theorem dX11_kind_14 : decode cX11_kind 14 = .ok (.iload_n 1, 1) := by decide +kernel
theorem dX11_kind_15 : decode cX11_kind 15 = .ok (.aaload, 1) := by decide +kernel
theorem dX11_kind_16 : decode cX11_kind 16 = .ok (.astore_n 3, 1) := by decide +kernel
theorem dX11_kind_17 : decode cX11_kind 17 = .ok (.iload_n 2, 1) := by decide +kernel
theorem dX11_kind_18 : decode cX11_kind 18 = .ok (.tableswitch 67 0 4 #[34, 39, 44, 49, 54], 34) := by decide +kernel
theorem dX11_kind_52 : decode cX11_kind 52 = .ok (.aload_n 3, 1) := by decide +kernel
theorem dX11_kind_53 : decode cX11_kind 53 = .ok (.getfield 174, 3) := by decide +kernel
theorem dX11_kind_56 : decode cX11_kind 56 = .ok (.ireturn, 1) := by decide +kernel
theorem dX11_kind_57 : decode cX11_kind 57 = .ok (.aload_n 3, 1) := by decide +kernel
theorem dX11_kind_58 : decode cX11_kind 58 = .ok (.getfield 153, 3) := by decide +kernel
theorem dX11_kind_61 : decode cX11_kind 61 = .ok (.ireturn, 1) := by decide +kernel
theorem dX11_kind_62 : decode cX11_kind 62 = .ok (.aload_n 3, 1) := by decide +kernel
theorem dX11_kind_63 : decode cX11_kind 63 = .ok (.getfield 177, 3) := by decide +kernel
theorem dX11_kind_66 : decode cX11_kind 66 = .ok (.ireturn, 1) := by decide +kernel
theorem dX11_kind_67 : decode cX11_kind 67 = .ok (.aload_n 3, 1) := by decide +kernel
theorem dX11_kind_68 : decode cX11_kind 68 = .ok (.getfield 180, 3) := by decide +kernel
theorem dX11_kind_71 : decode cX11_kind 71 = .ok (.ireturn, 1) := by decide +kernel
theorem dX11_kind_72 : decode cX11_kind 72 = .ok (.aload_n 3, 1) := by decide +kernel
theorem dX11_kind_73 : decode cX11_kind 73 = .ok (.getfield 183, 3) := by decide +kernel
theorem dX11_kind_76 : decode cX11_kind 76 = .ok (.ifCond .eq 7, 3) := by decide +kernel
theorem dX11_kind_79 : decode cX11_kind 79 = .ok (.iconst 1, 1) := by decide +kernel
theorem dX11_kind_80 : decode cX11_kind 80 = .ok (.goto 4, 3) := by decide +kernel
theorem dX11_kind_83 : decode cX11_kind 83 = .ok (.iconst 0, 1) := by decide +kernel
theorem dX11_kind_84 : decode cX11_kind 84 = .ok (.ireturn, 1) := by decide +kernel
theorem dX11_kind_85 : decode cX11_kind 85 = .ok (.iconst (-1), 1) := by decide +kernel
theorem dX11_kind_86 : decode cX11_kind 86 = .ok (.ireturn, 1) := by decide +kernel
theorem dX11_ask_0 : decode cX11_ask 0 = .ok (.aload_n 0, 1) := by decide +kernel
theorem dX11_ask_1 : decode cX11_ask 1 = .ok (.iload_n 1, 1) := by decide +kernel
theorem dX11_ask_2 : decode cX11_ask 2 = .ok (.invokevirtual 146, 3) := by decide +kernel
theorem dX11_ask_5 : decode cX11_ask 5 = .ok (.ifCond .ne 9, 3) := by decide +kernel
theorem dX11_ask_8 : decode cX11_ask 8 = .ok (.aload_n 0, 1) := by decide +kernel
theorem dX11_ask_9 : decode cX11_ask 9 = .ok (.iconst 1, 1) := by decide +kernel
theorem dX11_ask_10 : decode cX11_ask 10 = .ok (.invokevirtual 67, 3) := by decide +kernel
theorem dX11_ask_13 : decode cX11_ask 13 = .ok (.ireturn, 1) := by decide +kernel
theorem dX11_ask_14 : decode cX11_ask 14 = .ok (.aload_n 0, 1) := by decide +kernel
theorem dX11_ask_15 : decode cX11_ask 15 = .ok (.getfield 27, 3) := by decide +kernel
theorem dX11_ask_18 : decode cX11_ask 18 = .ok (.iload_n 1, 1) := by decide +kernel
theorem dX11_ask_19 : decode cX11_ask 19 = .ok (.invokevirtual 187, 3) := by decide +kernel
theorem dX11_ask_22 : decode cX11_ask 22 = .ok (.astore_n 2, 1) := by decide +kernel
theorem dX11_ask_23 : decode cX11_ask 23 = .ok (.aload_n 2, 1) := by decide +kernel
theorem dX11_ask_24 : decode cX11_ask 24 = .ok (.ifnonnull 9, 3) := by decide +kernel
theorem dX11_ask_27 : decode cX11_ask 27 = .ok (.aload_n 0, 1) := by decide +kernel
theorem dX11_ask_28 : decode cX11_ask 28 = .ok (.iconst 5, 1) := by decide +kernel
theorem dX11_ask_29 : decode cX11_ask 29 = .ok (.invokevirtual 67, 3) := by decide +kernel
theorem dX11_ask_32 : decode cX11_ask 32 = .ok (.ireturn, 1) := by decide +kernel
theorem dX11_ask_33 : decode cX11_ask 33 = .ok (.aload_n 0, 1) := by decide +kernel
theorem dX11_ask_34 : decode cX11_ask 34 = .ok (.getfield 36, 3) := by decide +kernel
theorem dX11_ask_37 : decode cX11_ask 37 = .ok (.aload_n 2, 1) := by decide +kernel
theorem dX11_ask_38 : decode cX11_ask 38 = .ok (.invokevirtual 191, 3) := by decide +kernel
theorem dX11_ask_41 : decode cX11_ask 41 = .ok (.aload_n 0, 1) := by decide +kernel
theorem dX11_ask_42 : decode cX11_ask 42 = .ok (.aload_n 0, 1) := by decide +kernel
theorem dX11_ask_43 : decode cX11_ask 43 = .ok (.getfield 18, 3) := by decide +kernel
theorem dX11_ask_46 : decode cX11_ask 46 = .ok (.iload_n 1, 1) := by decide +kernel
theorem dX11_ask_47 : decode cX11_ask 47 = .ok (.aaload, 1) := by decide +kernel
theorem dX11_ask_48 : decode cX11_ask 48 = .ok (.getfield 183, 3) := by decide +kernel
theorem dX11_ask_51 : decode cX11_ask 51 = .ok (.putfield 195, 3) := by decide +kernel
theorem dX11_ask_54 : decode cX11_ask 54 = .ok (.aload_n 0, 1) := by decide +kernel
theorem dX11_ask_55 : decode cX11_ask 55 = .ok (.iconst 0, 1) := by decide +kernel
theorem dX11_ask_56 : decode cX11_ask 56 = .ok (.putfield 101, 3) := by decide +kernel
theorem dX11_ask_59 : decode cX11_ask 59 = .ok (.aload_n 0, 1) := by decide +kernel
theorem dX11_ask_60 : decode cX11_ask 60 = .ok (.getfield 36, 3) := by decide +kernel
theorem dX11_ask_63 : decode cX11_ask 63 = .ok (.getfield 198, 3) := by decide +kernel
theorem dX11_ask_66 : decode cX11_ask 66 = .ok (.ireturn, 1) := by decide +kernel
theorem dX11_value_0 : decode cX11_value 0 = .ok (.aload_n 0, 1) := by decide +kernel
theorem dX11_value_1 : decode cX11_value 1 = .ok (.getfield 36, 3) := by decide +kernel
theorem dX11_value_4 : decode cX11_value 4 = .ok (.iload_n 1, 1) := by decide +kernel
theorem dX11_value_5 : decode cX11_value 5 = .ok (.invokevirtual 201, 3) := by decide +kernel
theorem dX11_value_8 : decode cX11_value 8 = .ok (.astore_n 3, 1) := by decide +kernel
theorem dX11_value_9 : decode cX11_value 9 = .ok (.aload_n 3, 1) := by decide +kernel
theorem dX11_value_10 : decode cX11_value 10 = .ok (.ifnull 18, 3) := by decide +kernel
theorem dX11_value_13 : decode cX11_value 13 = .ok (.iload_n 2, 1) := by decide +kernel
theorem dX11_value_14 : decode cX11_value 14 = .ok (.ifCond .lt 14, 3) := by decide +kernel
theorem dX11_value_17 : decode cX11_value 17 = .ok (.iload_n 2, 1) := by decide +kernel
theorem dX11_value_18 : decode cX11_value 18 = .ok (.aload_n 0, 1) := by decide +kernel
theorem dX11_value_19 : decode cX11_value 19 = .ok (.getfield 36, 3) := by decide +kernel
theorem dX11_value_22 : decode cX11_value 22 = .ok (.getfield 205, 3) := by decide +kernel
theorem dX11_value_25 : decode cX11_value 25 = .ok (.if_icmp .lt 5, 3) := by decide +kernel
theorem dX11_value_28 : decode cX11_value 28 = .ok (.iconst 0, 1) := by decide +kernel
theorem dX11_value_29 : decode cX11_value 29 = .ok (.ireturn, 1) := by decide +kernel
theorem dX11_value_30 : decode cX11_value 30 = .ok (.aload_n 3, 1) := by decide +kernel
theorem dX11_value_31 : decode cX11_value 31 = .ok (.getfield 206, 3) := by decide +kernel
theorem dX11_value_34 : decode cX11_value 34 = .ok (.iload_n 2, 1) := by decide +kernel
theorem dX11_value_35 : decode cX11_value 35 = .ok (.iaload, 1) := by decide +kernel
theorem dX11_value_36 : decode cX11_value 36 = .ok (.ireturn, 1) := by decide +kernel
theorem dX11_find_0 : decode cX11_find 0 = .ok (.bipush 6, 2) := by decide +kernel
theorem dX11_find_2 : decode cX11_find 2 = .ok (.newarray .int, 2) := by decide +kernel
theorem dX11_find_4 : decode cX11_find 4 = .ok (.dup, 1) := by decide +kernel
theorem dX11_find_5 : decode cX11_find 5 = .ok (.iconst 0, 1) := by decide +kernel
theorem dX11_find_6 : decode cX11_find 6 = .ok (.iload_n 1, 1) := by decide +kernel
theorem dX11_find_7 : decode cX11_find 7 = .ok (.iastore, 1) := by decide +kernel
theorem dX11_find_8 : decode cX11_find 8 = .ok (.dup, 1) := by decide +kernel
theorem dX11_find_9 : decode cX11_find 9 = .ok (.iconst 1, 1) := by decide +kernel
theorem dX11_find_10 : decode cX11_find 10 = .ok (.iload_n 2, 1) := by decide +kernel
theorem dX11_find_11 : decode cX11_find 11 = .ok (.iastore, 1) := by decide +kernel
theorem dX11_find_12 : decode cX11_find 12 = .ok (.dup, 1) := by decide +kernel
theorem dX11_find_13 : decode cX11_find 13 = .ok (.iconst 2, 1) := by decide +kernel
theorem dX11_find_14 : decode cX11_find 14 = .ok (.iload_n 3, 1) := by decide +kernel
theorem dX11_find_15 : decode cX11_find 15 = .ok (.iastore, 1) := by decide +kernel
theorem dX11_find_16 : decode cX11_find 16 = .ok (.dup, 1) := by decide +kernel
theorem dX11_find_17 : decode cX11_find 17 = .ok (.iconst 3, 1) := by decide +kernel
theorem dX11_find_18 : decode cX11_find 18 = .ok (.iload 4, 2) := by decide +kernel
theorem dX11_find_20 : decode cX11_find 20 = .ok (.iastore, 1) := by decide +kernel
theorem dX11_find_21 : decode cX11_find 21 = .ok (.dup, 1) := by decide +kernel
theorem dX11_find_22 : decode cX11_find 22 = .ok (.iconst 4, 1) := by decide +kernel
theorem dX11_find_23 : decode cX11_find 23 = .ok (.iload 5, 2) := by decide +kernel
theorem dX11_find_25 : decode cX11_find 25 = .ok (.iastore, 1) := by decide +kernel
theorem dX11_find_26 : decode cX11_find 26 = .ok (.dup, 1) := by decide +kernel
theorem dX11_find_27 : decode cX11_find 27 = .ok (.iconst 5, 1) := by decide +kernel
theorem dX11_find_28 : decode cX11_find 28 = .ok (.iload 6, 2) := by decide +kernel
theorem dX11_find_30 : decode cX11_find 30 = .ok (.iastore, 1) := by decide +kernel
theorem dX11_find_31 : decode cX11_find 31 = .ok (.astore 7, 2) := by decide +kernel
theorem dX11_find_33 : decode cX11_find 33 = .ok (.aload_n 0, 1) := by decide +kernel
theorem dX11_find_34 : decode cX11_find 34 = .ok (.getfield 36, 3) := by decide +kernel
theorem dX11_find_37 : decode cX11_find 37 = .ok (.aload 7, 2) := by decide +kernel
theorem dX11_find_39 : decode cX11_find 39 = .ok (.invokevirtual 211, 3) := by decide +kernel
theorem dX11_find_42 : decode cX11_find 42 = .ok (.ireturn, 1) := by decide +kernel
theorem dX11_ways_0 : decode cX11_ways 0 = .ok (.aload_n 0, 1) := by decide +kernel
theorem dX11_ways_1 : decode cX11_ways 1 = .ok (.getfield 36, 3) := by decide +kernel
theorem dX11_ways_4 : decode cX11_ways 4 = .ok (.iload_n 1, 1) := by decide +kernel
theorem dX11_ways_5 : decode cX11_ways 5 = .ok (.invokevirtual 201, 3) := by decide +kernel
theorem dX11_ways_8 : decode cX11_ways 8 = .ok (.astore_n 2, 1) := by decide +kernel
theorem dX11_ways_9 : decode cX11_ways 9 = .ok (.aload_n 2, 1) := by decide +kernel
theorem dX11_ways_10 : decode cX11_ways 10 = .ok (.ifnonnull 7, 3) := by decide +kernel
theorem dX11_ways_13 : decode cX11_ways 13 = .ok (.iconst (-1), 1) := by decide +kernel
theorem dX11_ways_14 : decode cX11_ways 14 = .ok (.goto 7, 3) := by decide +kernel
theorem dX11_ways_17 : decode cX11_ways 17 = .ok (.aload_n 2, 1) := by decide +kernel
theorem dX11_ways_18 : decode cX11_ways 18 = .ok (.getfield 215, 3) := by decide +kernel
theorem dX11_ways_21 : decode cX11_ways 21 = .ok (.ireturn, 1) := by decide +kernel
theorem dX11_way_0 : decode cX11_way 0 = .ok (.aload_n 0, 1) := by decide +kernel
theorem dX11_way_1 : decode cX11_way 1 = .ok (.getfield 36, 3) := by decide +kernel
theorem dX11_way_4 : decode cX11_way 4 = .ok (.iload_n 1, 1) := by decide +kernel
theorem dX11_way_5 : decode cX11_way 5 = .ok (.invokevirtual 201, 3) := by decide +kernel
theorem dX11_way_8 : decode cX11_way 8 = .ok (.astore_n 3, 1) := by decide +kernel
theorem dX11_way_9 : decode cX11_way 9 = .ok (.aload_n 3, 1) := by decide +kernel
theorem dX11_way_10 : decode cX11_way 10 = .ok (.ifnull 15, 3) := by decide +kernel
theorem dX11_way_13 : decode cX11_way 13 = .ok (.iload_n 2, 1) := by decide +kernel
theorem dX11_way_14 : decode cX11_way 14 = .ok (.ifCond .lt 11, 3) := by decide +kernel
theorem dX11_way_17 : decode cX11_way 17 = .ok (.iload_n 2, 1) := by decide +kernel
theorem dX11_way_18 : decode cX11_way 18 = .ok (.aload_n 3, 1) := by decide +kernel
theorem dX11_way_19 : decode cX11_way 19 = .ok (.getfield 215, 3) := by decide +kernel
theorem dX11_way_22 : decode cX11_way 22 = .ok (.if_icmp .lt 5, 3) := by decide +kernel
theorem dX11_way_25 : decode cX11_way 25 = .ok (.lconst 0, 1) := by decide +kernel
theorem dX11_way_26 : decode cX11_way 26 = .ok (.lreturn, 1) := by decide +kernel
theorem dX11_way_27 : decode cX11_way 27 = .ok (.aload_n 3, 1) := by decide +kernel
theorem dX11_way_28 : decode cX11_way 28 = .ok (.getfield 218, 3) := by decide +kernel
theorem dX11_way_31 : decode cX11_way 31 = .ok (.iload_n 2, 1) := by decide +kernel
theorem dX11_way_32 : decode cX11_way 32 = .ok (.laload, 1) := by decide +kernel
theorem dX11_way_33 : decode cX11_way 33 = .ok (.lreturn, 1) := by decide +kernel
theorem dX11_need_0 : decode cX11_need 0 = .ok (.aload_n 0, 1) := by decide +kernel
theorem dX11_need_1 : decode cX11_need 1 = .ok (.getfield 36, 3) := by decide +kernel
theorem dX11_need_4 : decode cX11_need 4 = .ok (.iload_n 1, 1) := by decide +kernel
theorem dX11_need_5 : decode cX11_need 5 = .ok (.invokevirtual 201, 3) := by decide +kernel
theorem dX11_need_8 : decode cX11_need 8 = .ok (.astore_n 2, 1) := by decide +kernel
theorem dX11_need_9 : decode cX11_need 9 = .ok (.aload_n 2, 1) := by decide +kernel
theorem dX11_need_10 : decode cX11_need 10 = .ok (.ifnonnull 7, 3) := by decide +kernel
theorem dX11_need_13 : decode cX11_need 13 = .ok (.lconst 0, 1) := by decide +kernel
theorem dX11_need_14 : decode cX11_need 14 = .ok (.goto 7, 3) := by decide +kernel
theorem dX11_need_17 : decode cX11_need 17 = .ok (.aload_n 2, 1) := by decide +kernel
theorem dX11_need_18 : decode cX11_need 18 = .ok (.invokevirtual 221, 3) := by decide +kernel
theorem dX11_need_21 : decode cX11_need 21 = .ok (.lreturn, 1) := by decide +kernel
theorem dX11_count_0 : decode cX11_count 0 = .ok (.aload_n 0, 1) := by decide +kernel
theorem dX11_count_1 : decode cX11_count 1 = .ok (.getfield 36, 3) := by decide +kernel
theorem dX11_count_4 : decode cX11_count 4 = .ok (.iload_n 1, 1) := by decide +kernel
theorem dX11_count_5 : decode cX11_count 5 = .ok (.invokevirtual 201, 3) := by decide +kernel
theorem dX11_count_8 : decode cX11_count 8 = .ok (.astore_n 2, 1) := by decide +kernel
theorem dX11_count_9 : decode cX11_count 9 = .ok (.aload_n 2, 1) := by decide +kernel
theorem dX11_count_10 : decode cX11_count 10 = .ok (.ifnull 10, 3) := by decide +kernel
theorem dX11_count_13 : decode cX11_count 13 = .ok (.aload_n 0, 1) := by decide +kernel
theorem dX11_count_14 : decode cX11_count 14 = .ok (.getfield 195, 3) := by decide +kernel
theorem dX11_count_17 : decode cX11_count 17 = .ok (.ifCond .eq 19, 3) := by decide +kernel
theorem dX11_count_20 : decode cX11_count 20 = .ok (.aload_n 0, 1) := by decide +kernel
theorem dX11_count_21 : decode cX11_count 21 = .ok (.aload_n 2, 1) := by decide +kernel
theorem dX11_count_22 : decode cX11_count 22 = .ok (.ifnonnull 7, 3) := by decide +kernel
theorem dX11_count_25 : decode cX11_count 25 = .ok (.iconst 1, 1) := by decide +kernel
theorem dX11_count_26 : decode cX11_count 26 = .ok (.goto 5, 3) := by decide +kernel
theorem dX11_count_29 : decode cX11_count 29 = .ok (.bipush 6, 2) := by decide +kernel
theorem dX11_count_31 : decode cX11_count 31 = .ok (.putfield 101, 3) := by decide +kernel
theorem dX11_count_34 : decode cX11_count 34 = .ok (.lconst 0, 1) := by decide +kernel
theorem dX11_count_35 : decode cX11_count 35 = .ok (.lreturn, 1) := by decide +kernel
theorem dX11_count_36 : decode cX11_count 36 = .ok (.aload_n 0, 1) := by decide +kernel
theorem dX11_count_37 : decode cX11_count 37 = .ok (.iconst 0, 1) := by decide +kernel
theorem dX11_count_38 : decode cX11_count 38 = .ok (.putfield 101, 3) := by decide +kernel
theorem dX11_count_41 : decode cX11_count 41 = .ok (.aload_n 2, 1) := by decide +kernel
theorem dX11_count_42 : decode cX11_count 42 = .ok (.getfield 225, 3) := by decide +kernel
theorem dX11_count_45 : decode cX11_count 45 = .ok (.lreturn, 1) := by decide +kernel
theorem dX11_cost_0 : decode cX11_cost 0 = .ok (.aload_n 0, 1) := by decide +kernel
theorem dX11_cost_1 : decode cX11_cost 1 = .ok (.getfield 36, 3) := by decide +kernel
theorem dX11_cost_4 : decode cX11_cost 4 = .ok (.iload_n 1, 1) := by decide +kernel
theorem dX11_cost_5 : decode cX11_cost 5 = .ok (.invokevirtual 201, 3) := by decide +kernel
theorem dX11_cost_8 : decode cX11_cost 8 = .ok (.astore_n 2, 1) := by decide +kernel
theorem dX11_cost_9 : decode cX11_cost 9 = .ok (.aload_n 2, 1) := by decide +kernel
theorem dX11_cost_10 : decode cX11_cost 10 = .ok (.ifnonnull 9, 3) := by decide +kernel
theorem dX11_cost_13 : decode cX11_cost 13 = .ok (.aload_n 0, 1) := by decide +kernel
theorem dX11_cost_14 : decode cX11_cost 14 = .ok (.iconst 1, 1) := by decide +kernel
theorem dX11_cost_15 : decode cX11_cost 15 = .ok (.invokevirtual 67, 3) := by decide +kernel
theorem dX11_cost_18 : decode cX11_cost 18 = .ok (.ireturn, 1) := by decide +kernel
theorem dX11_cost_19 : decode cX11_cost 19 = .ok (.aload_n 0, 1) := by decide +kernel
theorem dX11_cost_20 : decode cX11_cost 20 = .ok (.iconst 0, 1) := by decide +kernel
theorem dX11_cost_21 : decode cX11_cost 21 = .ok (.putfield 101, 3) := by decide +kernel
theorem dX11_cost_24 : decode cX11_cost 24 = .ok (.aload_n 2, 1) := by decide +kernel
theorem dX11_cost_25 : decode cX11_cost 25 = .ok (.getfield 229, 3) := by decide +kernel
theorem dX11_cost_28 : decode cX11_cost 28 = .ok (.ireturn, 1) := by decide +kernel
theorem dX11_trust_0 : decode cX11_trust 0 = .ok (.aload_n 0, 1) := by decide +kernel
theorem dX11_trust_1 : decode cX11_trust 1 = .ok (.getfield 36, 3) := by decide +kernel
theorem dX11_trust_4 : decode cX11_trust 4 = .ok (.iload_n 1, 1) := by decide +kernel
theorem dX11_trust_5 : decode cX11_trust 5 = .ok (.invokevirtual 201, 3) := by decide +kernel
theorem dX11_trust_8 : decode cX11_trust 8 = .ok (.astore_n 2, 1) := by decide +kernel
theorem dX11_trust_9 : decode cX11_trust 9 = .ok (.aload_n 2, 1) := by decide +kernel
theorem dX11_trust_10 : decode cX11_trust 10 = .ok (.ifnonnull 10, 3) := by decide +kernel
theorem dX11_trust_13 : decode cX11_trust 13 = .ok (.aload_n 0, 1) := by decide +kernel
theorem dX11_trust_14 : decode cX11_trust 14 = .ok (.iconst 1, 1) := by decide +kernel
theorem dX11_trust_15 : decode cX11_trust 15 = .ok (.invokevirtual 67, 3) := by decide +kernel
theorem dX11_trust_18 : decode cX11_trust 18 = .ok (.i2l, 1) := by decide +kernel
theorem dX11_trust_19 : decode cX11_trust 19 = .ok (.lreturn, 1) := by decide +kernel
theorem dX11_trust_20 : decode cX11_trust 20 = .ok (.aload_n 0, 1) := by decide +kernel
theorem dX11_trust_21 : decode cX11_trust 21 = .ok (.iconst 0, 1) := by decide +kernel
theorem dX11_trust_22 : decode cX11_trust 22 = .ok (.putfield 101, 3) := by decide +kernel
theorem dX11_trust_25 : decode cX11_trust 25 = .ok (.aload_n 2, 1) := by decide +kernel
theorem dX11_trust_26 : decode cX11_trust 26 = .ok (.getfield 232, 3) := by decide +kernel
theorem dX11_trust_29 : decode cX11_trust 29 = .ok (.lreturn, 1) := by decide +kernel
theorem dX11_stays_0 : decode cX11_stays 0 = .ok (.aload_n 0, 1) := by decide +kernel
theorem dX11_stays_1 : decode cX11_stays 1 = .ok (.iload_n 1, 1) := by decide +kernel
theorem dX11_stays_2 : decode cX11_stays 2 = .ok (.aload_n 0, 1) := by decide +kernel
theorem dX11_stays_3 : decode cX11_stays 3 = .ok (.getfield 12, 3) := by decide +kernel
theorem dX11_stays_6 : decode cX11_stays 6 = .ok (.getfield 235, 3) := by decide +kernel
theorem dX11_stays_9 : decode cX11_stays 9 = .ok (.ldc2_w 123, 3) := by decide +kernel
theorem dX11_stays_12 : decode cX11_stays 12 = .ok (.lxor, 1) := by decide +kernel
theorem dX11_stays_13 : decode cX11_stays 13 = .ok (.invokevirtual 238, 3) := by decide +kernel
theorem dX11_stays_16 : decode cX11_stays 16 = .ok (.ireturn, 1) := by decide +kernel
theorem dX11_without_0 : decode cX11_without 0 = .ok (.iconst 0, 1) := by decide +kernel
theorem dX11_without_1 : decode cX11_without 1 = .ok (.istore_n 3, 1) := by decide +kernel
theorem dX11_without_2 : decode cX11_without 2 = .ok (.iconst 0, 1) := by decide +kernel
theorem dX11_without_3 : decode cX11_without 3 = .ok (.istore 4, 2) := by decide +kernel
theorem dX11_without_5 : decode cX11_without 5 = .ok (.iload 4, 2) := by decide +kernel
theorem dX11_without_7 : decode cX11_without 7 = .ok (.aload_n 0, 1) := by decide +kernel
theorem dX11_without_8 : decode cX11_without 8 = .ok (.getfield 36, 3) := by decide +kernel
theorem dX11_without_11 : decode cX11_without 11 = .ok (.getfield 198, 3) := by decide +kernel
theorem dX11_without_14 : decode cX11_without 14 = .ok (.if_icmp .ge 29, 3) := by decide +kernel
theorem dX11_without_17 : decode cX11_without 17 = .ok (.aload_n 0, 1) := by decide +kernel
theorem dX11_without_18 : decode cX11_without 18 = .ok (.getfield 36, 3) := by decide +kernel
theorem dX11_without_21 : decode cX11_without 21 = .ok (.getfield 242, 3) := by decide +kernel
theorem dX11_without_24 : decode cX11_without 24 = .ok (.iload 4, 2) := by decide +kernel
theorem dX11_without_26 : decode cX11_without 26 = .ok (.aaload, 1) := by decide +kernel
theorem dX11_without_27 : decode cX11_without 27 = .ok (.lload_n 1, 1) := by decide +kernel
theorem dX11_without_28 : decode cX11_without 28 = .ok (.invokevirtual 246, 3) := by decide +kernel
theorem dX11_without_31 : decode cX11_without 31 = .ok (.ifCond .ne 6, 3) := by decide +kernel
theorem dX11_without_34 : decode cX11_without 34 = .ok (.iinc 3 1, 3) := by decide +kernel
theorem dX11_without_37 : decode cX11_without 37 = .ok (.iinc 4 1, 3) := by decide +kernel
theorem dX11_without_40 : decode cX11_without 40 = .ok (.goto (-35), 3) := by decide +kernel
theorem dX11_without_43 : decode cX11_without 43 = .ok (.iload_n 3, 1) := by decide +kernel
theorem dX11_without_44 : decode cX11_without 44 = .ok (.ireturn, 1) := by decide +kernel
theorem dX11_with_0 : decode cX11_with 0 = .ok (.aload_n 0, 1) := by decide +kernel
theorem dX11_with_1 : decode cX11_with 1 = .ok (.iload_n 1, 1) := by decide +kernel
theorem dX11_with_2 : decode cX11_with 2 = .ok (.lload_n 2, 1) := by decide +kernel
theorem dX11_with_3 : decode cX11_with 3 = .ok (.invokevirtual 238, 3) := by decide +kernel
theorem dX11_with_6 : decode cX11_with 6 = .ok (.ireturn, 1) := by decide +kernel
theorem dX11_chance_0 : decode cX11_chance 0 = .ok (.aload_n 0, 1) := by decide +kernel
theorem dX11_chance_1 : decode cX11_chance 1 = .ok (.iload_n 1, 1) := by decide +kernel
theorem dX11_chance_2 : decode cX11_chance 2 = .ok (.invokevirtual 250, 3) := by decide +kernel
theorem dX11_chance_5 : decode cX11_chance 5 = .ok (.astore_n 2, 1) := by decide +kernel
theorem dX11_chance_6 : decode cX11_chance 6 = .ok (.aload_n 2, 1) := by decide +kernel
theorem dX11_chance_7 : decode cX11_chance 7 = .ok (.ifnonnull 7, 3) := by decide +kernel
theorem dX11_chance_10 : decode cX11_chance 10 = .ok (.ldc2_w 123, 3) := by decide +kernel
theorem dX11_chance_13 : decode cX11_chance 13 = .ok (.lreturn, 1) := by decide +kernel
theorem dX11_chance_14 : decode cX11_chance 14 = .ok (.aload_n 0, 1) := by decide +kernel
theorem dX11_chance_15 : decode cX11_chance 15 = .ok (.getfield 43, 3) := by decide +kernel
theorem dX11_chance_18 : decode cX11_chance 18 = .ok (.aload_n 2, 1) := by decide +kernel
theorem dX11_chance_19 : decode cX11_chance 19 = .ok (.aload_n 0, 1) := by decide +kernel
theorem dX11_chance_20 : decode cX11_chance 20 = .ok (.getfield 12, 3) := by decide +kernel
theorem dX11_chance_23 : decode cX11_chance 23 = .ok (.iconst (-1), 1) := by decide +kernel
theorem dX11_chance_24 : decode cX11_chance 24 = .ok (.iconst 0, 1) := by decide +kernel
theorem dX11_chance_25 : decode cX11_chance 25 = .ok (.invokevirtual 253, 3) := by decide +kernel
theorem dX11_chance_28 : decode cX11_chance 28 = .ok (.lreturn, 1) := by decide +kernel
theorem dX11_share_0 : decode cX11_share 0 = .ok (.aload_n 0, 1) := by decide +kernel
theorem dX11_share_1 : decode cX11_share 1 = .ok (.getfield 36, 3) := by decide +kernel
theorem dX11_share_4 : decode cX11_share 4 = .ok (.iload_n 1, 1) := by decide +kernel
theorem dX11_share_5 : decode cX11_share 5 = .ok (.invokevirtual 201, 3) := by decide +kernel
theorem dX11_share_8 : decode cX11_share 8 = .ok (.ifnull 14, 3) := by decide +kernel
theorem dX11_share_11 : decode cX11_share 11 = .ok (.aload_n 0, 1) := by decide +kernel
theorem dX11_share_12 : decode cX11_share 12 = .ok (.getfield 12, 3) := by decide +kernel
theorem dX11_share_15 : decode cX11_share 15 = .ok (.iload_n 2, 1) := by decide +kernel
theorem dX11_share_16 : decode cX11_share 16 = .ok (.invokevirtual 98, 3) := by decide +kernel
theorem dX11_share_19 : decode cX11_share 19 = .ok (.ifCond .ne 10, 3) := by decide +kernel
theorem dX11_share_22 : decode cX11_share 22 = .ok (.aload_n 0, 1) := by decide +kernel
theorem dX11_share_23 : decode cX11_share 23 = .ok (.iconst 1, 1) := by decide +kernel
theorem dX11_share_24 : decode cX11_share 24 = .ok (.invokevirtual 67, 3) := by decide +kernel
theorem dX11_share_27 : decode cX11_share 27 = .ok (.i2l, 1) := by decide +kernel
theorem dX11_share_28 : decode cX11_share 28 = .ok (.lreturn, 1) := by decide +kernel
theorem dX11_share_29 : decode cX11_share 29 = .ok (.aload_n 0, 1) := by decide +kernel
theorem dX11_share_30 : decode cX11_share 30 = .ok (.iload_n 1, 1) := by decide +kernel
theorem dX11_share_31 : decode cX11_share 31 = .ok (.invokevirtual 250, 3) := by decide +kernel
theorem dX11_share_34 : decode cX11_share 34 = .ok (.astore_n 3, 1) := by decide +kernel
theorem dX11_share_35 : decode cX11_share 35 = .ok (.aload_n 3, 1) := by decide +kernel
theorem dX11_share_36 : decode cX11_share 36 = .ok (.ifnonnull 7, 3) := by decide +kernel
theorem dX11_share_39 : decode cX11_share 39 = .ok (.ldc2_w 123, 3) := by decide +kernel
theorem dX11_share_42 : decode cX11_share 42 = .ok (.lreturn, 1) := by decide +kernel
theorem dX11_share_43 : decode cX11_share 43 = .ok (.aload_n 3, 1) := by decide +kernel
theorem dX11_share_44 : decode cX11_share 44 = .ok (.invokevirtual 257, 3) := by decide +kernel
theorem dX11_share_47 : decode cX11_share 47 = .ok (.iload_n 2, 1) := by decide +kernel
theorem dX11_share_48 : decode cX11_share 48 = .ok (.invokestatic 260, 3) := by decide +kernel
theorem dX11_share_51 : decode cX11_share 51 = .ok (.ifCond .ne 5, 3) := by decide +kernel
theorem dX11_share_54 : decode cX11_share 54 = .ok (.lconst 0, 1) := by decide +kernel
theorem dX11_share_55 : decode cX11_share 55 = .ok (.lreturn, 1) := by decide +kernel
theorem dX11_share_56 : decode cX11_share 56 = .ok (.aload_n 0, 1) := by decide +kernel
theorem dX11_share_57 : decode cX11_share 57 = .ok (.getfield 43, 3) := by decide +kernel
theorem dX11_share_60 : decode cX11_share 60 = .ok (.aload_n 3, 1) := by decide +kernel
theorem dX11_share_61 : decode cX11_share 61 = .ok (.aload_n 0, 1) := by decide +kernel
theorem dX11_share_62 : decode cX11_share 62 = .ok (.getfield 12, 3) := by decide +kernel
theorem dX11_share_65 : decode cX11_share 65 = .ok (.iload_n 2, 1) := by decide +kernel
theorem dX11_share_66 : decode cX11_share 66 = .ok (.bipush 8, 2) := by decide +kernel
theorem dX11_share_68 : decode cX11_share 68 = .ok (.invokevirtual 253, 3) := by decide +kernel
theorem dX11_share_71 : decode cX11_share 71 = .ok (.aload_n 0, 1) := by decide +kernel
theorem dX11_share_72 : decode cX11_share 72 = .ok (.getfield 43, 3) := by decide +kernel
theorem dX11_share_75 : decode cX11_share 75 = .ok (.aload_n 3, 1) := by decide +kernel
theorem dX11_share_76 : decode cX11_share 76 = .ok (.aload_n 0, 1) := by decide +kernel
theorem dX11_share_77 : decode cX11_share 77 = .ok (.getfield 12, 3) := by decide +kernel
theorem dX11_share_80 : decode cX11_share 80 = .ok (.iload_n 2, 1) := by decide +kernel
theorem dX11_share_81 : decode cX11_share 81 = .ok (.iconst 0, 1) := by decide +kernel
theorem dX11_share_82 : decode cX11_share 82 = .ok (.invokevirtual 253, 3) := by decide +kernel
theorem dX11_share_85 : decode cX11_share 85 = .ok (.lsub, 1) := by decide +kernel
theorem dX11_share_86 : decode cX11_share 86 = .ok (.lreturn, 1) := by decide +kernel
theorem dX11_least_0 : decode cX11_least 0 = .ok (.aload_n 0, 1) := by decide +kernel
theorem dX11_least_1 : decode cX11_least 1 = .ok (.iload_n 1, 1) := by decide +kernel
theorem dX11_least_2 : decode cX11_least 2 = .ok (.invokevirtual 250, 3) := by decide +kernel
theorem dX11_least_5 : decode cX11_least 5 = .ok (.astore_n 2, 1) := by decide +kernel
theorem dX11_least_6 : decode cX11_least 6 = .ok (.aload_n 2, 1) := by decide +kernel
theorem dX11_least_7 : decode cX11_least 7 = .ok (.ifnonnull 9, 3) := by decide +kernel
theorem dX11_least_10 : decode cX11_least 10 = .ok (.ldc2_w 123, 3) := by decide +kernel
theorem dX11_least_13 : decode cX11_least 13 = .ok (.goto 11, 3) := by decide +kernel
theorem dX11_least_16 : decode cX11_least 16 = .ok (.aload_n 0, 1) := by decide +kernel
theorem dX11_least_17 : decode cX11_least 17 = .ok (.getfield 50, 3) := by decide +kernel
theorem dX11_least_20 : decode cX11_least 20 = .ok (.aload_n 2, 1) := by decide +kernel
theorem dX11_least_21 : decode cX11_least 21 = .ok (.invokevirtual 264, 3) := by decide +kernel
theorem dX11_least_24 : decode cX11_least 24 = .ok (.lreturn, 1) := by decide +kernel
theorem dX11_blame_0 : decode cX11_blame 0 = .ok (.aload_n 0, 1) := by decide +kernel
theorem dX11_blame_1 : decode cX11_blame 1 = .ok (.getfield 36, 3) := by decide +kernel
theorem dX11_blame_4 : decode cX11_blame 4 = .ok (.iload_n 1, 1) := by decide +kernel
theorem dX11_blame_5 : decode cX11_blame 5 = .ok (.invokevirtual 201, 3) := by decide +kernel
theorem dX11_blame_8 : decode cX11_blame 8 = .ok (.ifnull 14, 3) := by decide +kernel
theorem dX11_blame_11 : decode cX11_blame 11 = .ok (.aload_n 0, 1) := by decide +kernel
theorem dX11_blame_12 : decode cX11_blame 12 = .ok (.getfield 12, 3) := by decide +kernel
theorem dX11_blame_15 : decode cX11_blame 15 = .ok (.iload_n 2, 1) := by decide +kernel
theorem dX11_blame_16 : decode cX11_blame 16 = .ok (.invokevirtual 98, 3) := by decide +kernel
theorem dX11_blame_19 : decode cX11_blame 19 = .ok (.ifCond .ne 9, 3) := by decide +kernel
theorem dX11_blame_22 : decode cX11_blame 22 = .ok (.aload_n 0, 1) := by decide +kernel
theorem dX11_blame_23 : decode cX11_blame 23 = .ok (.iconst 1, 1) := by decide +kernel
theorem dX11_blame_24 : decode cX11_blame 24 = .ok (.invokevirtual 67, 3) := by decide +kernel
theorem dX11_blame_27 : decode cX11_blame 27 = .ok (.ireturn, 1) := by decide +kernel
theorem dX11_blame_28 : decode cX11_blame 28 = .ok (.aload_n 0, 1) := by decide +kernel
theorem dX11_blame_29 : decode cX11_blame 29 = .ok (.iload_n 1, 1) := by decide +kernel
theorem dX11_blame_30 : decode cX11_blame 30 = .ok (.invokevirtual 250, 3) := by decide +kernel
theorem dX11_blame_33 : decode cX11_blame 33 = .ok (.astore_n 3, 1) := by decide +kernel
theorem dX11_blame_34 : decode cX11_blame 34 = .ok (.aload_n 3, 1) := by decide +kernel
theorem dX11_blame_35 : decode cX11_blame 35 = .ok (.ifnonnull 5, 3) := by decide +kernel
theorem dX11_blame_38 : decode cX11_blame 38 = .ok (.iconst (-1), 1) := by decide +kernel
theorem dX11_blame_39 : decode cX11_blame 39 = .ok (.ireturn, 1) := by decide +kernel
theorem dX11_blame_40 : decode cX11_blame 40 = .ok (.aload_n 3, 1) := by decide +kernel
theorem dX11_blame_41 : decode cX11_blame 41 = .ok (.invokevirtual 257, 3) := by decide +kernel
theorem dX11_blame_44 : decode cX11_blame 44 = .ok (.iload_n 2, 1) := by decide +kernel
theorem dX11_blame_45 : decode cX11_blame 45 = .ok (.invokestatic 260, 3) := by decide +kernel
theorem dX11_blame_48 : decode cX11_blame 48 = .ok (.ifCond .ne 10, 3) := by decide +kernel
theorem dX11_blame_51 : decode cX11_blame 51 = .ok (.aload_n 0, 1) := by decide +kernel
theorem dX11_blame_52 : decode cX11_blame 52 = .ok (.bipush 6, 2) := by decide +kernel
theorem dX11_blame_54 : decode cX11_blame 54 = .ok (.invokevirtual 67, 3) := by decide +kernel
theorem dX11_blame_57 : decode cX11_blame 57 = .ok (.ireturn, 1) := by decide +kernel
theorem dX11_blame_58 : decode cX11_blame 58 = .ok (.aload_n 0, 1) := by decide +kernel
theorem dX11_blame_59 : decode cX11_blame 59 = .ok (.getfield 50, 3) := by decide +kernel
theorem dX11_blame_62 : decode cX11_blame 62 = .ok (.aload_n 3, 1) := by decide +kernel
theorem dX11_blame_63 : decode cX11_blame 63 = .ok (.iload_n 2, 1) := by decide +kernel
theorem dX11_blame_64 : decode cX11_blame 64 = .ok (.invokevirtual 268, 3) := by decide +kernel
theorem dX11_blame_67 : decode cX11_blame 67 = .ok (.ireturn, 1) := by decide +kernel
theorem dX11_lay_0 : decode cX11_lay 0 = .ok (.aload_n 0, 1) := by decide +kernel
theorem dX11_lay_1 : decode cX11_lay 1 = .ok (.iload_n 1, 1) := by decide +kernel
theorem dX11_lay_2 : decode cX11_lay 2 = .ok (.invokevirtual 272, 3) := by decide +kernel
theorem dX11_lay_5 : decode cX11_lay 5 = .ok (.ifCond .ne 9, 3) := by decide +kernel
theorem dX11_lay_8 : decode cX11_lay 8 = .ok (.aload_n 0, 1) := by decide +kernel
theorem dX11_lay_9 : decode cX11_lay 9 = .ok (.iconst 1, 1) := by decide +kernel
theorem dX11_lay_10 : decode cX11_lay 10 = .ok (.invokevirtual 67, 3) := by decide +kernel
theorem dX11_lay_13 : decode cX11_lay 13 = .ok (.ireturn, 1) := by decide +kernel
theorem dX11_lay_14 : decode cX11_lay 14 = .ok (.iload_n 2, 1) := by decide +kernel
theorem dX11_lay_15 : decode cX11_lay 15 = .ok (.ifCond .lt 8, 3) := by decide +kernel
theorem dX11_lay_18 : decode cX11_lay 18 = .ok (.iload_n 2, 1) := by decide +kernel
theorem dX11_lay_19 : decode cX11_lay 19 = .ok (.iconst 4, 1) := by decide +kernel
theorem dX11_lay_20 : decode cX11_lay 20 = .ok (.if_icmp .le 9, 3) := by decide +kernel
theorem dX11_lay_23 : decode cX11_lay 23 = .ok (.aload_n 0, 1) := by decide +kernel
theorem dX11_lay_24 : decode cX11_lay 24 = .ok (.iconst 2, 1) := by decide +kernel
theorem dX11_lay_25 : decode cX11_lay 25 = .ok (.invokevirtual 67, 3) := by decide +kernel
theorem dX11_lay_28 : decode cX11_lay 28 = .ok (.ireturn, 1) := by decide +kernel
theorem dX11_lay_29 : decode cX11_lay 29 = .ok (.aload_n 0, 1) := by decide +kernel
theorem dX11_lay_30 : decode cX11_lay 30 = .ok (.iload_n 2, 1) := by decide +kernel
theorem dX11_lay_31 : decode cX11_lay 31 = .ok (.iload_n 3, 1) := by decide +kernel
theorem dX11_lay_32 : decode cX11_lay 32 = .ok (.invokevirtual 275, 3) := by decide +kernel
theorem dX11_lay_35 : decode cX11_lay 35 = .ok (.astore 4, 2) := by decide +kernel
theorem dX11_lay_37 : decode cX11_lay 37 = .ok (.aload 4, 2) := by decide +kernel
theorem dX11_lay_39 : decode cX11_lay 39 = .ok (.ifnonnull 13, 3) := by decide +kernel
theorem dX11_lay_42 : decode cX11_lay 42 = .ok (.iload_n 2, 1) := by decide +kernel
theorem dX11_lay_43 : decode cX11_lay 43 = .ok (.ifCond .eq 9, 3) := by decide +kernel
theorem dX11_lay_46 : decode cX11_lay 46 = .ok (.aload_n 0, 1) := by decide +kernel
theorem dX11_lay_47 : decode cX11_lay 47 = .ok (.iconst 1, 1) := by decide +kernel
theorem dX11_lay_48 : decode cX11_lay 48 = .ok (.invokevirtual 67, 3) := by decide +kernel
theorem dX11_lay_51 : decode cX11_lay 51 = .ok (.ireturn, 1) := by decide +kernel
theorem dX11_lay_52 : decode cX11_lay 52 = .ok (.aload_n 0, 1) := by decide +kernel
theorem dX11_lay_53 : decode cX11_lay 53 = .ok (.iload_n 1, 1) := by decide +kernel
theorem dX11_lay_54 : decode cX11_lay 54 = .ok (.aload 4, 2) := by decide +kernel
theorem dX11_lay_56 : decode cX11_lay 56 = .ok (.invokevirtual 279, 3) := by decide +kernel
theorem dX11_lay_59 : decode cX11_lay 59 = .ok (.ireturn, 1) := by decide +kernel
theorem dX11_lies_0 : decode cX11_lies 0 = .ok (.aload_n 0, 1) := by decide +kernel
theorem dX11_lies_1 : decode cX11_lies 1 = .ok (.iload_n 1, 1) := by decide +kernel
theorem dX11_lies_2 : decode cX11_lies 2 = .ok (.invokevirtual 272, 3) := by decide +kernel
theorem dX11_lies_5 : decode cX11_lies 5 = .ok (.ifCond .ne 9, 3) := by decide +kernel
theorem dX11_lies_8 : decode cX11_lies 8 = .ok (.aload_n 0, 1) := by decide +kernel
theorem dX11_lies_9 : decode cX11_lies 9 = .ok (.iconst 1, 1) := by decide +kernel
theorem dX11_lies_10 : decode cX11_lies 10 = .ok (.invokevirtual 67, 3) := by decide +kernel
theorem dX11_lies_13 : decode cX11_lies 13 = .ok (.ireturn, 1) := by decide +kernel
theorem dX11_lies_14 : decode cX11_lies 14 = .ok (.aload_n 0, 1) := by decide +kernel
theorem dX11_lies_15 : decode cX11_lies 15 = .ok (.iconst 0, 1) := by decide +kernel
theorem dX11_lies_16 : decode cX11_lies 16 = .ok (.putfield 101, 3) := by decide +kernel
theorem dX11_lies_19 : decode cX11_lies 19 = .ok (.aload_n 0, 1) := by decide +kernel
theorem dX11_lies_20 : decode cX11_lies 20 = .ok (.iload_n 1, 1) := by decide +kernel
theorem dX11_lies_21 : decode cX11_lies 21 = .ok (.invokevirtual 283, 3) := by decide +kernel
theorem dX11_lies_24 : decode cX11_lies 24 = .ok (.ireturn, 1) := by decide +kernel
theorem dX11_taken_0 : decode cX11_taken 0 = .ok (.aload_n 0, 1) := by decide +kernel
theorem dX11_taken_1 : decode cX11_taken 1 = .ok (.iload_n 1, 1) := by decide +kernel
theorem dX11_taken_2 : decode cX11_taken 2 = .ok (.invokevirtual 272, 3) := by decide +kernel
theorem dX11_taken_5 : decode cX11_taken 5 = .ok (.ifCond .ne 10, 3) := by decide +kernel
theorem dX11_taken_8 : decode cX11_taken 8 = .ok (.aload_n 0, 1) := by decide +kernel
theorem dX11_taken_9 : decode cX11_taken 9 = .ok (.iconst 1, 1) := by decide +kernel
theorem dX11_taken_10 : decode cX11_taken 10 = .ok (.invokevirtual 67, 3) := by decide +kernel
theorem dX11_taken_13 : decode cX11_taken 13 = .ok (.i2l, 1) := by decide +kernel
theorem dX11_taken_14 : decode cX11_taken 14 = .ok (.lreturn, 1) := by decide +kernel
theorem dX11_taken_15 : decode cX11_taken 15 = .ok (.iload_n 2, 1) := by decide +kernel
theorem dX11_taken_16 : decode cX11_taken 16 = .ok (.iconst 1, 1) := by decide +kernel
theorem dX11_taken_17 : decode cX11_taken 17 = .ok (.if_icmp .lt 8, 3) := by decide +kernel
theorem dX11_taken_20 : decode cX11_taken 20 = .ok (.iload_n 2, 1) := by decide +kernel
theorem dX11_taken_21 : decode cX11_taken 21 = .ok (.iconst 4, 1) := by decide +kernel
theorem dX11_taken_22 : decode cX11_taken 22 = .ok (.if_icmp .le 10, 3) := by decide +kernel
theorem dX11_taken_25 : decode cX11_taken 25 = .ok (.aload_n 0, 1) := by decide +kernel
theorem dX11_taken_26 : decode cX11_taken 26 = .ok (.iconst 2, 1) := by decide +kernel
theorem dX11_taken_27 : decode cX11_taken 27 = .ok (.invokevirtual 67, 3) := by decide +kernel
theorem dX11_taken_30 : decode cX11_taken 30 = .ok (.i2l, 1) := by decide +kernel
theorem dX11_taken_31 : decode cX11_taken 31 = .ok (.lreturn, 1) := by decide +kernel
theorem dX11_taken_32 : decode cX11_taken 32 = .ok (.aload_n 0, 1) := by decide +kernel
theorem dX11_taken_33 : decode cX11_taken 33 = .ok (.getfield 56, 3) := by decide +kernel
theorem dX11_taken_36 : decode cX11_taken 36 = .ok (.iload_n 1, 1) := by decide +kernel
theorem dX11_taken_37 : decode cX11_taken 37 = .ok (.aaload, 1) := by decide +kernel
theorem dX11_taken_38 : decode cX11_taken 38 = .ok (.astore 4, 2) := by decide +kernel
theorem dX11_taken_40 : decode cX11_taken 40 = .ok (.aload 4, 2) := by decide +kernel
theorem dX11_taken_42 : decode cX11_taken 42 = .ok (.ifnull 12, 3) := by decide +kernel
theorem dX11_taken_45 : decode cX11_taken 45 = .ok (.aload 4, 2) := by decide +kernel
theorem dX11_taken_47 : decode cX11_taken 47 = .ok (.getfield 286, 3) := by decide +kernel
theorem dX11_taken_50 : decode cX11_taken 50 = .ok (.iload_n 2, 1) := by decide +kernel
theorem dX11_taken_51 : decode cX11_taken 51 = .ok (.if_icmp .eq 11, 3) := by decide +kernel
theorem dX11_taken_54 : decode cX11_taken 54 = .ok (.aload_n 0, 1) := by decide +kernel
theorem dX11_taken_55 : decode cX11_taken 55 = .ok (.bipush 7, 2) := by decide +kernel
theorem dX11_taken_57 : decode cX11_taken 57 = .ok (.invokevirtual 67, 3) := by decide +kernel
theorem dX11_taken_60 : decode cX11_taken 60 = .ok (.i2l, 1) := by decide +kernel
theorem dX11_taken_61 : decode cX11_taken 61 = .ok (.lreturn, 1) := by decide +kernel
theorem dX11_taken_62 : decode cX11_taken 62 = .ok (.iload_n 2, 1) := by decide +kernel
theorem dX11_taken_63 : decode cX11_taken 63 = .ok (.iconst 3, 1) := by decide +kernel
theorem dX11_taken_64 : decode cX11_taken 64 = .ok (.if_icmp .eq 8, 3) := by decide +kernel
theorem dX11_taken_67 : decode cX11_taken 67 = .ok (.iload_n 2, 1) := by decide +kernel
theorem dX11_taken_68 : decode cX11_taken 68 = .ok (.iconst 4, 1) := by decide +kernel
theorem dX11_taken_69 : decode cX11_taken 69 = .ok (.if_icmp .ne 7, 3) := by decide +kernel
theorem dX11_taken_72 : decode cX11_taken 72 = .ok (.iload_n 3, 1) := by decide +kernel
theorem dX11_taken_73 : decode cX11_taken 73 = .ok (.goto 4, 3) := by decide +kernel
theorem dX11_taken_76 : decode cX11_taken 76 = .ok (.iconst 0, 1) := by decide +kernel
theorem dX11_taken_77 : decode cX11_taken 77 = .ok (.istore 5, 2) := by decide +kernel
theorem dX11_taken_79 : decode cX11_taken 79 = .ok (.iload 5, 2) := by decide +kernel
theorem dX11_taken_81 : decode cX11_taken 81 = .ok (.ifCond .lt 14, 3) := by decide +kernel
theorem dX11_taken_84 : decode cX11_taken 84 = .ok (.iload 5, 2) := by decide +kernel
theorem dX11_taken_86 : decode cX11_taken 86 = .ok (.aload 4, 2) := by decide +kernel
theorem dX11_taken_88 : decode cX11_taken 88 = .ok (.getfield 287, 3) := by decide +kernel
theorem dX11_taken_91 : decode cX11_taken 91 = .ok (.arraylength, 1) := by decide +kernel
theorem dX11_taken_92 : decode cX11_taken 92 = .ok (.if_icmp .lt 10, 3) := by decide +kernel
theorem dX11_taken_95 : decode cX11_taken 95 = .ok (.aload_n 0, 1) := by decide +kernel
theorem dX11_taken_96 : decode cX11_taken 96 = .ok (.iconst 1, 1) := by decide +kernel
theorem dX11_taken_97 : decode cX11_taken 97 = .ok (.invokevirtual 67, 3) := by decide +kernel
theorem dX11_taken_100 : decode cX11_taken 100 = .ok (.i2l, 1) := by decide +kernel
theorem dX11_taken_101 : decode cX11_taken 101 = .ok (.lreturn, 1) := by decide +kernel
theorem dX11_taken_102 : decode cX11_taken 102 = .ok (.aload_n 0, 1) := by decide +kernel
theorem dX11_taken_103 : decode cX11_taken 103 = .ok (.iconst 0, 1) := by decide +kernel
theorem dX11_taken_104 : decode cX11_taken 104 = .ok (.putfield 101, 3) := by decide +kernel
theorem dX11_taken_107 : decode cX11_taken 107 = .ok (.aload 4, 2) := by decide +kernel
theorem dX11_taken_109 : decode cX11_taken 109 = .ok (.getfield 287, 3) := by decide +kernel
theorem dX11_taken_112 : decode cX11_taken 112 = .ok (.iload 5, 2) := by decide +kernel
theorem dX11_taken_114 : decode cX11_taken 114 = .ok (.laload, 1) := by decide +kernel
theorem dX11_taken_115 : decode cX11_taken 115 = .ok (.lreturn, 1) := by decide +kernel
theorem dX11_copy_0 : decode cX11_copy 0 = .ok (.aload_n 0, 1) := by decide +kernel
theorem dX11_copy_1 : decode cX11_copy 1 = .ok (.iload_n 1, 1) := by decide +kernel
theorem dX11_copy_2 : decode cX11_copy 2 = .ok (.invokevirtual 272, 3) := by decide +kernel
theorem dX11_copy_5 : decode cX11_copy 5 = .ok (.ifCond .eq 11, 3) := by decide +kernel
theorem dX11_copy_8 : decode cX11_copy 8 = .ok (.aload_n 0, 1) := by decide +kernel
theorem dX11_copy_9 : decode cX11_copy 9 = .ok (.iload_n 3, 1) := by decide +kernel
theorem dX11_copy_10 : decode cX11_copy 10 = .ok (.invokevirtual 272, 3) := by decide +kernel
theorem dX11_copy_13 : decode cX11_copy 13 = .ok (.ifCond .ne 9, 3) := by decide +kernel
theorem dX11_copy_16 : decode cX11_copy 16 = .ok (.aload_n 0, 1) := by decide +kernel
theorem dX11_copy_17 : decode cX11_copy 17 = .ok (.iconst 1, 1) := by decide +kernel
theorem dX11_copy_18 : decode cX11_copy 18 = .ok (.invokevirtual 67, 3) := by decide +kernel
theorem dX11_copy_21 : decode cX11_copy 21 = .ok (.ireturn, 1) := by decide +kernel
theorem dX11_copy_22 : decode cX11_copy 22 = .ok (.aload_n 0, 1) := by decide +kernel
theorem dX11_copy_23 : decode cX11_copy 23 = .ok (.getfield 56, 3) := by decide +kernel
theorem dX11_copy_26 : decode cX11_copy 26 = .ok (.iload_n 1, 1) := by decide +kernel
theorem dX11_copy_27 : decode cX11_copy 27 = .ok (.aaload, 1) := by decide +kernel
theorem dX11_copy_28 : decode cX11_copy 28 = .ok (.astore 6, 2) := by decide +kernel
theorem dX11_copy_30 : decode cX11_copy 30 = .ok (.aload_n 0, 1) := by decide +kernel
theorem dX11_copy_31 : decode cX11_copy 31 = .ok (.getfield 56, 3) := by decide +kernel
theorem dX11_copy_34 : decode cX11_copy 34 = .ok (.iload_n 3, 1) := by decide +kernel
theorem dX11_copy_35 : decode cX11_copy 35 = .ok (.aaload, 1) := by decide +kernel
theorem dX11_copy_36 : decode cX11_copy 36 = .ok (.astore 7, 2) := by decide +kernel
theorem dX11_copy_38 : decode cX11_copy 38 = .ok (.aload 6, 2) := by decide +kernel
theorem dX11_copy_40 : decode cX11_copy 40 = .ok (.ifnull 26, 3) := by decide +kernel
theorem dX11_copy_43 : decode cX11_copy 43 = .ok (.aload 7, 2) := by decide +kernel
theorem dX11_copy_45 : decode cX11_copy 45 = .ok (.ifnull 21, 3) := by decide +kernel
theorem dX11_copy_48 : decode cX11_copy 48 = .ok (.aload 6, 2) := by decide +kernel
theorem dX11_copy_50 : decode cX11_copy 50 = .ok (.getfield 286, 3) := by decide +kernel
theorem dX11_copy_53 : decode cX11_copy 53 = .ok (.iconst 3, 1) := by decide +kernel
theorem dX11_copy_54 : decode cX11_copy 54 = .ok (.if_icmp .ne 12, 3) := by decide +kernel
theorem dX11_copy_57 : decode cX11_copy 57 = .ok (.aload 7, 2) := by decide +kernel
theorem dX11_copy_59 : decode cX11_copy 59 = .ok (.getfield 286, 3) := by decide +kernel
theorem dX11_copy_62 : decode cX11_copy 62 = .ok (.iconst 3, 1) := by decide +kernel
theorem dX11_copy_63 : decode cX11_copy 63 = .ok (.if_icmp .eq 10, 3) := by decide +kernel
theorem dX11_copy_66 : decode cX11_copy 66 = .ok (.aload_n 0, 1) := by decide +kernel
theorem dX11_copy_67 : decode cX11_copy 67 = .ok (.bipush 7, 2) := by decide +kernel
theorem dX11_copy_69 : decode cX11_copy 69 = .ok (.invokevirtual 67, 3) := by decide +kernel
theorem dX11_copy_72 : decode cX11_copy 72 = .ok (.ireturn, 1) := by decide +kernel
theorem dX11_copy_73 : decode cX11_copy 73 = .ok (.aload 6, 2) := by decide +kernel
theorem dX11_copy_75 : decode cX11_copy 75 = .ok (.iload_n 2, 1) := by decide +kernel
theorem dX11_copy_76 : decode cX11_copy 76 = .ok (.iload 5, 2) := by decide +kernel
theorem dX11_copy_78 : decode cX11_copy 78 = .ok (.invokestatic 290, 3) := by decide +kernel
theorem dX11_copy_81 : decode cX11_copy 81 = .ok (.ifCond .eq 15, 3) := by decide +kernel
theorem dX11_copy_84 : decode cX11_copy 84 = .ok (.aload 7, 2) := by decide +kernel
theorem dX11_copy_86 : decode cX11_copy 86 = .ok (.iload 4, 2) := by decide +kernel
theorem dX11_copy_88 : decode cX11_copy 88 = .ok (.iload 5, 2) := by decide +kernel
theorem dX11_copy_90 : decode cX11_copy 90 = .ok (.invokestatic 290, 3) := by decide +kernel
theorem dX11_copy_93 : decode cX11_copy 93 = .ok (.ifCond .ne 9, 3) := by decide +kernel
theorem dX11_copy_96 : decode cX11_copy 96 = .ok (.aload_n 0, 1) := by decide +kernel
theorem dX11_copy_97 : decode cX11_copy 97 = .ok (.iconst 2, 1) := by decide +kernel
theorem dX11_copy_98 : decode cX11_copy 98 = .ok (.invokevirtual 67, 3) := by decide +kernel
theorem dX11_copy_101 : decode cX11_copy 101 = .ok (.ireturn, 1) := by decide +kernel
theorem dX11_copy_102 : decode cX11_copy 102 = .ok (.aload 7, 2) := by decide +kernel
theorem dX11_copy_104 : decode cX11_copy 104 = .ok (.getfield 287, 3) := by decide +kernel
theorem dX11_copy_107 : decode cX11_copy 107 = .ok (.invokevirtual 294, 3) := by decide +kernel
theorem dX11_copy_110 : decode cX11_copy 110 = .ok (.checkcast 295, 3) := by decide +kernel
theorem dX11_copy_113 : decode cX11_copy 113 = .ok (.astore 8, 2) := by decide +kernel
theorem dX11_copy_115 : decode cX11_copy 115 = .ok (.aload 6, 2) := by decide +kernel
theorem dX11_copy_117 : decode cX11_copy 117 = .ok (.getfield 287, 3) := by decide +kernel
theorem dX11_copy_120 : decode cX11_copy 120 = .ok (.iload_n 2, 1) := by decide +kernel
theorem dX11_copy_121 : decode cX11_copy 121 = .ok (.aload 8, 2) := by decide +kernel
theorem dX11_copy_123 : decode cX11_copy 123 = .ok (.iload 4, 2) := by decide +kernel
theorem dX11_copy_125 : decode cX11_copy 125 = .ok (.iload 5, 2) := by decide +kernel
theorem dX11_copy_127 : decode cX11_copy 127 = .ok (.invokestatic 299, 3) := by decide +kernel
theorem dX11_copy_130 : decode cX11_copy 130 = .ok (.aload_n 0, 1) := by decide +kernel
theorem dX11_copy_131 : decode cX11_copy 131 = .ok (.iload_n 3, 1) := by decide +kernel
theorem dX11_copy_132 : decode cX11_copy 132 = .ok (.new 54, 3) := by decide +kernel
theorem dX11_copy_135 : decode cX11_copy 135 = .ok (.dup, 1) := by decide +kernel
theorem dX11_copy_136 : decode cX11_copy 136 = .ok (.iconst 3, 1) := by decide +kernel
theorem dX11_copy_137 : decode cX11_copy 137 = .ok (.aload 8, 2) := by decide +kernel
theorem dX11_copy_139 : decode cX11_copy 139 = .ok (.invokespecial 305, 3) := by decide +kernel
theorem dX11_copy_142 : decode cX11_copy 142 = .ok (.invokevirtual 279, 3) := by decide +kernel
theorem dX11_copy_145 : decode cX11_copy 145 = .ok (.ireturn, 1) := by decide +kernel
theorem dX11_undo_0 : decode cX11_undo 0 = .ok (.aload_n 0, 1) := by decide +kernel
theorem dX11_undo_1 : decode cX11_undo 1 = .ok (.getfield 63, 3) := by decide +kernel
theorem dX11_undo_4 : decode cX11_undo 4 = .ok (.invokevirtual 308, 3) := by decide +kernel
theorem dX11_undo_7 : decode cX11_undo 7 = .ok (.astore_n 1, 1) := by decide +kernel
theorem dX11_undo_8 : decode cX11_undo 8 = .ok (.aload_n 1, 1) := by decide +kernel
theorem dX11_undo_9 : decode cX11_undo 9 = .ok (.ifnonnull 5, 3) := by decide +kernel
theorem dX11_undo_12 : decode cX11_undo 12 = .ok (.iconst 0, 1) := by decide +kernel
theorem dX11_undo_13 : decode cX11_undo 13 = .ok (.ireturn, 1) := by decide +kernel
theorem dX11_undo_14 : decode cX11_undo 14 = .ok (.aload_n 0, 1) := by decide +kernel
theorem dX11_undo_15 : decode cX11_undo 15 = .ok (.aload_n 1, 1) := by decide +kernel
theorem dX11_undo_16 : decode cX11_undo 16 = .ok (.invokevirtual 312, 3) := by decide +kernel
theorem dX11_undo_19 : decode cX11_undo 19 = .ok (.iconst 1, 1) := by decide +kernel
theorem dX11_undo_20 : decode cX11_undo 20 = .ok (.ireturn, 1) := by decide +kernel
theorem dX11_size_0 : decode cX11_size 0 = .ok (.iload_n 1, 1) := by decide +kernel
theorem dX11_size_1 : decode cX11_size 1 = .ok (.tableswitch 72 0 4 #[35, 43, 51, 56, 64], 35) := by decide +kernel
theorem dX11_size_36 : decode cX11_size 36 = .ok (.aload_n 0, 1) := by decide +kernel
theorem dX11_size_37 : decode cX11_size 37 = .ok (.getfield 12, 3) := by decide +kernel
theorem dX11_size_40 : decode cX11_size 40 = .ok (.getfield 71, 3) := by decide +kernel
theorem dX11_size_43 : decode cX11_size 43 = .ok (.ireturn, 1) := by decide +kernel
theorem dX11_size_44 : decode cX11_size 44 = .ok (.aload_n 0, 1) := by decide +kernel
theorem dX11_size_45 : decode cX11_size 45 = .ok (.getfield 12, 3) := by decide +kernel
theorem dX11_size_48 : decode cX11_size 48 = .ok (.getfield 91, 3) := by decide +kernel
theorem dX11_size_51 : decode cX11_size 51 = .ok (.ireturn, 1) := by decide +kernel
theorem dX11_size_52 : decode cX11_size 52 = .ok (.aload_n 0, 1) := by decide +kernel
theorem dX11_size_53 : decode cX11_size 53 = .ok (.getfield 315, 3) := by decide +kernel
theorem dX11_size_56 : decode cX11_size 56 = .ok (.ireturn, 1) := by decide +kernel
theorem dX11_size_57 : decode cX11_size 57 = .ok (.aload_n 0, 1) := by decide +kernel
theorem dX11_size_58 : decode cX11_size 58 = .ok (.getfield 36, 3) := by decide +kernel
theorem dX11_size_61 : decode cX11_size 61 = .ok (.getfield 198, 3) := by decide +kernel
theorem dX11_size_64 : decode cX11_size 64 = .ok (.ireturn, 1) := by decide +kernel
theorem dX11_size_65 : decode cX11_size 65 = .ok (.aload_n 0, 1) := by decide +kernel
theorem dX11_size_66 : decode cX11_size 66 = .ok (.getfield 63, 3) := by decide +kernel
theorem dX11_size_69 : decode cX11_size 69 = .ok (.getfield 318, 3) := by decide +kernel
theorem dX11_size_72 : decode cX11_size 72 = .ok (.ireturn, 1) := by decide +kernel
theorem dX11_size_73 : decode cX11_size 73 = .ok (.iconst (-1), 1) := by decide +kernel
theorem dX11_size_74 : decode cX11_size 74 = .ok (.ireturn, 1) := by decide +kernel
theorem dX11_status_0 : decode cX11_status 0 = .ok (.aload_n 0, 1) := by decide +kernel
theorem dX11_status_1 : decode cX11_status 1 = .ok (.getfield 101, 3) := by decide +kernel
theorem dX11_status_4 : decode cX11_status 4 = .ok (.ireturn, 1) := by decide +kernel
theorem dX11_refused_0 : decode cX11_refused 0 = .ok (.aload_n 0, 1) := by decide +kernel
theorem dX11_refused_1 : decode cX11_refused 1 = .ok (.iload_n 1, 1) := by decide +kernel
theorem dX11_refused_2 : decode cX11_refused 2 = .ok (.putfield 101, 3) := by decide +kernel
theorem dX11_refused_5 : decode cX11_refused 5 = .ok (.iconst (-1), 1) := by decide +kernel
theorem dX11_refused_6 : decode cX11_refused 6 = .ok (.ireturn, 1) := by decide +kernel
theorem dX11_accepted_0 : decode cX11_accepted 0 = .ok (.aload_n 0, 1) := by decide +kernel
theorem dX11_accepted_1 : decode cX11_accepted 1 = .ok (.iconst 0, 1) := by decide +kernel
theorem dX11_accepted_2 : decode cX11_accepted 2 = .ok (.putfield 101, 3) := by decide +kernel
theorem dX11_accepted_5 : decode cX11_accepted 5 = .ok (.aload_n 0, 1) := by decide +kernel
theorem dX11_accepted_6 : decode cX11_accepted 6 = .ok (.getfield 63, 3) := by decide +kernel
theorem dX11_accepted_9 : decode cX11_accepted 9 = .ok (.aload_n 1, 1) := by decide +kernel
theorem dX11_accepted_10 : decode cX11_accepted 10 = .ok (.invokevirtual 321, 3) := by decide +kernel
theorem dX11_accepted_13 : decode cX11_accepted 13 = .ok (.return_, 1) := by decide +kernel
theorem dX11_isQuestion_0 : decode cX11_isQuestion 0 = .ok (.iload_n 1, 1) := by decide +kernel
theorem dX11_isQuestion_1 : decode cX11_isQuestion 1 = .ok (.ifCond .lt 15, 3) := by decide +kernel
theorem dX11_isQuestion_4 : decode cX11_isQuestion 4 = .ok (.iload_n 1, 1) := by decide +kernel
theorem dX11_isQuestion_5 : decode cX11_isQuestion 5 = .ok (.aload_n 0, 1) := by decide +kernel
theorem dX11_isQuestion_6 : decode cX11_isQuestion 6 = .ok (.getfield 315, 3) := by decide +kernel
theorem dX11_isQuestion_9 : decode cX11_isQuestion 9 = .ok (.if_icmp .ge 7, 3) := by decide +kernel
theorem dX11_isQuestion_12 : decode cX11_isQuestion 12 = .ok (.iconst 1, 1) := by decide +kernel
theorem dX11_isQuestion_13 : decode cX11_isQuestion 13 = .ok (.goto 4, 3) := by decide +kernel
theorem dX11_isQuestion_16 : decode cX11_isQuestion 16 = .ok (.iconst 0, 1) := by decide +kernel
theorem dX11_isQuestion_17 : decode cX11_isQuestion 17 = .ok (.ireturn, 1) := by decide +kernel
theorem dX11_hasPlace_0 : decode cX11_hasPlace 0 = .ok (.iload_n 2, 1) := by decide +kernel
theorem dX11_hasPlace_1 : decode cX11_hasPlace 1 = .ok (.ifCond .lt 20, 3) := by decide +kernel
theorem dX11_hasPlace_4 : decode cX11_hasPlace 4 = .ok (.iload_n 2, 1) := by decide +kernel
theorem dX11_hasPlace_5 : decode cX11_hasPlace 5 = .ok (.aload_n 0, 1) := by decide +kernel
theorem dX11_hasPlace_6 : decode cX11_hasPlace 6 = .ok (.getfield 18, 3) := by decide +kernel
theorem dX11_hasPlace_9 : decode cX11_hasPlace 9 = .ok (.iload_n 1, 1) := by decide +kernel
theorem dX11_hasPlace_10 : decode cX11_hasPlace 10 = .ok (.aaload, 1) := by decide +kernel
theorem dX11_hasPlace_11 : decode cX11_hasPlace 11 = .ok (.getfield 153, 3) := by decide +kernel
theorem dX11_hasPlace_14 : decode cX11_hasPlace 14 = .ok (.if_icmp .ge 7, 3) := by decide +kernel
theorem dX11_hasPlace_17 : decode cX11_hasPlace 17 = .ok (.iconst 1, 1) := by decide +kernel
theorem dX11_hasPlace_18 : decode cX11_hasPlace 18 = .ok (.goto 4, 3) := by decide +kernel
theorem dX11_hasPlace_21 : decode cX11_hasPlace 21 = .ok (.iconst 0, 1) := by decide +kernel
theorem dX11_hasPlace_22 : decode cX11_hasPlace 22 = .ok (.ireturn, 1) := by decide +kernel
theorem dX11_isShelfPlace_0 : decode cX11_isShelfPlace 0 = .ok (.iload_n 1, 1) := by decide +kernel
theorem dX11_isShelfPlace_1 : decode cX11_isShelfPlace 1 = .ok (.ifCond .lt 13, 3) := by decide +kernel
theorem dX11_isShelfPlace_4 : decode cX11_isShelfPlace 4 = .ok (.iload_n 1, 1) := by decide +kernel
theorem dX11_isShelfPlace_5 : decode cX11_isShelfPlace 5 = .ok (.bipush 20, 2) := by decide +kernel
theorem dX11_isShelfPlace_7 : decode cX11_isShelfPlace 7 = .ok (.if_icmp .ge 7, 3) := by decide +kernel
theorem dX11_isShelfPlace_10 : decode cX11_isShelfPlace 10 = .ok (.iconst 1, 1) := by decide +kernel
theorem dX11_isShelfPlace_11 : decode cX11_isShelfPlace 11 = .ok (.goto 4, 3) := by decide +kernel
theorem dX11_isShelfPlace_14 : decode cX11_isShelfPlace 14 = .ok (.iconst 0, 1) := by decide +kernel
theorem dX11_isShelfPlace_15 : decode cX11_isShelfPlace 15 = .ok (.ireturn, 1) := by decide +kernel
theorem dX11_oneQuestion_0 : decode cX11_oneQuestion 0 = .ok (.new 16, 3) := by decide +kernel
theorem dX11_oneQuestion_3 : decode cX11_oneQuestion 3 = .ok (.dup, 1) := by decide +kernel
theorem dX11_oneQuestion_4 : decode cX11_oneQuestion 4 = .ok (.iload_n 1, 1) := by decide +kernel
theorem dX11_oneQuestion_5 : decode cX11_oneQuestion 5 = .ok (.iload_n 3, 1) := by decide +kernel
theorem dX11_oneQuestion_6 : decode cX11_oneQuestion 6 = .ok (.iload_n 2, 1) := by decide +kernel
theorem dX11_oneQuestion_7 : decode cX11_oneQuestion 7 = .ok (.iconst (-1), 1) := by decide +kernel
theorem dX11_oneQuestion_8 : decode cX11_oneQuestion 8 = .ok (.aload_n 0, 1) := by decide +kernel
theorem dX11_oneQuestion_9 : decode cX11_oneQuestion 9 = .ok (.getfield 18, 3) := by decide +kernel
theorem dX11_oneQuestion_12 : decode cX11_oneQuestion 12 = .ok (.iload_n 2, 1) := by decide +kernel
theorem dX11_oneQuestion_13 : decode cX11_oneQuestion 13 = .ok (.aaload, 1) := by decide +kernel
theorem dX11_oneQuestion_14 : decode cX11_oneQuestion 14 = .ok (.getfield 183, 3) := by decide +kernel
theorem dX11_oneQuestion_17 : decode cX11_oneQuestion 17 = .ok (.invokespecial 139, 3) := by decide +kernel
theorem dX11_oneQuestion_20 : decode cX11_oneQuestion 20 = .ok (.areturn, 1) := by decide +kernel
theorem dX11_twoQuestions_0 : decode cX11_twoQuestions 0 = .ok (.aload_n 0, 1) := by decide +kernel
theorem dX11_twoQuestions_1 : decode cX11_twoQuestions 1 = .ok (.getfield 18, 3) := by decide +kernel
theorem dX11_twoQuestions_4 : decode cX11_twoQuestions 4 = .ok (.iload_n 2, 1) := by decide +kernel
theorem dX11_twoQuestions_5 : decode cX11_twoQuestions 5 = .ok (.aaload, 1) := by decide +kernel
theorem dX11_twoQuestions_6 : decode cX11_twoQuestions 6 = .ok (.getfield 183, 3) := by decide +kernel
theorem dX11_twoQuestions_9 : decode cX11_twoQuestions 9 = .ok (.ifCond .ne 15, 3) := by decide +kernel
theorem dX11_twoQuestions_12 : decode cX11_twoQuestions 12 = .ok (.aload_n 0, 1) := by decide +kernel
theorem dX11_twoQuestions_13 : decode cX11_twoQuestions 13 = .ok (.getfield 18, 3) := by decide +kernel
theorem dX11_twoQuestions_16 : decode cX11_twoQuestions 16 = .ok (.iload_n 3, 1) := by decide +kernel
theorem dX11_twoQuestions_17 : decode cX11_twoQuestions 17 = .ok (.aaload, 1) := by decide +kernel
theorem dX11_twoQuestions_18 : decode cX11_twoQuestions 18 = .ok (.getfield 183, 3) := by decide +kernel
theorem dX11_twoQuestions_21 : decode cX11_twoQuestions 21 = .ok (.ifCond .eq 7, 3) := by decide +kernel
theorem dX11_twoQuestions_24 : decode cX11_twoQuestions 24 = .ok (.iconst 1, 1) := by decide +kernel
theorem dX11_twoQuestions_25 : decode cX11_twoQuestions 25 = .ok (.goto 4, 3) := by decide +kernel
theorem dX11_twoQuestions_28 : decode cX11_twoQuestions 28 = .ok (.iconst 0, 1) := by decide +kernel
theorem dX11_twoQuestions_29 : decode cX11_twoQuestions 29 = .ok (.istore 5, 2) := by decide +kernel
theorem dX11_twoQuestions_31 : decode cX11_twoQuestions 31 = .ok (.new 16, 3) := by decide +kernel
theorem dX11_twoQuestions_34 : decode cX11_twoQuestions 34 = .ok (.dup, 1) := by decide +kernel
theorem dX11_twoQuestions_35 : decode cX11_twoQuestions 35 = .ok (.iload_n 1, 1) := by decide +kernel
theorem dX11_twoQuestions_36 : decode cX11_twoQuestions 36 = .ok (.iload 4, 2) := by decide +kernel
theorem dX11_twoQuestions_38 : decode cX11_twoQuestions 38 = .ok (.iload_n 2, 1) := by decide +kernel
theorem dX11_twoQuestions_39 : decode cX11_twoQuestions 39 = .ok (.iload_n 3, 1) := by decide +kernel
theorem dX11_twoQuestions_40 : decode cX11_twoQuestions 40 = .ok (.iload 5, 2) := by decide +kernel
theorem dX11_twoQuestions_42 : decode cX11_twoQuestions 42 = .ok (.invokespecial 139, 3) := by decide +kernel
theorem dX11_twoQuestions_45 : decode cX11_twoQuestions 45 = .ok (.areturn, 1) := by decide +kernel
theorem dX11_ofAsManyPlaces_0 : decode cX11_ofAsManyPlaces 0 = .ok (.aload_n 0, 1) := by decide +kernel
theorem dX11_ofAsManyPlaces_1 : decode cX11_ofAsManyPlaces 1 = .ok (.iload_n 2, 1) := by decide +kernel
theorem dX11_ofAsManyPlaces_2 : decode cX11_ofAsManyPlaces 2 = .ok (.invokevirtual 146, 3) := by decide +kernel
theorem dX11_ofAsManyPlaces_5 : decode cX11_ofAsManyPlaces 5 = .ok (.ifCond .eq 11, 3) := by decide +kernel
theorem dX11_ofAsManyPlaces_8 : decode cX11_ofAsManyPlaces 8 = .ok (.aload_n 0, 1) := by decide +kernel
theorem dX11_ofAsManyPlaces_9 : decode cX11_ofAsManyPlaces 9 = .ok (.iload_n 3, 1) := by decide +kernel
theorem dX11_ofAsManyPlaces_10 : decode cX11_ofAsManyPlaces 10 = .ok (.invokevirtual 146, 3) := by decide +kernel
theorem dX11_ofAsManyPlaces_13 : decode cX11_ofAsManyPlaces 13 = .ok (.ifCond .ne 9, 3) := by decide +kernel
theorem dX11_ofAsManyPlaces_16 : decode cX11_ofAsManyPlaces 16 = .ok (.aload_n 0, 1) := by decide +kernel
theorem dX11_ofAsManyPlaces_17 : decode cX11_ofAsManyPlaces 17 = .ok (.iconst 1, 1) := by decide +kernel
theorem dX11_ofAsManyPlaces_18 : decode cX11_ofAsManyPlaces 18 = .ok (.invokevirtual 67, 3) := by decide +kernel
theorem dX11_ofAsManyPlaces_21 : decode cX11_ofAsManyPlaces 21 = .ok (.ireturn, 1) := by decide +kernel
theorem dX11_ofAsManyPlaces_22 : decode cX11_ofAsManyPlaces 22 = .ok (.aload_n 0, 1) := by decide +kernel
theorem dX11_ofAsManyPlaces_23 : decode cX11_ofAsManyPlaces 23 = .ok (.getfield 18, 3) := by decide +kernel
theorem dX11_ofAsManyPlaces_26 : decode cX11_ofAsManyPlaces 26 = .ok (.iload_n 2, 1) := by decide +kernel
theorem dX11_ofAsManyPlaces_27 : decode cX11_ofAsManyPlaces 27 = .ok (.aaload, 1) := by decide +kernel
theorem dX11_ofAsManyPlaces_28 : decode cX11_ofAsManyPlaces 28 = .ok (.getfield 153, 3) := by decide +kernel
theorem dX11_ofAsManyPlaces_31 : decode cX11_ofAsManyPlaces 31 = .ok (.aload_n 0, 1) := by decide +kernel
theorem dX11_ofAsManyPlaces_32 : decode cX11_ofAsManyPlaces 32 = .ok (.getfield 18, 3) := by decide +kernel
theorem dX11_ofAsManyPlaces_35 : decode cX11_ofAsManyPlaces 35 = .ok (.iload_n 3, 1) := by decide +kernel
theorem dX11_ofAsManyPlaces_36 : decode cX11_ofAsManyPlaces 36 = .ok (.aaload, 1) := by decide +kernel
theorem dX11_ofAsManyPlaces_37 : decode cX11_ofAsManyPlaces 37 = .ok (.getfield 153, 3) := by decide +kernel
theorem dX11_ofAsManyPlaces_40 : decode cX11_ofAsManyPlaces 40 = .ok (.if_icmp .eq 9, 3) := by decide +kernel
theorem dX11_ofAsManyPlaces_43 : decode cX11_ofAsManyPlaces 43 = .ok (.aload_n 0, 1) := by decide +kernel
theorem dX11_ofAsManyPlaces_44 : decode cX11_ofAsManyPlaces 44 = .ok (.iconst 3, 1) := by decide +kernel
theorem dX11_ofAsManyPlaces_45 : decode cX11_ofAsManyPlaces 45 = .ok (.invokevirtual 67, 3) := by decide +kernel
theorem dX11_ofAsManyPlaces_48 : decode cX11_ofAsManyPlaces 48 = .ok (.ireturn, 1) := by decide +kernel
theorem dX11_ofAsManyPlaces_49 : decode cX11_ofAsManyPlaces 49 = .ok (.aload_n 0, 1) := by decide +kernel
theorem dX11_ofAsManyPlaces_50 : decode cX11_ofAsManyPlaces 50 = .ok (.aload_n 0, 1) := by decide +kernel
theorem dX11_ofAsManyPlaces_51 : decode cX11_ofAsManyPlaces 51 = .ok (.iload_n 1, 1) := by decide +kernel
theorem dX11_ofAsManyPlaces_52 : decode cX11_ofAsManyPlaces 52 = .ok (.iload_n 2, 1) := by decide +kernel
theorem dX11_ofAsManyPlaces_53 : decode cX11_ofAsManyPlaces 53 = .ok (.iload_n 3, 1) := by decide +kernel
theorem dX11_ofAsManyPlaces_54 : decode cX11_ofAsManyPlaces 54 = .ok (.aload_n 0, 1) := by decide +kernel
theorem dX11_ofAsManyPlaces_55 : decode cX11_ofAsManyPlaces 55 = .ok (.getfield 18, 3) := by decide +kernel
theorem dX11_ofAsManyPlaces_58 : decode cX11_ofAsManyPlaces 58 = .ok (.iload_n 2, 1) := by decide +kernel
theorem dX11_ofAsManyPlaces_59 : decode cX11_ofAsManyPlaces 59 = .ok (.aaload, 1) := by decide +kernel
theorem dX11_ofAsManyPlaces_60 : decode cX11_ofAsManyPlaces 60 = .ok (.getfield 153, 3) := by decide +kernel
theorem dX11_ofAsManyPlaces_63 : decode cX11_ofAsManyPlaces 63 = .ok (.invokevirtual 166, 3) := by decide +kernel
theorem dX11_ofAsManyPlaces_66 : decode cX11_ofAsManyPlaces 66 = .ok (.invokevirtual 142, 3) := by decide +kernel
theorem dX11_ofAsManyPlaces_69 : decode cX11_ofAsManyPlaces 69 = .ok (.ireturn, 1) := by decide +kernel
theorem dX11_asked_0 : decode cX11_asked 0 = .ok (.aload_n 0, 1) := by decide +kernel
theorem dX11_asked_1 : decode cX11_asked 1 = .ok (.getfield 315, 3) := by decide +kernel
theorem dX11_asked_4 : decode cX11_asked 4 = .ok (.bipush 40, 2) := by decide +kernel
theorem dX11_asked_6 : decode cX11_asked 6 = .ok (.if_icmp .lt 9, 3) := by decide +kernel
theorem dX11_asked_9 : decode cX11_asked 9 = .ok (.aload_n 0, 1) := by decide +kernel
theorem dX11_asked_10 : decode cX11_asked 10 = .ok (.iconst 4, 1) := by decide +kernel
theorem dX11_asked_11 : decode cX11_asked 11 = .ok (.invokevirtual 67, 3) := by decide +kernel
theorem dX11_asked_14 : decode cX11_asked 14 = .ok (.ireturn, 1) := by decide +kernel
theorem dX11_asked_15 : decode cX11_asked 15 = .ok (.aload_n 0, 1) := by decide +kernel
theorem dX11_asked_16 : decode cX11_asked 16 = .ok (.new 75, 3) := by decide +kernel
theorem dX11_asked_19 : decode cX11_asked 19 = .ok (.dup, 1) := by decide +kernel
theorem dX11_asked_20 : decode cX11_asked 20 = .ok (.iconst 4, 1) := by decide +kernel
theorem dX11_asked_21 : decode cX11_asked 21 = .ok (.iconst 0, 1) := by decide +kernel
theorem dX11_asked_22 : decode cX11_asked 22 = .ok (.iconst 0, 1) := by decide +kernel
theorem dX11_asked_23 : decode cX11_asked 23 = .ok (.lconst 0, 1) := by decide +kernel
theorem dX11_asked_24 : decode cX11_asked 24 = .ok (.aconst_null, 1) := by decide +kernel
theorem dX11_asked_25 : decode cX11_asked 25 = .ok (.invokespecial 77, 3) := by decide +kernel
theorem dX11_asked_28 : decode cX11_asked 28 = .ok (.invokevirtual 80, 3) := by decide +kernel
theorem dX11_asked_31 : decode cX11_asked 31 = .ok (.aload_n 0, 1) := by decide +kernel
theorem dX11_asked_32 : decode cX11_asked 32 = .ok (.getfield 18, 3) := by decide +kernel
theorem dX11_asked_35 : decode cX11_asked 35 = .ok (.aload_n 0, 1) := by decide +kernel
theorem dX11_asked_36 : decode cX11_asked 36 = .ok (.getfield 315, 3) := by decide +kernel
theorem dX11_asked_39 : decode cX11_asked 39 = .ok (.aload_n 1, 1) := by decide +kernel
theorem dX11_asked_40 : decode cX11_asked 40 = .ok (.aastore, 1) := by decide +kernel
theorem dX11_asked_41 : decode cX11_asked 41 = .ok (.aload_n 0, 1) := by decide +kernel
theorem dX11_asked_42 : decode cX11_asked 42 = .ok (.dup, 1) := by decide +kernel
theorem dX11_asked_43 : decode cX11_asked 43 = .ok (.getfield 315, 3) := by decide +kernel
theorem dX11_asked_46 : decode cX11_asked 46 = .ok (.iconst 1, 1) := by decide +kernel
theorem dX11_asked_47 : decode cX11_asked 47 = .ok (.iadd, 1) := by decide +kernel
theorem dX11_asked_48 : decode cX11_asked 48 = .ok (.putfield 315, 3) := by decide +kernel
theorem dX11_asked_51 : decode cX11_asked 51 = .ok (.aload_n 0, 1) := by decide +kernel
theorem dX11_asked_52 : decode cX11_asked 52 = .ok (.getfield 315, 3) := by decide +kernel
theorem dX11_asked_55 : decode cX11_asked 55 = .ok (.iconst 1, 1) := by decide +kernel
theorem dX11_asked_56 : decode cX11_asked 56 = .ok (.isub, 1) := by decide +kernel
theorem dX11_asked_57 : decode cX11_asked 57 = .ok (.ireturn, 1) := by decide +kernel
theorem dX11_standsWith_0 : decode cX11_standsWith 0 = .ok (.aload_n 0, 1) := by decide +kernel
theorem dX11_standsWith_1 : decode cX11_standsWith 1 = .ok (.getfield 36, 3) := by decide +kernel
theorem dX11_standsWith_4 : decode cX11_standsWith 4 = .ok (.iload_n 1, 1) := by decide +kernel
theorem dX11_standsWith_5 : decode cX11_standsWith 5 = .ok (.invokevirtual 201, 3) := by decide +kernel
theorem dX11_standsWith_8 : decode cX11_standsWith 8 = .ok (.astore 4, 2) := by decide +kernel
theorem dX11_standsWith_10 : decode cX11_standsWith 10 = .ok (.aload 4, 2) := by decide +kernel
theorem dX11_standsWith_12 : decode cX11_standsWith 12 = .ok (.ifnonnull 9, 3) := by decide +kernel
theorem dX11_standsWith_15 : decode cX11_standsWith 15 = .ok (.aload_n 0, 1) := by decide +kernel
theorem dX11_standsWith_16 : decode cX11_standsWith 16 = .ok (.iconst 1, 1) := by decide +kernel
theorem dX11_standsWith_17 : decode cX11_standsWith 17 = .ok (.invokevirtual 67, 3) := by decide +kernel
theorem dX11_standsWith_20 : decode cX11_standsWith 20 = .ok (.ireturn, 1) := by decide +kernel
theorem dX11_standsWith_21 : decode cX11_standsWith 21 = .ok (.aload_n 0, 1) := by decide +kernel
theorem dX11_standsWith_22 : decode cX11_standsWith 22 = .ok (.iconst 0, 1) := by decide +kernel
theorem dX11_standsWith_23 : decode cX11_standsWith 23 = .ok (.putfield 101, 3) := by decide +kernel
theorem dX11_standsWith_26 : decode cX11_standsWith 26 = .ok (.aload 4, 2) := by decide +kernel
theorem dX11_standsWith_28 : decode cX11_standsWith 28 = .ok (.lload_n 2, 1) := by decide +kernel
theorem dX11_standsWith_29 : decode cX11_standsWith 29 = .ok (.invokevirtual 246, 3) := by decide +kernel
theorem dX11_standsWith_32 : decode cX11_standsWith 32 = .ok (.ifCond .eq 7, 3) := by decide +kernel
theorem dX11_standsWith_35 : decode cX11_standsWith 35 = .ok (.iconst 1, 1) := by decide +kernel
theorem dX11_standsWith_36 : decode cX11_standsWith 36 = .ok (.goto 4, 3) := by decide +kernel
theorem dX11_standsWith_39 : decode cX11_standsWith 39 = .ok (.iconst 0, 1) := by decide +kernel
theorem dX11_standsWith_40 : decode cX11_standsWith 40 = .ok (.ireturn, 1) := by decide +kernel
theorem dX11_weighable_0 : decode cX11_weighable 0 = .ok (.aload_n 0, 1) := by decide +kernel
theorem dX11_weighable_1 : decode cX11_weighable 1 = .ok (.getfield 36, 3) := by decide +kernel
theorem dX11_weighable_4 : decode cX11_weighable 4 = .ok (.iload_n 1, 1) := by decide +kernel
theorem dX11_weighable_5 : decode cX11_weighable 5 = .ok (.invokevirtual 201, 3) := by decide +kernel
theorem dX11_weighable_8 : decode cX11_weighable 8 = .ok (.astore_n 2, 1) := by decide +kernel
theorem dX11_weighable_9 : decode cX11_weighable 9 = .ok (.aload_n 2, 1) := by decide +kernel
theorem dX11_weighable_10 : decode cX11_weighable 10 = .ok (.ifnonnull 10, 3) := by decide +kernel
theorem dX11_weighable_13 : decode cX11_weighable 13 = .ok (.aload_n 0, 1) := by decide +kernel
theorem dX11_weighable_14 : decode cX11_weighable 14 = .ok (.iconst 1, 1) := by decide +kernel
theorem dX11_weighable_15 : decode cX11_weighable 15 = .ok (.putfield 101, 3) := by decide +kernel
theorem dX11_weighable_18 : decode cX11_weighable 18 = .ok (.aconst_null, 1) := by decide +kernel
theorem dX11_weighable_19 : decode cX11_weighable 19 = .ok (.areturn, 1) := by decide +kernel
theorem dX11_weighable_20 : decode cX11_weighable 20 = .ok (.aload_n 2, 1) := by decide +kernel
theorem dX11_weighable_21 : decode cX11_weighable 21 = .ok (.invokevirtual 257, 3) := by decide +kernel
theorem dX11_weighable_24 : decode cX11_weighable 24 = .ok (.invokestatic 324, 3) := by decide +kernel
theorem dX11_weighable_27 : decode cX11_weighable 27 = .ok (.bipush 16, 2) := by decide +kernel
theorem dX11_weighable_29 : decode cX11_weighable 29 = .ok (.if_icmp .le 11, 3) := by decide +kernel
theorem dX11_weighable_32 : decode cX11_weighable 32 = .ok (.aload_n 0, 1) := by decide +kernel
theorem dX11_weighable_33 : decode cX11_weighable 33 = .ok (.bipush 6, 2) := by decide +kernel
theorem dX11_weighable_35 : decode cX11_weighable 35 = .ok (.putfield 101, 3) := by decide +kernel
theorem dX11_weighable_38 : decode cX11_weighable 38 = .ok (.aconst_null, 1) := by decide +kernel
theorem dX11_weighable_39 : decode cX11_weighable 39 = .ok (.areturn, 1) := by decide +kernel
theorem dX11_weighable_40 : decode cX11_weighable 40 = .ok (.aload_n 0, 1) := by decide +kernel
theorem dX11_weighable_41 : decode cX11_weighable 41 = .ok (.iconst 0, 1) := by decide +kernel
theorem dX11_weighable_42 : decode cX11_weighable 42 = .ok (.putfield 101, 3) := by decide +kernel
theorem dX11_weighable_45 : decode cX11_weighable 45 = .ok (.aload_n 2, 1) := by decide +kernel
theorem dX11_weighable_46 : decode cX11_weighable 46 = .ok (.areturn, 1) := by decide +kernel
theorem dX11_has_0 : decode cX11_has 0 = .ok (.lload_n 0, 1) := by decide +kernel
theorem dX11_has_1 : decode cX11_has 1 = .ok (.iload_n 2, 1) := by decide +kernel
theorem dX11_has_2 : decode cX11_has 2 = .ok (.lushr, 1) := by decide +kernel
theorem dX11_has_3 : decode cX11_has 3 = .ok (.lconst 1, 1) := by decide +kernel
theorem dX11_has_4 : decode cX11_has 4 = .ok (.land, 1) := by decide +kernel
theorem dX11_has_5 : decode cX11_has 5 = .ok (.lconst 0, 1) := by decide +kernel
theorem dX11_has_6 : decode cX11_has 6 = .ok (.lcmp, 1) := by decide +kernel
theorem dX11_has_7 : decode cX11_has 7 = .ok (.ifCond .eq 7, 3) := by decide +kernel
theorem dX11_has_10 : decode cX11_has 10 = .ok (.iconst 1, 1) := by decide +kernel
theorem dX11_has_11 : decode cX11_has 11 = .ok (.goto 4, 3) := by decide +kernel
theorem dX11_has_14 : decode cX11_has 14 = .ok (.iconst 0, 1) := by decide +kernel
theorem dX11_has_15 : decode cX11_has 15 = .ok (.ireturn, 1) := by decide +kernel
theorem dX11_sortAt_0 : decode cX11_sortAt 0 = .ok (.aload_n 0, 1) := by decide +kernel
theorem dX11_sortAt_1 : decode cX11_sortAt 1 = .ok (.getfield 56, 3) := by decide +kernel
theorem dX11_sortAt_4 : decode cX11_sortAt 4 = .ok (.iload_n 1, 1) := by decide +kernel
theorem dX11_sortAt_5 : decode cX11_sortAt 5 = .ok (.aaload, 1) := by decide +kernel
theorem dX11_sortAt_6 : decode cX11_sortAt 6 = .ok (.astore_n 2, 1) := by decide +kernel
theorem dX11_sortAt_7 : decode cX11_sortAt 7 = .ok (.aload_n 2, 1) := by decide +kernel
theorem dX11_sortAt_8 : decode cX11_sortAt 8 = .ok (.ifnonnull 7, 3) := by decide +kernel
theorem dX11_sortAt_11 : decode cX11_sortAt 11 = .ok (.iconst 0, 1) := by decide +kernel
theorem dX11_sortAt_12 : decode cX11_sortAt 12 = .ok (.goto 7, 3) := by decide +kernel
theorem dX11_sortAt_15 : decode cX11_sortAt 15 = .ok (.aload_n 2, 1) := by decide +kernel
theorem dX11_sortAt_16 : decode cX11_sortAt 16 = .ok (.getfield 286, 3) := by decide +kernel
theorem dX11_sortAt_19 : decode cX11_sortAt 19 = .ok (.ireturn, 1) := by decide +kernel
theorem dX11_thingOf_0 : decode cX11_thingOf 0 = .ok (.iload_n 1, 1) := by decide +kernel
theorem dX11_thingOf_1 : decode cX11_thingOf 1 = .ok (.iconst 1, 1) := by decide +kernel
theorem dX11_thingOf_2 : decode cX11_thingOf 2 = .ok (.if_icmp .eq 8, 3) := by decide +kernel
theorem dX11_thingOf_5 : decode cX11_thingOf 5 = .ok (.iload_n 1, 1) := by decide +kernel
theorem dX11_thingOf_6 : decode cX11_thingOf 6 = .ok (.iconst 2, 1) := by decide +kernel
theorem dX11_thingOf_7 : decode cX11_thingOf 7 = .ok (.if_icmp .ne 50, 3) := by decide +kernel
theorem dX11_thingOf_10 : decode cX11_thingOf 10 = .ok (.iload_n 1, 1) := by decide +kernel
theorem dX11_thingOf_11 : decode cX11_thingOf 11 = .ok (.iconst 1, 1) := by decide +kernel
theorem dX11_thingOf_12 : decode cX11_thingOf 12 = .ok (.if_icmp .ne 14, 3) := by decide +kernel
theorem dX11_thingOf_15 : decode cX11_thingOf 15 = .ok (.aload_n 0, 1) := by decide +kernel
theorem dX11_thingOf_16 : decode cX11_thingOf 16 = .ok (.getfield 12, 3) := by decide +kernel
theorem dX11_thingOf_19 : decode cX11_thingOf 19 = .ok (.iload_n 2, 1) := by decide +kernel
theorem dX11_thingOf_20 : decode cX11_thingOf 20 = .ok (.invokevirtual 98, 3) := by decide +kernel
theorem dX11_thingOf_23 : decode cX11_thingOf 23 = .ok (.goto 8, 3) := by decide +kernel
theorem dX11_thingOf_26 : decode cX11_thingOf 26 = .ok (.aload_n 0, 1) := by decide +kernel
theorem dX11_thingOf_27 : decode cX11_thingOf 27 = .ok (.iload_n 2, 1) := by decide +kernel
theorem dX11_thingOf_28 : decode cX11_thingOf 28 = .ok (.invokevirtual 146, 3) := by decide +kernel
theorem dX11_thingOf_31 : decode cX11_thingOf 31 = .ok (.istore_n 3, 1) := by decide +kernel
theorem dX11_thingOf_32 : decode cX11_thingOf 32 = .ok (.iload_n 3, 1) := by decide +kernel
theorem dX11_thingOf_33 : decode cX11_thingOf 33 = .ok (.ifCond .eq 22, 3) := by decide +kernel
theorem dX11_thingOf_36 : decode cX11_thingOf 36 = .ok (.new 54, 3) := by decide +kernel
theorem dX11_thingOf_39 : decode cX11_thingOf 39 = .ok (.dup, 1) := by decide +kernel
theorem dX11_thingOf_40 : decode cX11_thingOf 40 = .ok (.iload_n 1, 1) := by decide +kernel
theorem dX11_thingOf_41 : decode cX11_thingOf 41 = .ok (.iconst 1, 1) := by decide +kernel
theorem dX11_thingOf_42 : decode cX11_thingOf 42 = .ok (.newarray .long, 2) := by decide +kernel
theorem dX11_thingOf_44 : decode cX11_thingOf 44 = .ok (.dup, 1) := by decide +kernel
theorem dX11_thingOf_45 : decode cX11_thingOf 45 = .ok (.iconst 0, 1) := by decide +kernel
theorem dX11_thingOf_46 : decode cX11_thingOf 46 = .ok (.iload_n 2, 1) := by decide +kernel
theorem dX11_thingOf_47 : decode cX11_thingOf 47 = .ok (.i2l, 1) := by decide +kernel
theorem dX11_thingOf_48 : decode cX11_thingOf 48 = .ok (.lastore, 1) := by decide +kernel
theorem dX11_thingOf_49 : decode cX11_thingOf 49 = .ok (.invokespecial 305, 3) := by decide +kernel
theorem dX11_thingOf_52 : decode cX11_thingOf 52 = .ok (.goto 4, 3) := by decide +kernel
theorem dX11_thingOf_55 : decode cX11_thingOf 55 = .ok (.aconst_null, 1) := by decide +kernel
theorem dX11_thingOf_56 : decode cX11_thingOf 56 = .ok (.areturn, 1) := by decide +kernel
theorem dX11_thingOf_57 : decode cX11_thingOf 57 = .ok (.aload_n 0, 1) := by decide +kernel
theorem dX11_thingOf_58 : decode cX11_thingOf 58 = .ok (.getfield 36, 3) := by decide +kernel
theorem dX11_thingOf_61 : decode cX11_thingOf 61 = .ok (.iload_n 2, 1) := by decide +kernel
theorem dX11_thingOf_62 : decode cX11_thingOf 62 = .ok (.invokevirtual 201, 3) := by decide +kernel
theorem dX11_thingOf_65 : decode cX11_thingOf 65 = .ok (.astore_n 3, 1) := by decide +kernel
theorem dX11_thingOf_66 : decode cX11_thingOf 66 = .ok (.iload_n 1, 1) := by decide +kernel
theorem dX11_thingOf_67 : decode cX11_thingOf 67 = .ok (.ifCond .eq 7, 3) := by decide +kernel
theorem dX11_thingOf_70 : decode cX11_thingOf 70 = .ok (.aload_n 3, 1) := by decide +kernel
theorem dX11_thingOf_71 : decode cX11_thingOf 71 = .ok (.ifnonnull 5, 3) := by decide +kernel
theorem dX11_thingOf_74 : decode cX11_thingOf 74 = .ok (.aconst_null, 1) := by decide +kernel
theorem dX11_thingOf_75 : decode cX11_thingOf 75 = .ok (.areturn, 1) := by decide +kernel
theorem dX11_thingOf_76 : decode cX11_thingOf 76 = .ok (.new 54, 3) := by decide +kernel
theorem dX11_thingOf_79 : decode cX11_thingOf 79 = .ok (.dup, 1) := by decide +kernel
theorem dX11_thingOf_80 : decode cX11_thingOf 80 = .ok (.iload_n 1, 1) := by decide +kernel
theorem dX11_thingOf_81 : decode cX11_thingOf 81 = .ok (.iload_n 1, 1) := by decide +kernel
theorem dX11_thingOf_82 : decode cX11_thingOf 82 = .ok (.iconst 3, 1) := by decide +kernel
theorem dX11_thingOf_83 : decode cX11_thingOf 83 = .ok (.if_icmp .ne 17, 3) := by decide +kernel
theorem dX11_thingOf_86 : decode cX11_thingOf 86 = .ok (.aload_n 3, 1) := by decide +kernel
theorem dX11_thingOf_87 : decode cX11_thingOf 87 = .ok (.aload_n 0, 1) := by decide +kernel
theorem dX11_thingOf_88 : decode cX11_thingOf 88 = .ok (.getfield 36, 3) := by decide +kernel
theorem dX11_thingOf_91 : decode cX11_thingOf 91 = .ok (.getfield 205, 3) := by decide +kernel
theorem dX11_thingOf_94 : decode cX11_thingOf 94 = .ok (.invokevirtual 330, 3) := by decide +kernel
theorem dX11_thingOf_97 : decode cX11_thingOf 97 = .ok (.goto 14, 3) := by decide +kernel
theorem dX11_thingOf_100 : decode cX11_thingOf 100 = .ok (.aload_n 3, 1) := by decide +kernel
theorem dX11_thingOf_101 : decode cX11_thingOf 101 = .ok (.getfield 218, 3) := by decide +kernel
theorem dX11_thingOf_104 : decode cX11_thingOf 104 = .ok (.aload_n 3, 1) := by decide +kernel
theorem dX11_thingOf_105 : decode cX11_thingOf 105 = .ok (.getfield 215, 3) := by decide +kernel
theorem dX11_thingOf_108 : decode cX11_thingOf 108 = .ok (.invokestatic 334, 3) := by decide +kernel
theorem dX11_thingOf_111 : decode cX11_thingOf 111 = .ok (.invokespecial 305, 3) := by decide +kernel
theorem dX11_thingOf_114 : decode cX11_thingOf 114 = .ok (.areturn, 1) := by decide +kernel
theorem dX11_laid_0 : decode cX11_laid 0 = .ok (.aload_n 0, 1) := by decide +kernel
theorem dX11_laid_1 : decode cX11_laid 1 = .ok (.new 75, 3) := by decide +kernel
theorem dX11_laid_4 : decode cX11_laid 4 = .ok (.dup, 1) := by decide +kernel
theorem dX11_laid_5 : decode cX11_laid 5 = .ok (.iconst 5, 1) := by decide +kernel
theorem dX11_laid_6 : decode cX11_laid 6 = .ok (.iload_n 1, 1) := by decide +kernel
theorem dX11_laid_7 : decode cX11_laid 7 = .ok (.iconst 0, 1) := by decide +kernel
theorem dX11_laid_8 : decode cX11_laid 8 = .ok (.lconst 0, 1) := by decide +kernel
theorem dX11_laid_9 : decode cX11_laid 9 = .ok (.aload_n 0, 1) := by decide +kernel
theorem dX11_laid_10 : decode cX11_laid 10 = .ok (.getfield 56, 3) := by decide +kernel
theorem dX11_laid_13 : decode cX11_laid 13 = .ok (.iload_n 1, 1) := by decide +kernel
theorem dX11_laid_14 : decode cX11_laid 14 = .ok (.aaload, 1) := by decide +kernel
theorem dX11_laid_15 : decode cX11_laid 15 = .ok (.invokespecial 77, 3) := by decide +kernel
theorem dX11_laid_18 : decode cX11_laid 18 = .ok (.invokevirtual 80, 3) := by decide +kernel
theorem dX11_laid_21 : decode cX11_laid 21 = .ok (.aload_n 0, 1) := by decide +kernel
theorem dX11_laid_22 : decode cX11_laid 22 = .ok (.getfield 56, 3) := by decide +kernel
theorem dX11_laid_25 : decode cX11_laid 25 = .ok (.iload_n 1, 1) := by decide +kernel
theorem dX11_laid_26 : decode cX11_laid 26 = .ok (.aload_n 2, 1) := by decide +kernel
theorem dX11_laid_27 : decode cX11_laid 27 = .ok (.aastore, 1) := by decide +kernel
theorem dX11_laid_28 : decode cX11_laid 28 = .ok (.iconst 1, 1) := by decide +kernel
theorem dX11_laid_29 : decode cX11_laid 29 = .ok (.ireturn, 1) := by decide +kernel
theorem dX11_hasSoMany_0 : decode cX11_hasSoMany 0 = .ok (.iload_n 1, 1) := by decide +kernel
theorem dX11_hasSoMany_1 : decode cX11_hasSoMany 1 = .ok (.ifCond .lt 31, 3) := by decide +kernel
theorem dX11_hasSoMany_4 : decode cX11_hasSoMany 4 = .ok (.iload_n 2, 1) := by decide +kernel
theorem dX11_hasSoMany_5 : decode cX11_hasSoMany 5 = .ok (.ifCond .lt 27, 3) := by decide +kernel
theorem dX11_hasSoMany_8 : decode cX11_hasSoMany 8 = .ok (.iload_n 2, 1) := by decide +kernel
theorem dX11_hasSoMany_9 : decode cX11_hasSoMany 9 = .ok (.aload_n 0, 1) := by decide +kernel
theorem dX11_hasSoMany_10 : decode cX11_hasSoMany 10 = .ok (.getfield 287, 3) := by decide +kernel
theorem dX11_hasSoMany_13 : decode cX11_hasSoMany 13 = .ok (.arraylength, 1) := by decide +kernel
theorem dX11_hasSoMany_14 : decode cX11_hasSoMany 14 = .ok (.if_icmp .gt 18, 3) := by decide +kernel
theorem dX11_hasSoMany_17 : decode cX11_hasSoMany 17 = .ok (.iload_n 1, 1) := by decide +kernel
theorem dX11_hasSoMany_18 : decode cX11_hasSoMany 18 = .ok (.aload_n 0, 1) := by decide +kernel
theorem dX11_hasSoMany_19 : decode cX11_hasSoMany 19 = .ok (.getfield 287, 3) := by decide +kernel
theorem dX11_hasSoMany_22 : decode cX11_hasSoMany 22 = .ok (.arraylength, 1) := by decide +kernel
theorem dX11_hasSoMany_23 : decode cX11_hasSoMany 23 = .ok (.iload_n 2, 1) := by decide +kernel
theorem dX11_hasSoMany_24 : decode cX11_hasSoMany 24 = .ok (.isub, 1) := by decide +kernel
theorem dX11_hasSoMany_25 : decode cX11_hasSoMany 25 = .ok (.if_icmp .gt 7, 3) := by decide +kernel
theorem dX11_hasSoMany_28 : decode cX11_hasSoMany 28 = .ok (.iconst 1, 1) := by decide +kernel
theorem dX11_hasSoMany_29 : decode cX11_hasSoMany 29 = .ok (.goto 4, 3) := by decide +kernel
theorem dX11_hasSoMany_32 : decode cX11_hasSoMany 32 = .ok (.iconst 0, 1) := by decide +kernel
theorem dX11_hasSoMany_33 : decode cX11_hasSoMany 33 = .ok (.ireturn, 1) := by decide +kernel
theorem dX11_takeBack_0 : decode cX11_takeBack 0 = .ok (.aload_n 1, 1) := by decide +kernel
theorem dX11_takeBack_1 : decode cX11_takeBack 1 = .ok (.getfield 340, 3) := by decide +kernel
theorem dX11_takeBack_4 : decode cX11_takeBack 4 = .ok (.tableswitch 147 0 4 #[36, 60, 84, 112, 134], 36) := by decide +kernel
theorem dX11_takeBack_40 : decode cX11_takeBack 40 = .ok (.aload_n 0, 1) := by decide +kernel
theorem dX11_takeBack_41 : decode cX11_takeBack 41 = .ok (.getfield 12, 3) := by decide +kernel
theorem dX11_takeBack_44 : decode cX11_takeBack 44 = .ok (.dup, 1) := by decide +kernel
theorem dX11_takeBack_45 : decode cX11_takeBack 45 = .ok (.getfield 71, 3) := by decide +kernel
theorem dX11_takeBack_48 : decode cX11_takeBack 48 = .ok (.iconst 1, 1) := by decide +kernel
theorem dX11_takeBack_49 : decode cX11_takeBack 49 = .ok (.isub, 1) := by decide +kernel
theorem dX11_takeBack_50 : decode cX11_takeBack 50 = .ok (.putfield 71, 3) := by decide +kernel
theorem dX11_takeBack_53 : decode cX11_takeBack 53 = .ok (.aload_n 0, 1) := by decide +kernel
theorem dX11_takeBack_54 : decode cX11_takeBack 54 = .ok (.getfield 36, 3) := by decide +kernel
theorem dX11_takeBack_57 : decode cX11_takeBack 57 = .ok (.iconst 0, 1) := by decide +kernel
theorem dX11_takeBack_58 : decode cX11_takeBack 58 = .ok (.invokevirtual 341, 3) := by decide +kernel
theorem dX11_takeBack_61 : decode cX11_takeBack 61 = .ok (.goto 103, 3) := by decide +kernel
theorem dX11_takeBack_64 : decode cX11_takeBack 64 = .ok (.aload_n 0, 1) := by decide +kernel
theorem dX11_takeBack_65 : decode cX11_takeBack 65 = .ok (.getfield 12, 3) := by decide +kernel
theorem dX11_takeBack_68 : decode cX11_takeBack 68 = .ok (.dup, 1) := by decide +kernel
theorem dX11_takeBack_69 : decode cX11_takeBack 69 = .ok (.getfield 91, 3) := by decide +kernel
theorem dX11_takeBack_72 : decode cX11_takeBack 72 = .ok (.iconst 1, 1) := by decide +kernel
theorem dX11_takeBack_73 : decode cX11_takeBack 73 = .ok (.isub, 1) := by decide +kernel
theorem dX11_takeBack_74 : decode cX11_takeBack 74 = .ok (.putfield 91, 3) := by decide +kernel
theorem dX11_takeBack_77 : decode cX11_takeBack 77 = .ok (.aload_n 0, 1) := by decide +kernel
theorem dX11_takeBack_78 : decode cX11_takeBack 78 = .ok (.getfield 36, 3) := by decide +kernel
theorem dX11_takeBack_81 : decode cX11_takeBack 81 = .ok (.iconst 0, 1) := by decide +kernel
theorem dX11_takeBack_82 : decode cX11_takeBack 82 = .ok (.invokevirtual 341, 3) := by decide +kernel
theorem dX11_takeBack_85 : decode cX11_takeBack 85 = .ok (.goto 79, 3) := by decide +kernel
theorem dX11_takeBack_88 : decode cX11_takeBack 88 = .ok (.aload_n 0, 1) := by decide +kernel
theorem dX11_takeBack_89 : decode cX11_takeBack 89 = .ok (.getfield 12, 3) := by decide +kernel
theorem dX11_takeBack_92 : decode cX11_takeBack 92 = .ok (.aload_n 1, 1) := by decide +kernel
theorem dX11_takeBack_93 : decode cX11_takeBack 93 = .ok (.getfield 344, 3) := by decide +kernel
theorem dX11_takeBack_96 : decode cX11_takeBack 96 = .ok (.aload_n 1, 1) := by decide +kernel
theorem dX11_takeBack_97 : decode cX11_takeBack 97 = .ok (.getfield 346, 3) := by decide +kernel
theorem dX11_takeBack_100 : decode cX11_takeBack 100 = .ok (.lconst 0, 1) := by decide +kernel
theorem dX11_takeBack_101 : decode cX11_takeBack 101 = .ok (.lcmp, 1) := by decide +kernel
theorem dX11_takeBack_102 : decode cX11_takeBack 102 = .ok (.ifCond .eq 7, 3) := by decide +kernel
theorem dX11_takeBack_105 : decode cX11_takeBack 105 = .ok (.iconst 1, 1) := by decide +kernel
theorem dX11_takeBack_106 : decode cX11_takeBack 106 = .ok (.goto 4, 3) := by decide +kernel
theorem dX11_takeBack_109 : decode cX11_takeBack 109 = .ok (.iconst 0, 1) := by decide +kernel
theorem dX11_takeBack_110 : decode cX11_takeBack 110 = .ok (.invokevirtual 107, 3) := by decide +kernel
theorem dX11_takeBack_113 : decode cX11_takeBack 113 = .ok (.goto 51, 3) := by decide +kernel
theorem dX11_takeBack_116 : decode cX11_takeBack 116 = .ok (.aload_n 0, 1) := by decide +kernel
theorem dX11_takeBack_117 : decode cX11_takeBack 117 = .ok (.getfield 12, 3) := by decide +kernel
theorem dX11_takeBack_120 : decode cX11_takeBack 120 = .ok (.aload_n 1, 1) := by decide +kernel
theorem dX11_takeBack_121 : decode cX11_takeBack 121 = .ok (.getfield 344, 3) := by decide +kernel
theorem dX11_takeBack_124 : decode cX11_takeBack 124 = .ok (.aload_n 1, 1) := by decide +kernel
theorem dX11_takeBack_125 : decode cX11_takeBack 125 = .ok (.getfield 349, 3) := by decide +kernel
theorem dX11_takeBack_128 : decode cX11_takeBack 128 = .ok (.aload_n 1, 1) := by decide +kernel
theorem dX11_takeBack_129 : decode cX11_takeBack 129 = .ok (.getfield 346, 3) := by decide +kernel
theorem dX11_takeBack_132 : decode cX11_takeBack 132 = .ok (.invokevirtual 119, 3) := by decide +kernel
theorem dX11_takeBack_135 : decode cX11_takeBack 135 = .ok (.goto 29, 3) := by decide +kernel
theorem dX11_takeBack_138 : decode cX11_takeBack 138 = .ok (.aload_n 0, 1) := by decide +kernel
theorem dX11_takeBack_139 : decode cX11_takeBack 139 = .ok (.dup, 1) := by decide +kernel
theorem dX11_takeBack_140 : decode cX11_takeBack 140 = .ok (.getfield 315, 3) := by decide +kernel
theorem dX11_takeBack_143 : decode cX11_takeBack 143 = .ok (.iconst 1, 1) := by decide +kernel
theorem dX11_takeBack_144 : decode cX11_takeBack 144 = .ok (.isub, 1) := by decide +kernel
theorem dX11_takeBack_145 : decode cX11_takeBack 145 = .ok (.putfield 315, 3) := by decide +kernel
theorem dX11_takeBack_148 : decode cX11_takeBack 148 = .ok (.goto 16, 3) := by decide +kernel
theorem dX11_takeBack_151 : decode cX11_takeBack 151 = .ok (.aload_n 0, 1) := by decide +kernel
theorem dX11_takeBack_152 : decode cX11_takeBack 152 = .ok (.getfield 56, 3) := by decide +kernel
theorem dX11_takeBack_155 : decode cX11_takeBack 155 = .ok (.aload_n 1, 1) := by decide +kernel
theorem dX11_takeBack_156 : decode cX11_takeBack 156 = .ok (.getfield 344, 3) := by decide +kernel
theorem dX11_takeBack_159 : decode cX11_takeBack 159 = .ok (.aload_n 1, 1) := by decide +kernel
theorem dX11_takeBack_160 : decode cX11_takeBack 160 = .ok (.getfield 352, 3) := by decide +kernel
theorem dX11_takeBack_163 : decode cX11_takeBack 163 = .ok (.aastore, 1) := by decide +kernel
theorem dX11_takeBack_164 : decode cX11_takeBack 164 = .ok (.return_, 1) := by decide +kernel
theorem dJxe99ae_isNaN_b9ae7_0 : decode cJxe99ae_isNaN_b9ae7 0 = .ok (.dload_n 0, 1) := by decide +kernel
theorem dJxe99ae_isNaN_b9ae7_1 : decode cJxe99ae_isNaN_b9ae7 1 = .ok (.dload_n 0, 1) := by decide +kernel
theorem dJxe99ae_isNaN_b9ae7_2 : decode cJxe99ae_isNaN_b9ae7 2 = .ok (.dcmp .l, 1) := by decide +kernel
theorem dJxe99ae_isNaN_b9ae7_3 : decode cJxe99ae_isNaN_b9ae7 3 = .ok (.ifCond .eq 7, 3) := by decide +kernel
theorem dJxe99ae_isNaN_b9ae7_6 : decode cJxe99ae_isNaN_b9ae7 6 = .ok (.iconst 1, 1) := by decide +kernel
theorem dJxe99ae_isNaN_b9ae7_7 : decode cJxe99ae_isNaN_b9ae7 7 = .ok (.goto 4, 3) := by decide +kernel
theorem dJxe99ae_isNaN_b9ae7_10 : decode cJxe99ae_isNaN_b9ae7 10 = .ok (.iconst 0, 1) := by decide +kernel
theorem dJxe99ae_isNaN_b9ae7_11 : decode cJxe99ae_isNaN_b9ae7 11 = .ok (.ireturn, 1) := by decide +kernel
theorem dJxe99ae_doubleToLongBits_ccdee_0 : decode cJxe99ae_doubleToLongBits_ccdee 0 = .ok (.dload_n 0, 1) := by decide +kernel
theorem dJxe99ae_doubleToLongBits_ccdee_1 : decode cJxe99ae_doubleToLongBits_ccdee 1 = .ok (.invokestatic 122, 3) := by decide +kernel
theorem dJxe99ae_doubleToLongBits_ccdee_4 : decode cJxe99ae_doubleToLongBits_ccdee 4 = .ok (.ifCond .ne 8, 3) := by decide +kernel
theorem dJxe99ae_doubleToLongBits_ccdee_7 : decode cJxe99ae_doubleToLongBits_ccdee 7 = .ok (.dload_n 0, 1) := by decide +kernel
theorem dJxe99ae_doubleToLongBits_ccdee_8 : decode cJxe99ae_doubleToLongBits_ccdee 8 = .ok (.invokestatic 134, 3) := by decide +kernel
theorem dJxe99ae_doubleToLongBits_ccdee_11 : decode cJxe99ae_doubleToLongBits_ccdee 11 = .ok (.lreturn, 1) := by decide +kernel
theorem dJxe99ae_doubleToLongBits_ccdee_12 : decode cJxe99ae_doubleToLongBits_ccdee 12 = .ok (.ldc2_w 137, 3) := by decide +kernel
theorem dJxe99ae_doubleToLongBits_ccdee_15 : decode cJxe99ae_doubleToLongBits_ccdee 15 = .ok (.lreturn, 1) := by decide +kernel
theorem dJ13_bitCount_95d88_0 : decode cJ13_bitCount_95d88 0 = .ok (.lload_n 0, 1) := by decide +kernel
theorem dJ13_bitCount_95d88_1 : decode cJ13_bitCount_95d88 1 = .ok (.lload_n 0, 1) := by decide +kernel
theorem dJ13_bitCount_95d88_2 : decode cJ13_bitCount_95d88 2 = .ok (.iconst 1, 1) := by decide +kernel
theorem dJ13_bitCount_95d88_3 : decode cJ13_bitCount_95d88 3 = .ok (.lushr, 1) := by decide +kernel
theorem dJ13_bitCount_95d88_4 : decode cJ13_bitCount_95d88 4 = .ok (.ldc2_w 314, 3) := by decide +kernel
theorem dJ13_bitCount_95d88_7 : decode cJ13_bitCount_95d88 7 = .ok (.land, 1) := by decide +kernel
theorem dJ13_bitCount_95d88_8 : decode cJ13_bitCount_95d88 8 = .ok (.lsub, 1) := by decide +kernel
theorem dJ13_bitCount_95d88_9 : decode cJ13_bitCount_95d88 9 = .ok (.lstore_n 0, 1) := by decide +kernel
theorem dJ13_bitCount_95d88_10 : decode cJ13_bitCount_95d88 10 = .ok (.lload_n 0, 1) := by decide +kernel
theorem dJ13_bitCount_95d88_11 : decode cJ13_bitCount_95d88 11 = .ok (.ldc2_w 316, 3) := by decide +kernel
theorem dJ13_bitCount_95d88_14 : decode cJ13_bitCount_95d88 14 = .ok (.land, 1) := by decide +kernel
theorem dJ13_bitCount_95d88_15 : decode cJ13_bitCount_95d88 15 = .ok (.lload_n 0, 1) := by decide +kernel
theorem dJ13_bitCount_95d88_16 : decode cJ13_bitCount_95d88 16 = .ok (.iconst 2, 1) := by decide +kernel
theorem dJ13_bitCount_95d88_17 : decode cJ13_bitCount_95d88 17 = .ok (.lushr, 1) := by decide +kernel
theorem dJ13_bitCount_95d88_18 : decode cJ13_bitCount_95d88 18 = .ok (.ldc2_w 316, 3) := by decide +kernel
theorem dJ13_bitCount_95d88_21 : decode cJ13_bitCount_95d88 21 = .ok (.land, 1) := by decide +kernel
theorem dJ13_bitCount_95d88_22 : decode cJ13_bitCount_95d88 22 = .ok (.ladd, 1) := by decide +kernel
theorem dJ13_bitCount_95d88_23 : decode cJ13_bitCount_95d88 23 = .ok (.lstore_n 0, 1) := by decide +kernel
theorem dJ13_bitCount_95d88_24 : decode cJ13_bitCount_95d88 24 = .ok (.lload_n 0, 1) := by decide +kernel
theorem dJ13_bitCount_95d88_25 : decode cJ13_bitCount_95d88 25 = .ok (.lload_n 0, 1) := by decide +kernel
theorem dJ13_bitCount_95d88_26 : decode cJ13_bitCount_95d88 26 = .ok (.iconst 4, 1) := by decide +kernel
theorem dJ13_bitCount_95d88_27 : decode cJ13_bitCount_95d88 27 = .ok (.lushr, 1) := by decide +kernel
theorem dJ13_bitCount_95d88_28 : decode cJ13_bitCount_95d88 28 = .ok (.ladd, 1) := by decide +kernel
theorem dJ13_bitCount_95d88_29 : decode cJ13_bitCount_95d88 29 = .ok (.ldc2_w 318, 3) := by decide +kernel
theorem dJ13_bitCount_95d88_32 : decode cJ13_bitCount_95d88 32 = .ok (.land, 1) := by decide +kernel
theorem dJ13_bitCount_95d88_33 : decode cJ13_bitCount_95d88 33 = .ok (.lstore_n 0, 1) := by decide +kernel
theorem dJ13_bitCount_95d88_34 : decode cJ13_bitCount_95d88 34 = .ok (.lload_n 0, 1) := by decide +kernel
theorem dJ13_bitCount_95d88_35 : decode cJ13_bitCount_95d88 35 = .ok (.lload_n 0, 1) := by decide +kernel
theorem dJ13_bitCount_95d88_36 : decode cJ13_bitCount_95d88 36 = .ok (.bipush 8, 2) := by decide +kernel
theorem dJ13_bitCount_95d88_38 : decode cJ13_bitCount_95d88 38 = .ok (.lushr, 1) := by decide +kernel
theorem dJ13_bitCount_95d88_39 : decode cJ13_bitCount_95d88 39 = .ok (.ladd, 1) := by decide +kernel
theorem dJ13_bitCount_95d88_40 : decode cJ13_bitCount_95d88 40 = .ok (.lstore_n 0, 1) := by decide +kernel
theorem dJ13_bitCount_95d88_41 : decode cJ13_bitCount_95d88 41 = .ok (.lload_n 0, 1) := by decide +kernel
theorem dJ13_bitCount_95d88_42 : decode cJ13_bitCount_95d88 42 = .ok (.lload_n 0, 1) := by decide +kernel
theorem dJ13_bitCount_95d88_43 : decode cJ13_bitCount_95d88 43 = .ok (.bipush 16, 2) := by decide +kernel
theorem dJ13_bitCount_95d88_45 : decode cJ13_bitCount_95d88 45 = .ok (.lushr, 1) := by decide +kernel
theorem dJ13_bitCount_95d88_46 : decode cJ13_bitCount_95d88 46 = .ok (.ladd, 1) := by decide +kernel
theorem dJ13_bitCount_95d88_47 : decode cJ13_bitCount_95d88 47 = .ok (.lstore_n 0, 1) := by decide +kernel
theorem dJ13_bitCount_95d88_48 : decode cJ13_bitCount_95d88 48 = .ok (.lload_n 0, 1) := by decide +kernel
theorem dJ13_bitCount_95d88_49 : decode cJ13_bitCount_95d88 49 = .ok (.lload_n 0, 1) := by decide +kernel
theorem dJ13_bitCount_95d88_50 : decode cJ13_bitCount_95d88 50 = .ok (.bipush 32, 2) := by decide +kernel
theorem dJ13_bitCount_95d88_52 : decode cJ13_bitCount_95d88 52 = .ok (.lushr, 1) := by decide +kernel
theorem dJ13_bitCount_95d88_53 : decode cJ13_bitCount_95d88 53 = .ok (.ladd, 1) := by decide +kernel
theorem dJ13_bitCount_95d88_54 : decode cJ13_bitCount_95d88 54 = .ok (.lstore_n 0, 1) := by decide +kernel
theorem dJ13_bitCount_95d88_55 : decode cJ13_bitCount_95d88 55 = .ok (.lload_n 0, 1) := by decide +kernel
theorem dJ13_bitCount_95d88_56 : decode cJ13_bitCount_95d88 56 = .ok (.l2i, 1) := by decide +kernel
theorem dJ13_bitCount_95d88_57 : decode cJ13_bitCount_95d88 57 = .ok (.bipush 127, 2) := by decide +kernel
theorem dJ13_bitCount_95d88_59 : decode cJ13_bitCount_95d88 59 = .ok (.iand, 1) := by decide +kernel
theorem dJ13_bitCount_95d88_60 : decode cJ13_bitCount_95d88 60 = .ok (.ireturn, 1) := by decide +kernel
theorem dJ9_max_f86c9_0 : decode cJ9_max_f86c9 0 = .ok (.lload_n 0, 1) := by decide +kernel
theorem dJ9_max_f86c9_1 : decode cJ9_max_f86c9 1 = .ok (.lload_n 2, 1) := by decide +kernel
theorem dJ9_max_f86c9_2 : decode cJ9_max_f86c9 2 = .ok (.lcmp, 1) := by decide +kernel
theorem dJ9_max_f86c9_3 : decode cJ9_max_f86c9 3 = .ok (.ifCond .lt 7, 3) := by decide +kernel
theorem dJ9_max_f86c9_6 : decode cJ9_max_f86c9 6 = .ok (.lload_n 0, 1) := by decide +kernel
theorem dJ9_max_f86c9_7 : decode cJ9_max_f86c9 7 = .ok (.goto 4, 3) := by decide +kernel
theorem dJ9_max_f86c9_10 : decode cJ9_max_f86c9 10 = .ok (.lload_n 2, 1) := by decide +kernel
theorem dJ9_max_f86c9_11 : decode cJ9_max_f86c9 11 = .ok (.lreturn, 1) := by decide +kernel
theorem dJ9_max_eb370_0 : decode cJ9_max_eb370 0 = .ok (.dload_n 0, 1) := by decide +kernel
theorem dJ9_max_eb370_1 : decode cJ9_max_eb370 1 = .ok (.dload_n 0, 1) := by decide +kernel
theorem dJ9_max_eb370_2 : decode cJ9_max_eb370 2 = .ok (.dcmp .l, 1) := by decide +kernel
theorem dJ9_max_eb370_3 : decode cJ9_max_eb370 3 = .ok (.ifCond .eq 5, 3) := by decide +kernel
theorem dJ9_max_eb370_6 : decode cJ9_max_eb370 6 = .ok (.dload_n 0, 1) := by decide +kernel
theorem dJ9_max_eb370_7 : decode cJ9_max_eb370 7 = .ok (.dreturn, 1) := by decide +kernel
theorem dJ9_max_eb370_8 : decode cJ9_max_eb370 8 = .ok (.dload_n 0, 1) := by decide +kernel
theorem dJ9_max_eb370_9 : decode cJ9_max_eb370 9 = .ok (.dconst 0, 1) := by decide +kernel
theorem dJ9_max_eb370_10 : decode cJ9_max_eb370 10 = .ok (.dcmp .l, 1) := by decide +kernel
theorem dJ9_max_eb370_11 : decode cJ9_max_eb370 11 = .ok (.ifCond .ne 22, 3) := by decide +kernel
theorem dJ9_max_eb370_14 : decode cJ9_max_eb370 14 = .ok (.dload_n 2, 1) := by decide +kernel
theorem dJ9_max_eb370_15 : decode cJ9_max_eb370 15 = .ok (.dconst 0, 1) := by decide +kernel
theorem dJ9_max_eb370_16 : decode cJ9_max_eb370 16 = .ok (.dcmp .l, 1) := by decide +kernel
theorem dJ9_max_eb370_17 : decode cJ9_max_eb370 17 = .ok (.ifCond .ne 16, 3) := by decide +kernel
theorem dJ9_max_eb370_20 : decode cJ9_max_eb370 20 = .ok (.dload_n 0, 1) := by decide +kernel
theorem dJ9_max_eb370_21 : decode cJ9_max_eb370 21 = .ok (.invokestatic 79, 3) := by decide +kernel
theorem dJ9_max_eb370_24 : decode cJ9_max_eb370 24 = .ok (.getstatic 174, 3) := by decide +kernel
theorem dJ9_max_eb370_27 : decode cJ9_max_eb370 27 = .ok (.lcmp, 1) := by decide +kernel
theorem dJ9_max_eb370_28 : decode cJ9_max_eb370 28 = .ok (.ifCond .ne 5, 3) := by decide +kernel
theorem dJ9_max_eb370_31 : decode cJ9_max_eb370 31 = .ok (.dload_n 2, 1) := by decide +kernel
theorem dJ9_max_eb370_32 : decode cJ9_max_eb370 32 = .ok (.dreturn, 1) := by decide +kernel
theorem dJ9_max_eb370_33 : decode cJ9_max_eb370 33 = .ok (.dload_n 0, 1) := by decide +kernel
theorem dJ9_max_eb370_34 : decode cJ9_max_eb370 34 = .ok (.dload_n 2, 1) := by decide +kernel
theorem dJ9_max_eb370_35 : decode cJ9_max_eb370 35 = .ok (.dcmp .l, 1) := by decide +kernel
theorem dJ9_max_eb370_36 : decode cJ9_max_eb370 36 = .ok (.ifCond .lt 7, 3) := by decide +kernel
theorem dJ9_max_eb370_39 : decode cJ9_max_eb370 39 = .ok (.dload_n 0, 1) := by decide +kernel
theorem dJ9_max_eb370_40 : decode cJ9_max_eb370 40 = .ok (.goto 4, 3) := by decide +kernel
theorem dJ9_max_eb370_43 : decode cJ9_max_eb370 43 = .ok (.dload_n 2, 1) := by decide +kernel
theorem dJ9_max_eb370_44 : decode cJ9_max_eb370 44 = .ok (.dreturn, 1) := by decide +kernel
theorem dJ9_min_7cf53_0 : decode cJ9_min_7cf53 0 = .ok (.iload_n 0, 1) := by decide +kernel
theorem dJ9_min_7cf53_1 : decode cJ9_min_7cf53 1 = .ok (.iload_n 1, 1) := by decide +kernel
theorem dJ9_min_7cf53_2 : decode cJ9_min_7cf53 2 = .ok (.if_icmp .gt 7, 3) := by decide +kernel
theorem dJ9_min_7cf53_5 : decode cJ9_min_7cf53 5 = .ok (.iload_n 0, 1) := by decide +kernel
theorem dJ9_min_7cf53_6 : decode cJ9_min_7cf53 6 = .ok (.goto 4, 3) := by decide +kernel
theorem dJ9_min_7cf53_9 : decode cJ9_min_7cf53 9 = .ok (.iload_n 1, 1) := by decide +kernel
theorem dJ9_min_7cf53_10 : decode cJ9_min_7cf53 10 = .ok (.ireturn, 1) := by decide +kernel
theorem dJ9_min_f86c9_0 : decode cJ9_min_f86c9 0 = .ok (.lload_n 0, 1) := by decide +kernel
theorem dJ9_min_f86c9_1 : decode cJ9_min_f86c9 1 = .ok (.lload_n 2, 1) := by decide +kernel
theorem dJ9_min_f86c9_2 : decode cJ9_min_f86c9 2 = .ok (.lcmp, 1) := by decide +kernel
theorem dJ9_min_f86c9_3 : decode cJ9_min_f86c9 3 = .ok (.ifCond .gt 7, 3) := by decide +kernel
theorem dJ9_min_f86c9_6 : decode cJ9_min_f86c9 6 = .ok (.lload_n 0, 1) := by decide +kernel
theorem dJ9_min_f86c9_7 : decode cJ9_min_f86c9 7 = .ok (.goto 4, 3) := by decide +kernel
theorem dJ9_min_f86c9_10 : decode cJ9_min_f86c9 10 = .ok (.lload_n 2, 1) := by decide +kernel
theorem dJ9_min_f86c9_11 : decode cJ9_min_f86c9 11 = .ok (.lreturn, 1) := by decide +kernel
theorem dJ9_min_eb370_0 : decode cJ9_min_eb370 0 = .ok (.dload_n 0, 1) := by decide +kernel
theorem dJ9_min_eb370_1 : decode cJ9_min_eb370 1 = .ok (.dload_n 0, 1) := by decide +kernel
theorem dJ9_min_eb370_2 : decode cJ9_min_eb370 2 = .ok (.dcmp .l, 1) := by decide +kernel
theorem dJ9_min_eb370_3 : decode cJ9_min_eb370 3 = .ok (.ifCond .eq 5, 3) := by decide +kernel
theorem dJ9_min_eb370_6 : decode cJ9_min_eb370 6 = .ok (.dload_n 0, 1) := by decide +kernel
theorem dJ9_min_eb370_7 : decode cJ9_min_eb370 7 = .ok (.dreturn, 1) := by decide +kernel
theorem dJ9_min_eb370_8 : decode cJ9_min_eb370 8 = .ok (.dload_n 0, 1) := by decide +kernel
theorem dJ9_min_eb370_9 : decode cJ9_min_eb370 9 = .ok (.dconst 0, 1) := by decide +kernel
theorem dJ9_min_eb370_10 : decode cJ9_min_eb370 10 = .ok (.dcmp .l, 1) := by decide +kernel
theorem dJ9_min_eb370_11 : decode cJ9_min_eb370 11 = .ok (.ifCond .ne 22, 3) := by decide +kernel
theorem dJ9_min_eb370_14 : decode cJ9_min_eb370 14 = .ok (.dload_n 2, 1) := by decide +kernel
theorem dJ9_min_eb370_15 : decode cJ9_min_eb370 15 = .ok (.dconst 0, 1) := by decide +kernel
theorem dJ9_min_eb370_16 : decode cJ9_min_eb370 16 = .ok (.dcmp .l, 1) := by decide +kernel
theorem dJ9_min_eb370_17 : decode cJ9_min_eb370 17 = .ok (.ifCond .ne 16, 3) := by decide +kernel
theorem dJ9_min_eb370_20 : decode cJ9_min_eb370 20 = .ok (.dload_n 2, 1) := by decide +kernel
theorem dJ9_min_eb370_21 : decode cJ9_min_eb370 21 = .ok (.invokestatic 79, 3) := by decide +kernel
theorem dJ9_min_eb370_24 : decode cJ9_min_eb370 24 = .ok (.getstatic 174, 3) := by decide +kernel
theorem dJ9_min_eb370_27 : decode cJ9_min_eb370 27 = .ok (.lcmp, 1) := by decide +kernel
theorem dJ9_min_eb370_28 : decode cJ9_min_eb370 28 = .ok (.ifCond .ne 5, 3) := by decide +kernel
theorem dJ9_min_eb370_31 : decode cJ9_min_eb370 31 = .ok (.dload_n 2, 1) := by decide +kernel
theorem dJ9_min_eb370_32 : decode cJ9_min_eb370 32 = .ok (.dreturn, 1) := by decide +kernel
theorem dJ9_min_eb370_33 : decode cJ9_min_eb370 33 = .ok (.dload_n 0, 1) := by decide +kernel
theorem dJ9_min_eb370_34 : decode cJ9_min_eb370 34 = .ok (.dload_n 2, 1) := by decide +kernel
theorem dJ9_min_eb370_35 : decode cJ9_min_eb370 35 = .ok (.dcmp .g, 1) := by decide +kernel
theorem dJ9_min_eb370_36 : decode cJ9_min_eb370 36 = .ok (.ifCond .gt 7, 3) := by decide +kernel
theorem dJ9_min_eb370_39 : decode cJ9_min_eb370 39 = .ok (.dload_n 0, 1) := by decide +kernel
theorem dJ9_min_eb370_40 : decode cJ9_min_eb370 40 = .ok (.goto 4, 3) := by decide +kernel
theorem dJ9_min_eb370_43 : decode cJ9_min_eb370 43 = .ok (.dload_n 2, 1) := by decide +kernel
theorem dJ9_min_eb370_44 : decode cJ9_min_eb370 44 = .ok (.dreturn, 1) := by decide +kernel
theorem dJ7_copyOf_c38d5_0 : decode cJ7_copyOf_c38d5 0 = .ok (.iload_n 1, 1) := by decide +kernel
theorem dJ7_copyOf_c38d5_1 : decode cJ7_copyOf_c38d5 1 = .ok (.aload_n 0, 1) := by decide +kernel
theorem dJ7_copyOf_c38d5_2 : decode cJ7_copyOf_c38d5 2 = .ok (.arraylength, 1) := by decide +kernel
theorem dJ7_copyOf_c38d5_3 : decode cJ7_copyOf_c38d5 3 = .ok (.if_icmp .ne 11, 3) := by decide +kernel
theorem dJ7_copyOf_c38d5_6 : decode cJ7_copyOf_c38d5 6 = .ok (.aload_n 0, 1) := by decide +kernel
theorem dJ7_copyOf_c38d5_7 : decode cJ7_copyOf_c38d5 7 = .ok (.invokevirtual 319, 3) := by decide +kernel
theorem dJ7_copyOf_c38d5_10 : decode cJ7_copyOf_c38d5 10 = .ok (.checkcast 320, 3) := by decide +kernel
theorem dJ7_copyOf_c38d5_13 : decode cJ7_copyOf_c38d5 13 = .ok (.areturn, 1) := by decide +kernel
theorem dJ7_copyOf_c38d5_14 : decode cJ7_copyOf_c38d5 14 = .ok (.iload_n 1, 1) := by decide +kernel
theorem dJ7_copyOf_c38d5_15 : decode cJ7_copyOf_c38d5 15 = .ok (.newarray .long, 2) := by decide +kernel
theorem dJ7_copyOf_c38d5_17 : decode cJ7_copyOf_c38d5 17 = .ok (.astore_n 2, 1) := by decide +kernel
theorem dJ7_copyOf_c38d5_18 : decode cJ7_copyOf_c38d5 18 = .ok (.aload_n 0, 1) := by decide +kernel
theorem dJ7_copyOf_c38d5_19 : decode cJ7_copyOf_c38d5 19 = .ok (.iconst 0, 1) := by decide +kernel
theorem dJ7_copyOf_c38d5_20 : decode cJ7_copyOf_c38d5 20 = .ok (.aload_n 2, 1) := by decide +kernel
theorem dJ7_copyOf_c38d5_21 : decode cJ7_copyOf_c38d5 21 = .ok (.iconst 0, 1) := by decide +kernel
theorem dJ7_copyOf_c38d5_22 : decode cJ7_copyOf_c38d5 22 = .ok (.aload_n 0, 1) := by decide +kernel
theorem dJ7_copyOf_c38d5_23 : decode cJ7_copyOf_c38d5 23 = .ok (.arraylength, 1) := by decide +kernel
theorem dJ7_copyOf_c38d5_24 : decode cJ7_copyOf_c38d5 24 = .ok (.iload_n 1, 1) := by decide +kernel
theorem dJ7_copyOf_c38d5_25 : decode cJ7_copyOf_c38d5 25 = .ok (.invokestatic 304, 3) := by decide +kernel
theorem dJ7_copyOf_c38d5_28 : decode cJ7_copyOf_c38d5 28 = .ok (.invokestatic 150, 3) := by decide +kernel
theorem dJ7_copyOf_c38d5_31 : decode cJ7_copyOf_c38d5 31 = .ok (.aload_n 2, 1) := by decide +kernel
theorem dJ7_copyOf_c38d5_32 : decode cJ7_copyOf_c38d5 32 = .ok (.areturn, 1) := by decide +kernel
