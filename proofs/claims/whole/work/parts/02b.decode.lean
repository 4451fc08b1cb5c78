theorem dX12_init_0 : decode cX12_init 0 = .ok (.aload_n 0, 1) := by decide +kernel
theorem dX12_init_1 : decode cX12_init 1 = .ok (.invokespecial 1, 3) := by decide +kernel
theorem dX12_init_4 : decode cX12_init 4 = .ok (.aload_n 0, 1) := by decide +kernel
theorem dX12_init_5 : decode cX12_init 5 = .ok (.new 7, 3) := by decide +kernel
theorem dX12_init_8 : decode cX12_init 8 = .ok (.dup, 1) := by decide +kernel
theorem dX12_init_9 : decode cX12_init 9 = .ok (.invokespecial 9, 3) := by decide +kernel
theorem dX12_init_12 : decode cX12_init 12 = .ok (.putfield 10, 3) := by decide +kernel
theorem dX12_init_15 : decode cX12_init 15 = .ok (.return_, 1) := by decide +kernel
theorem dX13_init_0 : decode cX13_init 0 = .ok (.aload_n 0, 1) := by decide +kernel
theorem dX13_init_1 : decode cX13_init 1 = .ok (.aconst_null, 1) := by decide +kernel
theorem dX13_init_2 : decode cX13_init 2 = .ok (.aconst_null, 1) := by decide +kernel
theorem dX13_init_3 : decode cX13_init 3 = .ok (.iconst 0, 1) := by decide +kernel
theorem dX13_init_4 : decode cX13_init 4 = .ok (.iconst 0, 1) := by decide +kernel
theorem dX13_init_5 : decode cX13_init 5 = .ok (.invokespecial 1, 3) := by decide +kernel
theorem dX13_init_8 : decode cX13_init 8 = .ok (.return_, 1) := by decide +kernel
theorem dX14_init_0 : decode cX14_init 0 = .ok (.aload_n 0, 1) := by decide +kernel
theorem dX14_init_1 : decode cX14_init 1 = .ok (.invokespecial 3, 3) := by decide +kernel
theorem dX14_init_4 : decode cX14_init 4 = .ok (.aload_n 0, 1) := by decide +kernel
theorem dX14_init_5 : decode cX14_init 5 = .ok (.sipush 192, 3) := by decide +kernel
theorem dX14_init_8 : decode cX14_init 8 = .ok (.newarray .int, 2) := by decide +kernel
theorem dX14_init_10 : decode cX14_init 10 = .ok (.putfield 9, 3) := by decide +kernel
theorem dX14_init_13 : decode cX14_init 13 = .ok (.aload_n 0, 1) := by decide +kernel
theorem dX14_init_14 : decode cX14_init 14 = .ok (.bipush 32, 2) := by decide +kernel
theorem dX14_init_16 : decode cX14_init 16 = .ok (.newarray .int, 2) := by decide +kernel
theorem dX14_init_18 : decode cX14_init 18 = .ok (.putfield 15, 3) := by decide +kernel
theorem dX14_init_21 : decode cX14_init 21 = .ok (.aload_n 0, 1) := by decide +kernel
theorem dX14_init_22 : decode cX14_init 22 = .ok (.bipush 32, 2) := by decide +kernel
theorem dX14_init_24 : decode cX14_init 24 = .ok (.newarray .int, 2) := by decide +kernel
theorem dX14_init_26 : decode cX14_init 26 = .ok (.putfield 18, 3) := by decide +kernel
theorem dX14_init_29 : decode cX14_init 29 = .ok (.aload_n 0, 1) := by decide +kernel
theorem dX14_init_30 : decode cX14_init 30 = .ok (.sipush 512, 3) := by decide +kernel
theorem dX14_init_33 : decode cX14_init 33 = .ok (.newarray .long, 2) := by decide +kernel
theorem dX14_init_35 : decode cX14_init 35 = .ok (.putfield 21, 3) := by decide +kernel
theorem dX14_init_38 : decode cX14_init 38 = .ok (.aload_n 0, 1) := by decide +kernel
theorem dX14_init_39 : decode cX14_init 39 = .ok (.bipush 32, 2) := by decide +kernel
theorem dX14_init_41 : decode cX14_init 41 = .ok (.newarray .long, 2) := by decide +kernel
theorem dX14_init_43 : decode cX14_init 43 = .ok (.putfield 25, 3) := by decide +kernel
theorem dX14_init_46 : decode cX14_init 46 = .ok (.aload_n 0, 1) := by decide +kernel
theorem dX14_init_47 : decode cX14_init 47 = .ok (.bipush 32, 2) := by decide +kernel
theorem dX14_init_49 : decode cX14_init 49 = .ok (.newarray .double, 2) := by decide +kernel
theorem dX14_init_51 : decode cX14_init 51 = .ok (.putfield 28, 3) := by decide +kernel
theorem dX14_init_54 : decode cX14_init 54 = .ok (.return_, 1) := by decide +kernel
theorem dX14_find_0 : decode cX14_find 0 = .ok (.iconst 0, 1) := by decide +kernel
theorem dX14_find_1 : decode cX14_find 1 = .ok (.istore_n 3, 1) := by decide +kernel
theorem dX14_find_2 : decode cX14_find 2 = .ok (.iload_n 3, 1) := by decide +kernel
theorem dX14_find_3 : decode cX14_find 3 = .ok (.aload_n 0, 1) := by decide +kernel
theorem dX14_find_4 : decode cX14_find 4 = .ok (.getfield 32, 3) := by decide +kernel
theorem dX14_find_7 : decode cX14_find 7 = .ok (.if_icmp .ge 70, 3) := by decide +kernel
theorem dX14_find_10 : decode cX14_find 10 = .ok (.iconst 1, 1) := by decide +kernel
theorem dX14_find_11 : decode cX14_find 11 = .ok (.istore 4, 2) := by decide +kernel
theorem dX14_find_13 : decode cX14_find 13 = .ok (.iconst 0, 1) := by decide +kernel
theorem dX14_find_14 : decode cX14_find 14 = .ok (.istore 5, 2) := by decide +kernel
theorem dX14_find_16 : decode cX14_find 16 = .ok (.iload 5, 2) := by decide +kernel
theorem dX14_find_18 : decode cX14_find 18 = .ok (.aload_n 0, 1) := by decide +kernel
theorem dX14_find_19 : decode cX14_find 19 = .ok (.getfield 36, 3) := by decide +kernel
theorem dX14_find_22 : decode cX14_find 22 = .ok (.if_icmp .ge 42, 3) := by decide +kernel
theorem dX14_find_25 : decode cX14_find 25 = .ok (.iload 4, 2) := by decide +kernel
theorem dX14_find_27 : decode cX14_find 27 = .ok (.ifCond .eq 37, 3) := by decide +kernel
theorem dX14_find_30 : decode cX14_find 30 = .ok (.aload_n 0, 1) := by decide +kernel
theorem dX14_find_31 : decode cX14_find 31 = .ok (.getfield 9, 3) := by decide +kernel
theorem dX14_find_34 : decode cX14_find 34 = .ok (.bipush 6, 2) := by decide +kernel
theorem dX14_find_36 : decode cX14_find 36 = .ok (.iload_n 3, 1) := by decide +kernel
theorem dX14_find_37 : decode cX14_find 37 = .ok (.imul, 1) := by decide +kernel
theorem dX14_find_38 : decode cX14_find 38 = .ok (.iload 5, 2) := by decide +kernel
theorem dX14_find_40 : decode cX14_find 40 = .ok (.iadd, 1) := by decide +kernel
theorem dX14_find_41 : decode cX14_find 41 = .ok (.iaload, 1) := by decide +kernel
theorem dX14_find_42 : decode cX14_find 42 = .ok (.aload_n 1, 1) := by decide +kernel
theorem dX14_find_43 : decode cX14_find 43 = .ok (.iload_n 2, 1) := by decide +kernel
theorem dX14_find_44 : decode cX14_find 44 = .ok (.iload 5, 2) := by decide +kernel
theorem dX14_find_46 : decode cX14_find 46 = .ok (.iadd, 1) := by decide +kernel
theorem dX14_find_47 : decode cX14_find 47 = .ok (.iaload, 1) := by decide +kernel
theorem dX14_find_48 : decode cX14_find 48 = .ok (.if_icmp .ne 7, 3) := by decide +kernel
theorem dX14_find_51 : decode cX14_find 51 = .ok (.iconst 1, 1) := by decide +kernel
theorem dX14_find_52 : decode cX14_find 52 = .ok (.goto 4, 3) := by decide +kernel
theorem dX14_find_55 : decode cX14_find 55 = .ok (.iconst 0, 1) := by decide +kernel
theorem dX14_find_56 : decode cX14_find 56 = .ok (.istore 4, 2) := by decide +kernel
theorem dX14_find_58 : decode cX14_find 58 = .ok (.iinc 5 1, 3) := by decide +kernel
theorem dX14_find_61 : decode cX14_find 61 = .ok (.goto (-45), 3) := by decide +kernel
theorem dX14_find_64 : decode cX14_find 64 = .ok (.iload 4, 2) := by decide +kernel
theorem dX14_find_66 : decode cX14_find 66 = .ok (.ifCond .eq 5, 3) := by decide +kernel
theorem dX14_find_69 : decode cX14_find 69 = .ok (.iload_n 3, 1) := by decide +kernel
theorem dX14_find_70 : decode cX14_find 70 = .ok (.ireturn, 1) := by decide +kernel
theorem dX14_find_71 : decode cX14_find 71 = .ok (.iinc 3 1, 3) := by decide +kernel
theorem dX14_find_74 : decode cX14_find 74 = .ok (.goto (-72), 3) := by decide +kernel
theorem dX14_find_77 : decode cX14_find 77 = .ok (.iconst (-1), 1) := by decide +kernel
theorem dX14_find_78 : decode cX14_find 78 = .ok (.ireturn, 1) := by decide +kernel
theorem dX15_init_0 : decode cX15_init 0 = .ok (.aload_n 0, 1) := by decide +kernel
theorem dX15_init_1 : decode cX15_init 1 = .ok (.invokespecial 3, 3) := by decide +kernel
theorem dX15_init_4 : decode cX15_init 4 = .ok (.aload_n 0, 1) := by decide +kernel
theorem dX15_init_5 : decode cX15_init 5 = .ok (.bipush 6, 2) := by decide +kernel
theorem dX15_init_7 : decode cX15_init 7 = .ok (.newarray .int, 2) := by decide +kernel
theorem dX15_init_9 : decode cX15_init 9 = .ok (.putfield 9, 3) := by decide +kernel
theorem dX15_init_12 : decode cX15_init 12 = .ok (.aload_n 0, 1) := by decide +kernel
theorem dX15_init_13 : decode cX15_init 13 = .ok (.bipush 16, 2) := by decide +kernel
theorem dX15_init_15 : decode cX15_init 15 = .ok (.newarray .long, 2) := by decide +kernel
theorem dX15_init_17 : decode cX15_init 17 = .ok (.putfield 15, 3) := by decide +kernel
theorem dX15_init_20 : decode cX15_init 20 = .ok (.return_, 1) := by decide +kernel
theorem dX15_become_0 : decode cX15_become 0 = .ok (.aload_n 0, 1) := by decide +kernel
theorem dX15_become_1 : decode cX15_become 1 = .ok (.aload_n 1, 1) := by decide +kernel
theorem dX15_become_2 : decode cX15_become 2 = .ok (.getfield 19, 3) := by decide +kernel
theorem dX15_become_5 : decode cX15_become 5 = .ok (.putfield 19, 3) := by decide +kernel
theorem dX15_become_8 : decode cX15_become 8 = .ok (.aload_n 0, 1) := by decide +kernel
theorem dX15_become_9 : decode cX15_become 9 = .ok (.aload_n 1, 1) := by decide +kernel
theorem dX15_become_10 : decode cX15_become 10 = .ok (.getfield 23, 3) := by decide +kernel
theorem dX15_become_13 : decode cX15_become 13 = .ok (.putfield 23, 3) := by decide +kernel
theorem dX15_become_16 : decode cX15_become 16 = .ok (.aload_n 0, 1) := by decide +kernel
theorem dX15_become_17 : decode cX15_become 17 = .ok (.aload_n 1, 1) := by decide +kernel
theorem dX15_become_18 : decode cX15_become 18 = .ok (.getfield 26, 3) := by decide +kernel
theorem dX15_become_21 : decode cX15_become 21 = .ok (.putfield 26, 3) := by decide +kernel
theorem dX15_become_24 : decode cX15_become 24 = .ok (.iconst 0, 1) := by decide +kernel
theorem dX15_become_25 : decode cX15_become 25 = .ok (.istore_n 2, 1) := by decide +kernel
theorem dX15_become_26 : decode cX15_become 26 = .ok (.iload_n 2, 1) := by decide +kernel
theorem dX15_become_27 : decode cX15_become 27 = .ok (.bipush 6, 2) := by decide +kernel
theorem dX15_become_29 : decode cX15_become 29 = .ok (.if_icmp .ge 21, 3) := by decide +kernel
theorem dX15_become_32 : decode cX15_become 32 = .ok (.aload_n 0, 1) := by decide +kernel
theorem dX15_become_33 : decode cX15_become 33 = .ok (.getfield 9, 3) := by decide +kernel
theorem dX15_become_36 : decode cX15_become 36 = .ok (.iload_n 2, 1) := by decide +kernel
theorem dX15_become_37 : decode cX15_become 37 = .ok (.aload_n 1, 1) := by decide +kernel
theorem dX15_become_38 : decode cX15_become 38 = .ok (.getfield 9, 3) := by decide +kernel
theorem dX15_become_41 : decode cX15_become 41 = .ok (.iload_n 2, 1) := by decide +kernel
theorem dX15_become_42 : decode cX15_become 42 = .ok (.iaload, 1) := by decide +kernel
theorem dX15_become_43 : decode cX15_become 43 = .ok (.iastore, 1) := by decide +kernel
theorem dX15_become_44 : decode cX15_become 44 = .ok (.iinc 2 1, 3) := by decide +kernel
theorem dX15_become_47 : decode cX15_become 47 = .ok (.goto (-21), 3) := by decide +kernel
theorem dX15_become_50 : decode cX15_become 50 = .ok (.iconst 0, 1) := by decide +kernel
theorem dX15_become_51 : decode cX15_become 51 = .ok (.istore_n 2, 1) := by decide +kernel
theorem dX15_become_52 : decode cX15_become 52 = .ok (.iload_n 2, 1) := by decide +kernel
theorem dX15_become_53 : decode cX15_become 53 = .ok (.bipush 16, 2) := by decide +kernel
theorem dX15_become_55 : decode cX15_become 55 = .ok (.if_icmp .ge 21, 3) := by decide +kernel
theorem dX15_become_58 : decode cX15_become 58 = .ok (.aload_n 0, 1) := by decide +kernel
theorem dX15_become_59 : decode cX15_become 59 = .ok (.getfield 15, 3) := by decide +kernel
theorem dX15_become_62 : decode cX15_become 62 = .ok (.iload_n 2, 1) := by decide +kernel
theorem dX15_become_63 : decode cX15_become 63 = .ok (.aload_n 1, 1) := by decide +kernel
theorem dX15_become_64 : decode cX15_become 64 = .ok (.getfield 15, 3) := by decide +kernel
theorem dX15_become_67 : decode cX15_become 67 = .ok (.iload_n 2, 1) := by decide +kernel
theorem dX15_become_68 : decode cX15_become 68 = .ok (.laload, 1) := by decide +kernel
theorem dX15_become_69 : decode cX15_become 69 = .ok (.lastore, 1) := by decide +kernel
theorem dX15_become_70 : decode cX15_become 70 = .ok (.iinc 2 1, 3) := by decide +kernel
theorem dX15_become_73 : decode cX15_become 73 = .ok (.goto (-21), 3) := by decide +kernel
theorem dX15_become_76 : decode cX15_become 76 = .ok (.return_, 1) := by decide +kernel
theorem dX16_refused_0 : decode cX16_refused 0 = .ok (.aload_n 0, 1) := by decide +kernel
theorem dX16_refused_1 : decode cX16_refused 1 = .ok (.iload_n 1, 1) := by decide +kernel
theorem dX16_refused_2 : decode cX16_refused 2 = .ok (.putfield 7, 3) := by decide +kernel
theorem dX16_refused_5 : decode cX16_refused 5 = .ok (.iconst (-1), 1) := by decide +kernel
theorem dX16_refused_6 : decode cX16_refused 6 = .ok (.ireturn, 1) := by decide +kernel
theorem dX16_done_0 : decode cX16_done 0 = .ok (.aload_n 0, 1) := by decide +kernel
theorem dX16_done_1 : decode cX16_done 1 = .ok (.iconst 0, 1) := by decide +kernel
theorem dX16_done_2 : decode cX16_done 2 = .ok (.putfield 7, 3) := by decide +kernel
theorem dX16_done_5 : decode cX16_done 5 = .ok (.iload_n 1, 1) := by decide +kernel
theorem dX16_done_6 : decode cX16_done 6 = .ok (.ireturn, 1) := by decide +kernel
theorem dX16_act_0 : decode cX16_act 0 = .ok (.aload_n 0, 1) := by decide +kernel
theorem dX16_act_1 : decode cX16_act 1 = .ok (.getfield 10, 3) := by decide +kernel
theorem dX16_act_4 : decode cX16_act 4 = .ok (.bipush 100, 2) := by decide +kernel
theorem dX16_act_6 : decode cX16_act 6 = .ok (.if_icmp .ne 62, 3) := by decide +kernel
theorem dX16_act_9 : decode cX16_act 9 = .ok (.aload_n 0, 1) := by decide +kernel
theorem dX16_act_10 : decode cX16_act 10 = .ok (.getfield 13, 3) := by decide +kernel
theorem dX16_act_13 : decode cX16_act 13 = .ok (.iconst 0, 1) := by decide +kernel
theorem dX16_act_14 : decode cX16_act 14 = .ok (.aaload, 1) := by decide +kernel
theorem dX16_act_15 : decode cX16_act 15 = .ok (.astore 4, 2) := by decide +kernel
theorem dX16_act_17 : decode cX16_act 17 = .ok (.iconst 1, 1) := by decide +kernel
theorem dX16_act_18 : decode cX16_act 18 = .ok (.istore 5, 2) := by decide +kernel
theorem dX16_act_20 : decode cX16_act 20 = .ok (.iload 5, 2) := by decide +kernel
theorem dX16_act_22 : decode cX16_act 22 = .ok (.bipush 100, 2) := by decide +kernel
theorem dX16_act_24 : decode cX16_act 24 = .ok (.if_icmp .ge 25, 3) := by decide +kernel
theorem dX16_act_27 : decode cX16_act 27 = .ok (.aload_n 0, 1) := by decide +kernel
theorem dX16_act_28 : decode cX16_act 28 = .ok (.getfield 13, 3) := by decide +kernel
theorem dX16_act_31 : decode cX16_act 31 = .ok (.iload 5, 2) := by decide +kernel
theorem dX16_act_33 : decode cX16_act 33 = .ok (.iconst 1, 1) := by decide +kernel
theorem dX16_act_34 : decode cX16_act 34 = .ok (.isub, 1) := by decide +kernel
theorem dX16_act_35 : decode cX16_act 35 = .ok (.aload_n 0, 1) := by decide +kernel
theorem dX16_act_36 : decode cX16_act 36 = .ok (.getfield 13, 3) := by decide +kernel
theorem dX16_act_39 : decode cX16_act 39 = .ok (.iload 5, 2) := by decide +kernel
theorem dX16_act_41 : decode cX16_act 41 = .ok (.aaload, 1) := by decide +kernel
theorem dX16_act_42 : decode cX16_act 42 = .ok (.aastore, 1) := by decide +kernel
theorem dX16_act_43 : decode cX16_act 43 = .ok (.iinc 5 1, 3) := by decide +kernel
theorem dX16_act_46 : decode cX16_act 46 = .ok (.goto (-26), 3) := by decide +kernel
theorem dX16_act_49 : decode cX16_act 49 = .ok (.aload_n 0, 1) := by decide +kernel
theorem dX16_act_50 : decode cX16_act 50 = .ok (.getfield 13, 3) := by decide +kernel
theorem dX16_act_53 : decode cX16_act 53 = .ok (.bipush 99, 2) := by decide +kernel
theorem dX16_act_55 : decode cX16_act 55 = .ok (.aload 4, 2) := by decide +kernel
theorem dX16_act_57 : decode cX16_act 57 = .ok (.aastore, 1) := by decide +kernel
theorem dX16_act_58 : decode cX16_act 58 = .ok (.aload_n 0, 1) := by decide +kernel
theorem dX16_act_59 : decode cX16_act 59 = .ok (.dup, 1) := by decide +kernel
theorem dX16_act_60 : decode cX16_act 60 = .ok (.getfield 10, 3) := by decide +kernel
theorem dX16_act_63 : decode cX16_act 63 = .ok (.iconst 1, 1) := by decide +kernel
theorem dX16_act_64 : decode cX16_act 64 = .ok (.isub, 1) := by decide +kernel
theorem dX16_act_65 : decode cX16_act 65 = .ok (.putfield 10, 3) := by decide +kernel
theorem dX16_act_68 : decode cX16_act 68 = .ok (.aload_n 0, 1) := by decide +kernel
theorem dX16_act_69 : decode cX16_act 69 = .ok (.getfield 13, 3) := by decide +kernel
theorem dX16_act_72 : decode cX16_act 72 = .ok (.aload_n 0, 1) := by decide +kernel
theorem dX16_act_73 : decode cX16_act 73 = .ok (.getfield 10, 3) := by decide +kernel
theorem dX16_act_76 : decode cX16_act 76 = .ok (.aaload, 1) := by decide +kernel
theorem dX16_act_77 : decode cX16_act 77 = .ok (.astore 4, 2) := by decide +kernel
theorem dX16_act_79 : decode cX16_act 79 = .ok (.aload_n 0, 1) := by decide +kernel
theorem dX16_act_80 : decode cX16_act 80 = .ok (.dup, 1) := by decide +kernel
theorem dX16_act_81 : decode cX16_act 81 = .ok (.getfield 10, 3) := by decide +kernel
theorem dX16_act_84 : decode cX16_act 84 = .ok (.iconst 1, 1) := by decide +kernel
theorem dX16_act_85 : decode cX16_act 85 = .ok (.iadd, 1) := by decide +kernel
theorem dX16_act_86 : decode cX16_act 86 = .ok (.putfield 10, 3) := by decide +kernel
theorem dX16_act_89 : decode cX16_act 89 = .ok (.aload 4, 2) := by decide +kernel
theorem dX16_act_91 : decode cX16_act 91 = .ok (.iload_n 1, 1) := by decide +kernel
theorem dX16_act_92 : decode cX16_act 92 = .ok (.putfield 17, 3) := by decide +kernel
theorem dX16_act_95 : decode cX16_act 95 = .ok (.aload 4, 2) := by decide +kernel
theorem dX16_act_97 : decode cX16_act 97 = .ok (.iload_n 2, 1) := by decide +kernel
theorem dX16_act_98 : decode cX16_act 98 = .ok (.putfield 22, 3) := by decide +kernel
theorem dX16_act_101 : decode cX16_act 101 = .ok (.aload 4, 2) := by decide +kernel
theorem dX16_act_103 : decode cX16_act 103 = .ok (.iload_n 3, 1) := by decide +kernel
theorem dX16_act_104 : decode cX16_act 104 = .ok (.putfield 25, 3) := by decide +kernel
theorem dX16_act_107 : decode cX16_act 107 = .ok (.aload 4, 2) := by decide +kernel
theorem dX16_act_109 : decode cX16_act 109 = .ok (.areturn, 1) := by decide +kernel
theorem dX16_undo_0 : decode cX16_undo 0 = .ok (.aload_n 0, 1) := by decide +kernel
theorem dX16_undo_1 : decode cX16_undo 1 = .ok (.iconst 0, 1) := by decide +kernel
theorem dX16_undo_2 : decode cX16_undo 2 = .ok (.putfield 1, 3) := by decide +kernel
theorem dX16_undo_5 : decode cX16_undo 5 = .ok (.aload_n 0, 1) := by decide +kernel
theorem dX16_undo_6 : decode cX16_undo 6 = .ok (.getfield 10, 3) := by decide +kernel
theorem dX16_undo_9 : decode cX16_undo 9 = .ok (.ifCond .ne 5, 3) := by decide +kernel
theorem dX16_undo_12 : decode cX16_undo 12 = .ok (.iconst 0, 1) := by decide +kernel
theorem dX16_undo_13 : decode cX16_undo 13 = .ok (.ireturn, 1) := by decide +kernel
theorem dX16_undo_14 : decode cX16_undo 14 = .ok (.aload_n 0, 1) := by decide +kernel
theorem dX16_undo_15 : decode cX16_undo 15 = .ok (.dup, 1) := by decide +kernel
theorem dX16_undo_16 : decode cX16_undo 16 = .ok (.getfield 10, 3) := by decide +kernel
theorem dX16_undo_19 : decode cX16_undo 19 = .ok (.iconst 1, 1) := by decide +kernel
theorem dX16_undo_20 : decode cX16_undo 20 = .ok (.isub, 1) := by decide +kernel
theorem dX16_undo_21 : decode cX16_undo 21 = .ok (.putfield 10, 3) := by decide +kernel
theorem dX16_undo_24 : decode cX16_undo 24 = .ok (.aload_n 0, 1) := by decide +kernel
theorem dX16_undo_25 : decode cX16_undo 25 = .ok (.getfield 13, 3) := by decide +kernel
theorem dX16_undo_28 : decode cX16_undo 28 = .ok (.aload_n 0, 1) := by decide +kernel
theorem dX16_undo_29 : decode cX16_undo 29 = .ok (.getfield 10, 3) := by decide +kernel
theorem dX16_undo_32 : decode cX16_undo 32 = .ok (.aaload, 1) := by decide +kernel
theorem dX16_undo_33 : decode cX16_undo 33 = .ok (.astore_n 1, 1) := by decide +kernel
theorem dX16_undo_34 : decode cX16_undo 34 = .ok (.aload_n 1, 1) := by decide +kernel
theorem dX16_undo_35 : decode cX16_undo 35 = .ok (.getfield 17, 3) := by decide +kernel
theorem dX16_undo_38 : decode cX16_undo 38 = .ok (.tableswitch 133 0 4 #[34, 55, 76, 101, 120], 34) := by decide +kernel
theorem dX16_undo_72 : decode cX16_undo 72 = .ok (.aload_n 0, 1) := by decide +kernel
theorem dX16_undo_73 : decode cX16_undo 73 = .ok (.dup, 1) := by decide +kernel
theorem dX16_undo_74 : decode cX16_undo 74 = .ok (.getfield 28, 3) := by decide +kernel
theorem dX16_undo_77 : decode cX16_undo 77 = .ok (.iconst 1, 1) := by decide +kernel
theorem dX16_undo_78 : decode cX16_undo 78 = .ok (.isub, 1) := by decide +kernel
theorem dX16_undo_79 : decode cX16_undo 79 = .ok (.putfield 28, 3) := by decide +kernel
theorem dX16_undo_82 : decode cX16_undo 82 = .ok (.aload_n 0, 1) := by decide +kernel
theorem dX16_undo_83 : decode cX16_undo 83 = .ok (.getfield 31, 3) := by decide +kernel
theorem dX16_undo_86 : decode cX16_undo 86 = .ok (.iconst 0, 1) := by decide +kernel
theorem dX16_undo_87 : decode cX16_undo 87 = .ok (.putfield 35, 3) := by decide +kernel
theorem dX16_undo_90 : decode cX16_undo 90 = .ok (.goto 97, 3) := by decide +kernel
theorem dX16_undo_93 : decode cX16_undo 93 = .ok (.aload_n 0, 1) := by decide +kernel
theorem dX16_undo_94 : decode cX16_undo 94 = .ok (.dup, 1) := by decide +kernel
theorem dX16_undo_95 : decode cX16_undo 95 = .ok (.getfield 40, 3) := by decide +kernel
theorem dX16_undo_98 : decode cX16_undo 98 = .ok (.iconst 1, 1) := by decide +kernel
theorem dX16_undo_99 : decode cX16_undo 99 = .ok (.isub, 1) := by decide +kernel
theorem dX16_undo_100 : decode cX16_undo 100 = .ok (.putfield 40, 3) := by decide +kernel
theorem dX16_undo_103 : decode cX16_undo 103 = .ok (.aload_n 0, 1) := by decide +kernel
theorem dX16_undo_104 : decode cX16_undo 104 = .ok (.getfield 31, 3) := by decide +kernel
theorem dX16_undo_107 : decode cX16_undo 107 = .ok (.iconst 0, 1) := by decide +kernel
theorem dX16_undo_108 : decode cX16_undo 108 = .ok (.putfield 35, 3) := by decide +kernel
theorem dX16_undo_111 : decode cX16_undo 111 = .ok (.goto 76, 3) := by decide +kernel
theorem dX16_undo_114 : decode cX16_undo 114 = .ok (.aload_n 0, 1) := by decide +kernel
theorem dX16_undo_115 : decode cX16_undo 115 = .ok (.getfield 43, 3) := by decide +kernel
theorem dX16_undo_118 : decode cX16_undo 118 = .ok (.aload_n 1, 1) := by decide +kernel
theorem dX16_undo_119 : decode cX16_undo 119 = .ok (.getfield 22, 3) := by decide +kernel
theorem dX16_undo_122 : decode cX16_undo 122 = .ok (.aload_n 1, 1) := by decide +kernel
theorem dX16_undo_123 : decode cX16_undo 123 = .ok (.getfield 25, 3) := by decide +kernel
theorem dX16_undo_126 : decode cX16_undo 126 = .ok (.iconst 1, 1) := by decide +kernel
theorem dX16_undo_127 : decode cX16_undo 127 = .ok (.if_icmp .ne 7, 3) := by decide +kernel
theorem dX16_undo_130 : decode cX16_undo 130 = .ok (.iconst 1, 1) := by decide +kernel
theorem dX16_undo_131 : decode cX16_undo 131 = .ok (.goto 4, 3) := by decide +kernel
theorem dX16_undo_134 : decode cX16_undo 134 = .ok (.iconst 0, 1) := by decide +kernel
theorem dX16_undo_135 : decode cX16_undo 135 = .ok (.bastore, 1) := by decide +kernel
theorem dX16_undo_136 : decode cX16_undo 136 = .ok (.goto 51, 3) := by decide +kernel
theorem dX16_undo_139 : decode cX16_undo 139 = .ok (.aload_n 0, 1) := by decide +kernel
theorem dX16_undo_140 : decode cX16_undo 140 = .ok (.aload_n 1, 1) := by decide +kernel
theorem dX16_undo_141 : decode cX16_undo 141 = .ok (.getfield 22, 3) := by decide +kernel
theorem dX16_undo_144 : decode cX16_undo 144 = .ok (.aload_n 1, 1) := by decide +kernel
theorem dX16_undo_145 : decode cX16_undo 145 = .ok (.getfield 25, 3) := by decide +kernel
theorem dX16_undo_148 : decode cX16_undo 148 = .ok (.aload_n 1, 1) := by decide +kernel
theorem dX16_undo_149 : decode cX16_undo 149 = .ok (.getfield 47, 3) := by decide +kernel
theorem dX16_undo_152 : decode cX16_undo 152 = .ok (.invokevirtual 51, 3) := by decide +kernel
theorem dX16_undo_155 : decode cX16_undo 155 = .ok (.goto 32, 3) := by decide +kernel
theorem dX16_undo_158 : decode cX16_undo 158 = .ok (.aload_n 0, 1) := by decide +kernel
theorem dX16_undo_159 : decode cX16_undo 159 = .ok (.dup, 1) := by decide +kernel
theorem dX16_undo_160 : decode cX16_undo 160 = .ok (.getfield 55, 3) := by decide +kernel
theorem dX16_undo_163 : decode cX16_undo 163 = .ok (.iconst 1, 1) := by decide +kernel
theorem dX16_undo_164 : decode cX16_undo 164 = .ok (.isub, 1) := by decide +kernel
theorem dX16_undo_165 : decode cX16_undo 165 = .ok (.putfield 55, 3) := by decide +kernel
theorem dX16_undo_168 : decode cX16_undo 168 = .ok (.goto 19, 3) := by decide +kernel
theorem dX16_undo_171 : decode cX16_undo 171 = .ok (.aload_n 0, 1) := by decide +kernel
theorem dX16_undo_172 : decode cX16_undo 172 = .ok (.getfield 58, 3) := by decide +kernel
theorem dX16_undo_175 : decode cX16_undo 175 = .ok (.aload_n 1, 1) := by decide +kernel
theorem dX16_undo_176 : decode cX16_undo 176 = .ok (.getfield 22, 3) := by decide +kernel
theorem dX16_undo_179 : decode cX16_undo 179 = .ok (.aaload, 1) := by decide +kernel
theorem dX16_undo_180 : decode cX16_undo 180 = .ok (.aload_n 1, 1) := by decide +kernel
theorem dX16_undo_181 : decode cX16_undo 181 = .ok (.getfield 62, 3) := by decide +kernel
theorem dX16_undo_184 : decode cX16_undo 184 = .ok (.invokevirtual 66, 3) := by decide +kernel
theorem dX16_undo_187 : decode cX16_undo 187 = .ok (.iconst 1, 1) := by decide +kernel
theorem dX16_undo_188 : decode cX16_undo 188 = .ok (.ireturn, 1) := by decide +kernel
theorem dX16_table_0 : decode cX16_table 0 = .ok (.aload_n 0, 1) := by decide +kernel
theorem dX16_table_1 : decode cX16_table 1 = .ok (.iconst 0, 1) := by decide +kernel
theorem dX16_table_2 : decode cX16_table 2 = .ok (.putfield 1, 3) := by decide +kernel
theorem dX16_table_5 : decode cX16_table 5 = .ok (.iload_n 1, 1) := by decide +kernel
theorem dX16_table_6 : decode cX16_table 6 = .ok (.iconst 1, 1) := by decide +kernel
theorem dX16_table_7 : decode cX16_table 7 = .ok (.if_icmp .lt 8, 3) := by decide +kernel
theorem dX16_table_10 : decode cX16_table 10 = .ok (.iload_n 1, 1) := by decide +kernel
theorem dX16_table_11 : decode cX16_table 11 = .ok (.iconst 4, 1) := by decide +kernel
theorem dX16_table_12 : decode cX16_table 12 = .ok (.if_icmp .le 9, 3) := by decide +kernel
theorem dX16_table_15 : decode cX16_table 15 = .ok (.aload_n 0, 1) := by decide +kernel
theorem dX16_table_16 : decode cX16_table 16 = .ok (.iconst 2, 1) := by decide +kernel
theorem dX16_table_17 : decode cX16_table 17 = .ok (.invokevirtual 72, 3) := by decide +kernel
theorem dX16_table_20 : decode cX16_table 20 = .ok (.ireturn, 1) := by decide +kernel
theorem dX16_table_21 : decode cX16_table 21 = .ok (.aload_n 0, 1) := by decide +kernel
theorem dX16_table_22 : decode cX16_table 22 = .ok (.getfield 28, 3) := by decide +kernel
theorem dX16_table_25 : decode cX16_table 25 = .ok (.bipush 10, 2) := by decide +kernel
theorem dX16_table_27 : decode cX16_table 27 = .ok (.if_icmp .ne 9, 3) := by decide +kernel
theorem dX16_table_30 : decode cX16_table 30 = .ok (.aload_n 0, 1) := by decide +kernel
theorem dX16_table_31 : decode cX16_table 31 = .ok (.iconst 4, 1) := by decide +kernel
theorem dX16_table_32 : decode cX16_table 32 = .ok (.invokevirtual 72, 3) := by decide +kernel
theorem dX16_table_35 : decode cX16_table 35 = .ok (.ireturn, 1) := by decide +kernel
theorem dX16_table_36 : decode cX16_table 36 = .ok (.aload_n 0, 1) := by decide +kernel
theorem dX16_table_37 : decode cX16_table 37 = .ok (.getfield 76, 3) := by decide +kernel
theorem dX16_table_40 : decode cX16_table 40 = .ok (.aload_n 0, 1) := by decide +kernel
theorem dX16_table_41 : decode cX16_table 41 = .ok (.getfield 28, 3) := by decide +kernel
theorem dX16_table_44 : decode cX16_table 44 = .ok (.iload_n 1, 1) := by decide +kernel
theorem dX16_table_45 : decode cX16_table 45 = .ok (.iastore, 1) := by decide +kernel
theorem dX16_table_46 : decode cX16_table 46 = .ok (.aload_n 0, 1) := by decide +kernel
theorem dX16_table_47 : decode cX16_table 47 = .ok (.iconst 0, 1) := by decide +kernel
theorem dX16_table_48 : decode cX16_table 48 = .ok (.aload_n 0, 1) := by decide +kernel
theorem dX16_table_49 : decode cX16_table 49 = .ok (.getfield 28, 3) := by decide +kernel
theorem dX16_table_52 : decode cX16_table 52 = .ok (.iconst 0, 1) := by decide +kernel
theorem dX16_table_53 : decode cX16_table 53 = .ok (.invokevirtual 80, 3) := by decide +kernel
theorem dX16_table_56 : decode cX16_table 56 = .ok (.pop, 1) := by decide +kernel
theorem dX16_table_57 : decode cX16_table 57 = .ok (.aload_n 0, 1) := by decide +kernel
theorem dX16_table_58 : decode cX16_table 58 = .ok (.dup, 1) := by decide +kernel
theorem dX16_table_59 : decode cX16_table 59 = .ok (.getfield 28, 3) := by decide +kernel
theorem dX16_table_62 : decode cX16_table 62 = .ok (.iconst 1, 1) := by decide +kernel
theorem dX16_table_63 : decode cX16_table 63 = .ok (.iadd, 1) := by decide +kernel
theorem dX16_table_64 : decode cX16_table 64 = .ok (.putfield 28, 3) := by decide +kernel
theorem dX16_table_67 : decode cX16_table 67 = .ok (.aload_n 0, 1) := by decide +kernel
theorem dX16_table_68 : decode cX16_table 68 = .ok (.aload_n 0, 1) := by decide +kernel
theorem dX16_table_69 : decode cX16_table 69 = .ok (.getfield 28, 3) := by decide +kernel
theorem dX16_table_72 : decode cX16_table 72 = .ok (.iconst 1, 1) := by decide +kernel
theorem dX16_table_73 : decode cX16_table 73 = .ok (.isub, 1) := by decide +kernel
theorem dX16_table_74 : decode cX16_table 74 = .ok (.invokevirtual 84, 3) := by decide +kernel
theorem dX16_table_77 : decode cX16_table 77 = .ok (.ireturn, 1) := by decide +kernel
theorem dX16_isTable_0 : decode cX16_isTable 0 = .ok (.iload_n 1, 1) := by decide +kernel
theorem dX16_isTable_1 : decode cX16_isTable 1 = .ok (.ifCond .lt 15, 3) := by decide +kernel
theorem dX16_isTable_4 : decode cX16_isTable 4 = .ok (.iload_n 1, 1) := by decide +kernel
theorem dX16_isTable_5 : decode cX16_isTable 5 = .ok (.aload_n 0, 1) := by decide +kernel
theorem dX16_isTable_6 : decode cX16_isTable 6 = .ok (.getfield 28, 3) := by decide +kernel
theorem dX16_isTable_9 : decode cX16_isTable 9 = .ok (.if_icmp .ge 7, 3) := by decide +kernel
theorem dX16_isTable_12 : decode cX16_isTable 12 = .ok (.iconst 1, 1) := by decide +kernel
theorem dX16_isTable_13 : decode cX16_isTable 13 = .ok (.goto 4, 3) := by decide +kernel
theorem dX16_isTable_16 : decode cX16_isTable 16 = .ok (.iconst 0, 1) := by decide +kernel
theorem dX16_isTable_17 : decode cX16_isTable 17 = .ok (.ireturn, 1) := by decide +kernel
theorem dX16_isFact_0 : decode cX16_isFact 0 = .ok (.iload_n 1, 1) := by decide +kernel
theorem dX16_isFact_1 : decode cX16_isFact 1 = .ok (.ifCond .lt 15, 3) := by decide +kernel
theorem dX16_isFact_4 : decode cX16_isFact 4 = .ok (.iload_n 1, 1) := by decide +kernel
theorem dX16_isFact_5 : decode cX16_isFact 5 = .ok (.aload_n 0, 1) := by decide +kernel
theorem dX16_isFact_6 : decode cX16_isFact 6 = .ok (.getfield 40, 3) := by decide +kernel
theorem dX16_isFact_9 : decode cX16_isFact 9 = .ok (.if_icmp .ge 7, 3) := by decide +kernel
theorem dX16_isFact_12 : decode cX16_isFact 12 = .ok (.iconst 1, 1) := by decide +kernel
theorem dX16_isFact_13 : decode cX16_isFact 13 = .ok (.goto 4, 3) := by decide +kernel
theorem dX16_isFact_16 : decode cX16_isFact 16 = .ok (.iconst 0, 1) := by decide +kernel
theorem dX16_isFact_17 : decode cX16_isFact 17 = .ok (.ireturn, 1) := by decide +kernel
theorem dX16_fact_0 : decode cX16_fact 0 = .ok (.aload_n 0, 1) := by decide +kernel
theorem dX16_fact_1 : decode cX16_fact 1 = .ok (.iconst 0, 1) := by decide +kernel
theorem dX16_fact_2 : decode cX16_fact 2 = .ok (.putfield 1, 3) := by decide +kernel
theorem dX16_fact_5 : decode cX16_fact 5 = .ok (.aload_n 0, 1) := by decide +kernel
theorem dX16_fact_6 : decode cX16_fact 6 = .ok (.iload_n 1, 1) := by decide +kernel
theorem dX16_fact_7 : decode cX16_fact 7 = .ok (.invokevirtual 87, 3) := by decide +kernel
theorem dX16_fact_10 : decode cX16_fact 10 = .ok (.ifCond .ne 9, 3) := by decide +kernel
theorem dX16_fact_13 : decode cX16_fact 13 = .ok (.aload_n 0, 1) := by decide +kernel
theorem dX16_fact_14 : decode cX16_fact 14 = .ok (.iconst 1, 1) := by decide +kernel
theorem dX16_fact_15 : decode cX16_fact 15 = .ok (.invokevirtual 72, 3) := by decide +kernel
theorem dX16_fact_18 : decode cX16_fact 18 = .ok (.ireturn, 1) := by decide +kernel
theorem dX16_fact_19 : decode cX16_fact 19 = .ok (.aload_n 0, 1) := by decide +kernel
theorem dX16_fact_20 : decode cX16_fact 20 = .ok (.getfield 40, 3) := by decide +kernel
theorem dX16_fact_23 : decode cX16_fact 23 = .ok (.bipush 60, 2) := by decide +kernel
theorem dX16_fact_25 : decode cX16_fact 25 = .ok (.if_icmp .ne 9, 3) := by decide +kernel
theorem dX16_fact_28 : decode cX16_fact 28 = .ok (.aload_n 0, 1) := by decide +kernel
theorem dX16_fact_29 : decode cX16_fact 29 = .ok (.iconst 4, 1) := by decide +kernel
theorem dX16_fact_30 : decode cX16_fact 30 = .ok (.invokevirtual 72, 3) := by decide +kernel
theorem dX16_fact_33 : decode cX16_fact 33 = .ok (.ireturn, 1) := by decide +kernel
theorem dX16_fact_34 : decode cX16_fact 34 = .ok (.aload_n 0, 1) := by decide +kernel
theorem dX16_fact_35 : decode cX16_fact 35 = .ok (.getfield 91, 3) := by decide +kernel
theorem dX16_fact_38 : decode cX16_fact 38 = .ok (.aload_n 0, 1) := by decide +kernel
theorem dX16_fact_39 : decode cX16_fact 39 = .ok (.getfield 40, 3) := by decide +kernel
theorem dX16_fact_42 : decode cX16_fact 42 = .ok (.iload_n 1, 1) := by decide +kernel
theorem dX16_fact_43 : decode cX16_fact 43 = .ok (.iastore, 1) := by decide +kernel
theorem dX16_fact_44 : decode cX16_fact 44 = .ok (.aload_n 0, 1) := by decide +kernel
theorem dX16_fact_45 : decode cX16_fact 45 = .ok (.getfield 94, 3) := by decide +kernel
theorem dX16_fact_48 : decode cX16_fact 48 = .ok (.iconst 4, 1) := by decide +kernel
theorem dX16_fact_49 : decode cX16_fact 49 = .ok (.aload_n 0, 1) := by decide +kernel
theorem dX16_fact_50 : decode cX16_fact 50 = .ok (.getfield 40, 3) := by decide +kernel
theorem dX16_fact_53 : decode cX16_fact 53 = .ok (.imul, 1) := by decide +kernel
theorem dX16_fact_54 : decode cX16_fact 54 = .ok (.iload_n 2, 1) := by decide +kernel
theorem dX16_fact_55 : decode cX16_fact 55 = .ok (.iastore, 1) := by decide +kernel
theorem dX16_fact_56 : decode cX16_fact 56 = .ok (.aload_n 0, 1) := by decide +kernel
theorem dX16_fact_57 : decode cX16_fact 57 = .ok (.getfield 94, 3) := by decide +kernel
theorem dX16_fact_60 : decode cX16_fact 60 = .ok (.iconst 4, 1) := by decide +kernel
theorem dX16_fact_61 : decode cX16_fact 61 = .ok (.aload_n 0, 1) := by decide +kernel
theorem dX16_fact_62 : decode cX16_fact 62 = .ok (.getfield 40, 3) := by decide +kernel
theorem dX16_fact_65 : decode cX16_fact 65 = .ok (.imul, 1) := by decide +kernel
theorem dX16_fact_66 : decode cX16_fact 66 = .ok (.iconst 1, 1) := by decide +kernel
theorem dX16_fact_67 : decode cX16_fact 67 = .ok (.iadd, 1) := by decide +kernel
theorem dX16_fact_68 : decode cX16_fact 68 = .ok (.iload_n 3, 1) := by decide +kernel
theorem dX16_fact_69 : decode cX16_fact 69 = .ok (.iastore, 1) := by decide +kernel
theorem dX16_fact_70 : decode cX16_fact 70 = .ok (.aload_n 0, 1) := by decide +kernel
theorem dX16_fact_71 : decode cX16_fact 71 = .ok (.getfield 94, 3) := by decide +kernel
theorem dX16_fact_74 : decode cX16_fact 74 = .ok (.iconst 4, 1) := by decide +kernel
theorem dX16_fact_75 : decode cX16_fact 75 = .ok (.aload_n 0, 1) := by decide +kernel
theorem dX16_fact_76 : decode cX16_fact 76 = .ok (.getfield 40, 3) := by decide +kernel
theorem dX16_fact_79 : decode cX16_fact 79 = .ok (.imul, 1) := by decide +kernel
theorem dX16_fact_80 : decode cX16_fact 80 = .ok (.iconst 2, 1) := by decide +kernel
theorem dX16_fact_81 : decode cX16_fact 81 = .ok (.iadd, 1) := by decide +kernel
theorem dX16_fact_82 : decode cX16_fact 82 = .ok (.iload 4, 2) := by decide +kernel
theorem dX16_fact_84 : decode cX16_fact 84 = .ok (.iastore, 1) := by decide +kernel
theorem dX16_fact_85 : decode cX16_fact 85 = .ok (.aload_n 0, 1) := by decide +kernel
theorem dX16_fact_86 : decode cX16_fact 86 = .ok (.getfield 94, 3) := by decide +kernel
theorem dX16_fact_89 : decode cX16_fact 89 = .ok (.iconst 4, 1) := by decide +kernel
theorem dX16_fact_90 : decode cX16_fact 90 = .ok (.aload_n 0, 1) := by decide +kernel
theorem dX16_fact_91 : decode cX16_fact 91 = .ok (.getfield 40, 3) := by decide +kernel
theorem dX16_fact_94 : decode cX16_fact 94 = .ok (.imul, 1) := by decide +kernel
theorem dX16_fact_95 : decode cX16_fact 95 = .ok (.iconst 3, 1) := by decide +kernel
theorem dX16_fact_96 : decode cX16_fact 96 = .ok (.iadd, 1) := by decide +kernel
theorem dX16_fact_97 : decode cX16_fact 97 = .ok (.iload 5, 2) := by decide +kernel
theorem dX16_fact_99 : decode cX16_fact 99 = .ok (.iastore, 1) := by decide +kernel
theorem dX16_fact_100 : decode cX16_fact 100 = .ok (.aload_n 0, 1) := by decide +kernel
theorem dX16_fact_101 : decode cX16_fact 101 = .ok (.getfield 97, 3) := by decide +kernel
theorem dX16_fact_104 : decode cX16_fact 104 = .ok (.aload_n 0, 1) := by decide +kernel
theorem dX16_fact_105 : decode cX16_fact 105 = .ok (.getfield 40, 3) := by decide +kernel
theorem dX16_fact_108 : decode cX16_fact 108 = .ok (.iconst 1, 1) := by decide +kernel
theorem dX16_fact_109 : decode cX16_fact 109 = .ok (.iastore, 1) := by decide +kernel
theorem dX16_fact_110 : decode cX16_fact 110 = .ok (.aload_n 0, 1) := by decide +kernel
theorem dX16_fact_111 : decode cX16_fact 111 = .ok (.getfield 100, 3) := by decide +kernel
theorem dX16_fact_114 : decode cX16_fact 114 = .ok (.aload_n 0, 1) := by decide +kernel
theorem dX16_fact_115 : decode cX16_fact 115 = .ok (.getfield 40, 3) := by decide +kernel
theorem dX16_fact_118 : decode cX16_fact 118 = .ok (.iconst 1, 1) := by decide +kernel
theorem dX16_fact_119 : decode cX16_fact 119 = .ok (.iastore, 1) := by decide +kernel
theorem dX16_fact_120 : decode cX16_fact 120 = .ok (.aload_n 0, 1) := by decide +kernel
theorem dX16_fact_121 : decode cX16_fact 121 = .ok (.getfield 103, 3) := by decide +kernel
theorem dX16_fact_124 : decode cX16_fact 124 = .ok (.aload_n 0, 1) := by decide +kernel
theorem dX16_fact_125 : decode cX16_fact 125 = .ok (.getfield 40, 3) := by decide +kernel
theorem dX16_fact_128 : decode cX16_fact 128 = .ok (.dconst 1, 1) := by decide +kernel
theorem dX16_fact_129 : decode cX16_fact 129 = .ok (.dastore, 1) := by decide +kernel
theorem dX16_fact_130 : decode cX16_fact 130 = .ok (.aload_n 0, 1) := by decide +kernel
theorem dX16_fact_131 : decode cX16_fact 131 = .ok (.getfield 107, 3) := by decide +kernel
theorem dX16_fact_134 : decode cX16_fact 134 = .ok (.aload_n 0, 1) := by decide +kernel
theorem dX16_fact_135 : decode cX16_fact 135 = .ok (.getfield 40, 3) := by decide +kernel
theorem dX16_fact_138 : decode cX16_fact 138 = .ok (.iconst 4, 1) := by decide +kernel
theorem dX16_fact_139 : decode cX16_fact 139 = .ok (.iastore, 1) := by decide +kernel
theorem dX16_fact_140 : decode cX16_fact 140 = .ok (.aload_n 0, 1) := by decide +kernel
theorem dX16_fact_141 : decode cX16_fact 141 = .ok (.getfield 43, 3) := by decide +kernel
theorem dX16_fact_144 : decode cX16_fact 144 = .ok (.aload_n 0, 1) := by decide +kernel
theorem dX16_fact_145 : decode cX16_fact 145 = .ok (.getfield 40, 3) := by decide +kernel
theorem dX16_fact_148 : decode cX16_fact 148 = .ok (.iconst 0, 1) := by decide +kernel
theorem dX16_fact_149 : decode cX16_fact 149 = .ok (.bastore, 1) := by decide +kernel
theorem dX16_fact_150 : decode cX16_fact 150 = .ok (.aload_n 0, 1) := by decide +kernel
theorem dX16_fact_151 : decode cX16_fact 151 = .ok (.iconst 1, 1) := by decide +kernel
theorem dX16_fact_152 : decode cX16_fact 152 = .ok (.aload_n 0, 1) := by decide +kernel
theorem dX16_fact_153 : decode cX16_fact 153 = .ok (.getfield 40, 3) := by decide +kernel
theorem dX16_fact_156 : decode cX16_fact 156 = .ok (.iconst 0, 1) := by decide +kernel
theorem dX16_fact_157 : decode cX16_fact 157 = .ok (.invokevirtual 80, 3) := by decide +kernel
theorem dX16_fact_160 : decode cX16_fact 160 = .ok (.pop, 1) := by decide +kernel
theorem dX16_fact_161 : decode cX16_fact 161 = .ok (.aload_n 0, 1) := by decide +kernel
theorem dX16_fact_162 : decode cX16_fact 162 = .ok (.dup, 1) := by decide +kernel
theorem dX16_fact_163 : decode cX16_fact 163 = .ok (.getfield 40, 3) := by decide +kernel
theorem dX16_fact_166 : decode cX16_fact 166 = .ok (.iconst 1, 1) := by decide +kernel
theorem dX16_fact_167 : decode cX16_fact 167 = .ok (.iadd, 1) := by decide +kernel
theorem dX16_fact_168 : decode cX16_fact 168 = .ok (.putfield 40, 3) := by decide +kernel
theorem dX16_fact_171 : decode cX16_fact 171 = .ok (.aload_n 0, 1) := by decide +kernel
theorem dX16_fact_172 : decode cX16_fact 172 = .ok (.aload_n 0, 1) := by decide +kernel
theorem dX16_fact_173 : decode cX16_fact 173 = .ok (.getfield 40, 3) := by decide +kernel
theorem dX16_fact_176 : decode cX16_fact 176 = .ok (.iconst 1, 1) := by decide +kernel
theorem dX16_fact_177 : decode cX16_fact 177 = .ok (.isub, 1) := by decide +kernel
theorem dX16_fact_178 : decode cX16_fact 178 = .ok (.invokevirtual 84, 3) := by decide +kernel
theorem dX16_fact_181 : decode cX16_fact 181 = .ok (.ireturn, 1) := by decide +kernel
theorem dX16_drop_0 : decode cX16_drop 0 = .ok (.aload_n 0, 1) := by decide +kernel
theorem dX16_drop_1 : decode cX16_drop 1 = .ok (.iconst 0, 1) := by decide +kernel
theorem dX16_drop_2 : decode cX16_drop 2 = .ok (.putfield 1, 3) := by decide +kernel
theorem dX16_drop_5 : decode cX16_drop 5 = .ok (.aload_n 0, 1) := by decide +kernel
theorem dX16_drop_6 : decode cX16_drop 6 = .ok (.iload_n 1, 1) := by decide +kernel
theorem dX16_drop_7 : decode cX16_drop 7 = .ok (.invokevirtual 110, 3) := by decide +kernel
theorem dX16_drop_10 : decode cX16_drop 10 = .ok (.ifCond .ne 10, 3) := by decide +kernel
theorem dX16_drop_13 : decode cX16_drop 13 = .ok (.aload_n 0, 1) := by decide +kernel
theorem dX16_drop_14 : decode cX16_drop 14 = .ok (.iconst 1, 1) := by decide +kernel
theorem dX16_drop_15 : decode cX16_drop 15 = .ok (.putfield 7, 3) := by decide +kernel
theorem dX16_drop_18 : decode cX16_drop 18 = .ok (.iconst 0, 1) := by decide +kernel
theorem dX16_drop_19 : decode cX16_drop 19 = .ok (.ireturn, 1) := by decide +kernel
theorem dX16_drop_20 : decode cX16_drop 20 = .ok (.aload_n 0, 1) := by decide +kernel
theorem dX16_drop_21 : decode cX16_drop 21 = .ok (.iconst 2, 1) := by decide +kernel
theorem dX16_drop_22 : decode cX16_drop 22 = .ok (.iload_n 1, 1) := by decide +kernel
theorem dX16_drop_23 : decode cX16_drop 23 = .ok (.aload_n 0, 1) := by decide +kernel
theorem dX16_drop_24 : decode cX16_drop 24 = .ok (.getfield 43, 3) := by decide +kernel
theorem dX16_drop_27 : decode cX16_drop 27 = .ok (.iload_n 1, 1) := by decide +kernel
theorem dX16_drop_28 : decode cX16_drop 28 = .ok (.baload, 1) := by decide +kernel
theorem dX16_drop_29 : decode cX16_drop 29 = .ok (.ifCond .eq 7, 3) := by decide +kernel
theorem dX16_drop_32 : decode cX16_drop 32 = .ok (.iconst 1, 1) := by decide +kernel
theorem dX16_drop_33 : decode cX16_drop 33 = .ok (.goto 4, 3) := by decide +kernel
theorem dX16_drop_36 : decode cX16_drop 36 = .ok (.iconst 0, 1) := by decide +kernel
theorem dX16_drop_37 : decode cX16_drop 37 = .ok (.invokevirtual 80, 3) := by decide +kernel
theorem dX16_drop_40 : decode cX16_drop 40 = .ok (.pop, 1) := by decide +kernel
theorem dX16_drop_41 : decode cX16_drop 41 = .ok (.aload_n 0, 1) := by decide +kernel
theorem dX16_drop_42 : decode cX16_drop 42 = .ok (.getfield 43, 3) := by decide +kernel
theorem dX16_drop_45 : decode cX16_drop 45 = .ok (.iload_n 1, 1) := by decide +kernel
theorem dX16_drop_46 : decode cX16_drop 46 = .ok (.iload_n 2, 1) := by decide +kernel
theorem dX16_drop_47 : decode cX16_drop 47 = .ok (.bastore, 1) := by decide +kernel
theorem dX16_drop_48 : decode cX16_drop 48 = .ok (.aload_n 0, 1) := by decide +kernel
theorem dX16_drop_49 : decode cX16_drop 49 = .ok (.iconst 0, 1) := by decide +kernel
theorem dX16_drop_50 : decode cX16_drop 50 = .ok (.putfield 7, 3) := by decide +kernel
theorem dX16_drop_53 : decode cX16_drop 53 = .ok (.iconst 1, 1) := by decide +kernel
theorem dX16_drop_54 : decode cX16_drop 54 = .ok (.ireturn, 1) := by decide +kernel
theorem dX16_weighs_0 : decode cX16_weighs 0 = .ok (.iload_n 2, 1) := by decide +kernel
theorem dX16_weighs_1 : decode cX16_weighs 1 = .ok (.ifCond .ne 13, 3) := by decide +kernel
theorem dX16_weighs_4 : decode cX16_weighs 4 = .ok (.aload_n 0, 1) := by decide +kernel
theorem dX16_weighs_5 : decode cX16_weighs 5 = .ok (.getfield 97, 3) := by decide +kernel
theorem dX16_weighs_8 : decode cX16_weighs 8 = .ok (.iload_n 1, 1) := by decide +kernel
theorem dX16_weighs_9 : decode cX16_weighs 9 = .ok (.iaload, 1) := by decide +kernel
theorem dX16_weighs_10 : decode cX16_weighs 10 = .ok (.i2l, 1) := by decide +kernel
theorem dX16_weighs_11 : decode cX16_weighs 11 = .ok (.goto 42, 3) := by decide +kernel
theorem dX16_weighs_14 : decode cX16_weighs 14 = .ok (.iload_n 2, 1) := by decide +kernel
theorem dX16_weighs_15 : decode cX16_weighs 15 = .ok (.iconst 1, 1) := by decide +kernel
theorem dX16_weighs_16 : decode cX16_weighs 16 = .ok (.if_icmp .ne 13, 3) := by decide +kernel
theorem dX16_weighs_19 : decode cX16_weighs 19 = .ok (.aload_n 0, 1) := by decide +kernel
theorem dX16_weighs_20 : decode cX16_weighs 20 = .ok (.getfield 100, 3) := by decide +kernel
theorem dX16_weighs_23 : decode cX16_weighs 23 = .ok (.iload_n 1, 1) := by decide +kernel
theorem dX16_weighs_24 : decode cX16_weighs 24 = .ok (.iaload, 1) := by decide +kernel
theorem dX16_weighs_25 : decode cX16_weighs 25 = .ok (.i2l, 1) := by decide +kernel
theorem dX16_weighs_26 : decode cX16_weighs 26 = .ok (.goto 27, 3) := by decide +kernel
theorem dX16_weighs_29 : decode cX16_weighs 29 = .ok (.iload_n 2, 1) := by decide +kernel
theorem dX16_weighs_30 : decode cX16_weighs 30 = .ok (.iconst 2, 1) := by decide +kernel
theorem dX16_weighs_31 : decode cX16_weighs 31 = .ok (.if_icmp .ne 15, 3) := by decide +kernel
theorem dX16_weighs_34 : decode cX16_weighs 34 = .ok (.aload_n 0, 1) := by decide +kernel
theorem dX16_weighs_35 : decode cX16_weighs 35 = .ok (.getfield 103, 3) := by decide +kernel
theorem dX16_weighs_38 : decode cX16_weighs 38 = .ok (.iload_n 1, 1) := by decide +kernel
theorem dX16_weighs_39 : decode cX16_weighs 39 = .ok (.daload, 1) := by decide +kernel
theorem dX16_weighs_40 : decode cX16_weighs 40 = .ok (.invokestatic 113, 3) := by decide +kernel
theorem dX16_weighs_43 : decode cX16_weighs 43 = .ok (.goto 10, 3) := by decide +kernel
theorem dX16_weighs_46 : decode cX16_weighs 46 = .ok (.aload_n 0, 1) := by decide +kernel
theorem dX16_weighs_47 : decode cX16_weighs 47 = .ok (.getfield 107, 3) := by decide +kernel
theorem dX16_weighs_50 : decode cX16_weighs 50 = .ok (.iload_n 1, 1) := by decide +kernel
theorem dX16_weighs_51 : decode cX16_weighs 51 = .ok (.iaload, 1) := by decide +kernel
theorem dX16_weighs_52 : decode cX16_weighs 52 = .ok (.i2l, 1) := by decide +kernel
theorem dX16_weighs_53 : decode cX16_weighs 53 = .ok (.lreturn, 1) := by decide +kernel
theorem dX16_weight_0 : decode cX16_weight 0 = .ok (.iload_n 2, 1) := by decide +kernel
theorem dX16_weight_1 : decode cX16_weight 1 = .ok (.ifCond .ne 14, 3) := by decide +kernel
theorem dX16_weight_4 : decode cX16_weight 4 = .ok (.aload_n 0, 1) := by decide +kernel
theorem dX16_weight_5 : decode cX16_weight 5 = .ok (.getfield 97, 3) := by decide +kernel
theorem dX16_weight_8 : decode cX16_weight 8 = .ok (.iload_n 1, 1) := by decide +kernel
theorem dX16_weight_9 : decode cX16_weight 9 = .ok (.lload_n 3, 1) := by decide +kernel
theorem dX16_weight_10 : decode cX16_weight 10 = .ok (.l2i, 1) := by decide +kernel
theorem dX16_weight_11 : decode cX16_weight 11 = .ok (.iastore, 1) := by decide +kernel
theorem dX16_weight_12 : decode cX16_weight 12 = .ok (.goto 45, 3) := by decide +kernel
theorem dX16_weight_15 : decode cX16_weight 15 = .ok (.iload_n 2, 1) := by decide +kernel
theorem dX16_weight_16 : decode cX16_weight 16 = .ok (.iconst 1, 1) := by decide +kernel
theorem dX16_weight_17 : decode cX16_weight 17 = .ok (.if_icmp .ne 14, 3) := by decide +kernel
theorem dX16_weight_20 : decode cX16_weight 20 = .ok (.aload_n 0, 1) := by decide +kernel
theorem dX16_weight_21 : decode cX16_weight 21 = .ok (.getfield 100, 3) := by decide +kernel
theorem dX16_weight_24 : decode cX16_weight 24 = .ok (.iload_n 1, 1) := by decide +kernel
theorem dX16_weight_25 : decode cX16_weight 25 = .ok (.lload_n 3, 1) := by decide +kernel
theorem dX16_weight_26 : decode cX16_weight 26 = .ok (.l2i, 1) := by decide +kernel
theorem dX16_weight_27 : decode cX16_weight 27 = .ok (.iastore, 1) := by decide +kernel
theorem dX16_weight_28 : decode cX16_weight 28 = .ok (.goto 29, 3) := by decide +kernel
theorem dX16_weight_31 : decode cX16_weight 31 = .ok (.iload_n 2, 1) := by decide +kernel
theorem dX16_weight_32 : decode cX16_weight 32 = .ok (.iconst 2, 1) := by decide +kernel
theorem dX16_weight_33 : decode cX16_weight 33 = .ok (.if_icmp .ne 16, 3) := by decide +kernel
theorem dX16_weight_36 : decode cX16_weight 36 = .ok (.aload_n 0, 1) := by decide +kernel
theorem dX16_weight_37 : decode cX16_weight 37 = .ok (.getfield 103, 3) := by decide +kernel
theorem dX16_weight_40 : decode cX16_weight 40 = .ok (.iload_n 1, 1) := by decide +kernel
theorem dX16_weight_41 : decode cX16_weight 41 = .ok (.lload_n 3, 1) := by decide +kernel
theorem dX16_weight_42 : decode cX16_weight 42 = .ok (.invokestatic 119, 3) := by decide +kernel
theorem dX16_weight_45 : decode cX16_weight 45 = .ok (.dastore, 1) := by decide +kernel
theorem dX16_weight_46 : decode cX16_weight 46 = .ok (.goto 11, 3) := by decide +kernel
theorem dX16_weight_49 : decode cX16_weight 49 = .ok (.aload_n 0, 1) := by decide +kernel
theorem dX16_weight_50 : decode cX16_weight 50 = .ok (.getfield 107, 3) := by decide +kernel
theorem dX16_weight_53 : decode cX16_weight 53 = .ok (.iload_n 1, 1) := by decide +kernel
theorem dX16_weight_54 : decode cX16_weight 54 = .ok (.lload_n 3, 1) := by decide +kernel
theorem dX16_weight_55 : decode cX16_weight 55 = .ok (.l2i, 1) := by decide +kernel
theorem dX16_weight_56 : decode cX16_weight 56 = .ok (.iastore, 1) := by decide +kernel
theorem dX16_weight_57 : decode cX16_weight 57 = .ok (.return_, 1) := by decide +kernel
theorem dX16_put_0 : decode cX16_put 0 = .ok (.aload_n 0, 1) := by decide +kernel
theorem dX16_put_1 : decode cX16_put 1 = .ok (.iconst 0, 1) := by decide +kernel
theorem dX16_put_2 : decode cX16_put 2 = .ok (.putfield 1, 3) := by decide +kernel
theorem dX16_put_5 : decode cX16_put 5 = .ok (.aload_n 0, 1) := by decide +kernel
theorem dX16_put_6 : decode cX16_put 6 = .ok (.iload_n 1, 1) := by decide +kernel
theorem dX16_put_7 : decode cX16_put 7 = .ok (.invokevirtual 110, 3) := by decide +kernel
theorem dX16_put_10 : decode cX16_put 10 = .ok (.ifCond .ne 10, 3) := by decide +kernel
theorem dX16_put_13 : decode cX16_put 13 = .ok (.aload_n 0, 1) := by decide +kernel
theorem dX16_put_14 : decode cX16_put 14 = .ok (.iconst 1, 1) := by decide +kernel
theorem dX16_put_15 : decode cX16_put 15 = .ok (.putfield 7, 3) := by decide +kernel
theorem dX16_put_18 : decode cX16_put 18 = .ok (.iconst 0, 1) := by decide +kernel
theorem dX16_put_19 : decode cX16_put 19 = .ok (.ireturn, 1) := by decide +kernel
theorem dX16_put_20 : decode cX16_put 20 = .ok (.iload_n 2, 1) := by decide +kernel
theorem dX16_put_21 : decode cX16_put 21 = .ok (.ifCond .ne 9, 3) := by decide +kernel
theorem dX16_put_24 : decode cX16_put 24 = .ok (.ldc2_w 123, 3) := by decide +kernel
theorem dX16_put_27 : decode cX16_put 27 = .ok (.goto 28, 3) := by decide +kernel
theorem dX16_put_30 : decode cX16_put 30 = .ok (.iload_n 2, 1) := by decide +kernel
theorem dX16_put_31 : decode cX16_put 31 = .ok (.iconst 1, 1) := by decide +kernel
theorem dX16_put_32 : decode cX16_put 32 = .ok (.if_icmp .ne 9, 3) := by decide +kernel
theorem dX16_put_35 : decode cX16_put 35 = .ok (.ldc2_w 125, 3) := by decide +kernel
theorem dX16_put_38 : decode cX16_put 38 = .ok (.goto 17, 3) := by decide +kernel
theorem dX16_put_41 : decode cX16_put 41 = .ok (.iload_n 2, 1) := by decide +kernel
theorem dX16_put_42 : decode cX16_put 42 = .ok (.iconst 2, 1) := by decide +kernel
theorem dX16_put_43 : decode cX16_put 43 = .ok (.if_icmp .ne 9, 3) := by decide +kernel
theorem dX16_put_46 : decode cX16_put 46 = .ok (.ldc2_w 127, 3) := by decide +kernel
theorem dX16_put_49 : decode cX16_put 49 = .ok (.goto 6, 3) := by decide +kernel
theorem dX16_put_52 : decode cX16_put 52 = .ok (.ldc2_w 129, 3) := by decide +kernel
theorem dX16_put_55 : decode cX16_put 55 = .ok (.lstore 5, 2) := by decide +kernel
theorem dX16_put_57 : decode cX16_put 57 = .ok (.iload_n 2, 1) := by decide +kernel
theorem dX16_put_58 : decode cX16_put 58 = .ok (.ifCond .lt 21, 3) := by decide +kernel
theorem dX16_put_61 : decode cX16_put 61 = .ok (.iload_n 2, 1) := by decide +kernel
theorem dX16_put_62 : decode cX16_put 62 = .ok (.iconst 3, 1) := by decide +kernel
theorem dX16_put_63 : decode cX16_put 63 = .ok (.if_icmp .gt 16, 3) := by decide +kernel
theorem dX16_put_66 : decode cX16_put 66 = .ok (.lload_n 3, 1) := by decide +kernel
theorem dX16_put_67 : decode cX16_put 67 = .ok (.lconst 0, 1) := by decide +kernel
theorem dX16_put_68 : decode cX16_put 68 = .ok (.lcmp, 1) := by decide +kernel
theorem dX16_put_69 : decode cX16_put 69 = .ok (.ifCond .lt 10, 3) := by decide +kernel
theorem dX16_put_72 : decode cX16_put 72 = .ok (.lload_n 3, 1) := by decide +kernel
theorem dX16_put_73 : decode cX16_put 73 = .ok (.lload 5, 2) := by decide +kernel
theorem dX16_put_75 : decode cX16_put 75 = .ok (.lcmp, 1) := by decide +kernel
theorem dX16_put_76 : decode cX16_put 76 = .ok (.ifCond .le 10, 3) := by decide +kernel
theorem dX16_put_79 : decode cX16_put 79 = .ok (.aload_n 0, 1) := by decide +kernel
theorem dX16_put_80 : decode cX16_put 80 = .ok (.iconst 2, 1) := by decide +kernel
theorem dX16_put_81 : decode cX16_put 81 = .ok (.putfield 7, 3) := by decide +kernel
theorem dX16_put_84 : decode cX16_put 84 = .ok (.iconst 0, 1) := by decide +kernel
theorem dX16_put_85 : decode cX16_put 85 = .ok (.ireturn, 1) := by decide +kernel
theorem dX16_put_86 : decode cX16_put 86 = .ok (.aload_n 0, 1) := by decide +kernel
theorem dX16_put_87 : decode cX16_put 87 = .ok (.iconst 3, 1) := by decide +kernel
theorem dX16_put_88 : decode cX16_put 88 = .ok (.iload_n 1, 1) := by decide +kernel
theorem dX16_put_89 : decode cX16_put 89 = .ok (.iload_n 2, 1) := by decide +kernel
theorem dX16_put_90 : decode cX16_put 90 = .ok (.invokevirtual 80, 3) := by decide +kernel
theorem dX16_put_93 : decode cX16_put 93 = .ok (.aload_n 0, 1) := by decide +kernel
theorem dX16_put_94 : decode cX16_put 94 = .ok (.iload_n 1, 1) := by decide +kernel
theorem dX16_put_95 : decode cX16_put 95 = .ok (.iload_n 2, 1) := by decide +kernel
theorem dX16_put_96 : decode cX16_put 96 = .ok (.invokevirtual 131, 3) := by decide +kernel
theorem dX16_put_99 : decode cX16_put 99 = .ok (.putfield 47, 3) := by decide +kernel
theorem dX16_put_102 : decode cX16_put 102 = .ok (.aload_n 0, 1) := by decide +kernel
theorem dX16_put_103 : decode cX16_put 103 = .ok (.iload_n 1, 1) := by decide +kernel
theorem dX16_put_104 : decode cX16_put 104 = .ok (.iload_n 2, 1) := by decide +kernel
theorem dX16_put_105 : decode cX16_put 105 = .ok (.lload_n 3, 1) := by decide +kernel
theorem dX16_put_106 : decode cX16_put 106 = .ok (.invokevirtual 51, 3) := by decide +kernel
theorem dX16_put_109 : decode cX16_put 109 = .ok (.aload_n 0, 1) := by decide +kernel
theorem dX16_put_110 : decode cX16_put 110 = .ok (.iconst 0, 1) := by decide +kernel
theorem dX16_put_111 : decode cX16_put 111 = .ok (.putfield 7, 3) := by decide +kernel
theorem dX16_put_114 : decode cX16_put 114 = .ok (.iconst 1, 1) := by decide +kernel
theorem dX16_put_115 : decode cX16_put 115 = .ok (.ireturn, 1) := by decide +kernel
theorem dX16_told_0 : decode cX16_told 0 = .ok (.aload_n 0, 1) := by decide +kernel
theorem dX16_told_1 : decode cX16_told 1 = .ok (.iconst 0, 1) := by decide +kernel
theorem dX16_told_2 : decode cX16_told 2 = .ok (.putfield 1, 3) := by decide +kernel
theorem dX16_told_5 : decode cX16_told 5 = .ok (.aload_n 0, 1) := by decide +kernel
theorem dX16_told_6 : decode cX16_told 6 = .ok (.iload_n 1, 1) := by decide +kernel
theorem dX16_told_7 : decode cX16_told 7 = .ok (.invokevirtual 110, 3) := by decide +kernel
theorem dX16_told_10 : decode cX16_told 10 = .ok (.ifCond .eq 13, 3) := by decide +kernel
theorem dX16_told_13 : decode cX16_told 13 = .ok (.iload_n 2, 1) := by decide +kernel
theorem dX16_told_14 : decode cX16_told 14 = .ok (.ifCond .lt 9, 3) := by decide +kernel
theorem dX16_told_17 : decode cX16_told 17 = .ok (.iload_n 2, 1) := by decide +kernel
theorem dX16_told_18 : decode cX16_told 18 = .ok (.bipush 10, 2) := by decide +kernel
theorem dX16_told_20 : decode cX16_told 20 = .ok (.if_icmp .le 7, 3) := by decide +kernel
theorem dX16_told_23 : decode cX16_told 23 = .ok (.ldc2_w 135, 3) := by decide +kernel
theorem dX16_told_26 : decode cX16_told 26 = .ok (.lreturn, 1) := by decide +kernel
theorem dX16_told_27 : decode cX16_told 27 = .ok (.iload_n 2, 1) := by decide +kernel
theorem dX16_told_28 : decode cX16_told 28 = .ok (.iconst 4, 1) := by decide +kernel
theorem dX16_told_29 : decode cX16_told 29 = .ok (.if_icmp .ge 10, 3) := by decide +kernel
theorem dX16_told_32 : decode cX16_told 32 = .ok (.aload_n 0, 1) := by decide +kernel
theorem dX16_told_33 : decode cX16_told 33 = .ok (.iload_n 1, 1) := by decide +kernel
theorem dX16_told_34 : decode cX16_told 34 = .ok (.iload_n 2, 1) := by decide +kernel
theorem dX16_told_35 : decode cX16_told 35 = .ok (.invokevirtual 131, 3) := by decide +kernel
theorem dX16_told_38 : decode cX16_told 38 = .ok (.lreturn, 1) := by decide +kernel
theorem dX16_told_39 : decode cX16_told 39 = .ok (.aload_n 0, 1) := by decide +kernel
theorem dX16_told_40 : decode cX16_told 40 = .ok (.getfield 76, 3) := by decide +kernel
theorem dX16_told_43 : decode cX16_told 43 = .ok (.aload_n 0, 1) := by decide +kernel
theorem dX16_told_44 : decode cX16_told 44 = .ok (.getfield 91, 3) := by decide +kernel
theorem dX16_told_47 : decode cX16_told 47 = .ok (.iload_n 1, 1) := by decide +kernel
theorem dX16_told_48 : decode cX16_told 48 = .ok (.iaload, 1) := by decide +kernel
theorem dX16_told_49 : decode cX16_told 49 = .ok (.iaload, 1) := by decide +kernel
theorem dX16_told_50 : decode cX16_told 50 = .ok (.istore_n 3, 1) := by decide +kernel
theorem dX16_told_51 : decode cX16_told 51 = .ok (.iload_n 2, 1) := by decide +kernel
theorem dX16_told_52 : decode cX16_told 52 = .ok (.tableswitch 54 4 6 #[28, 43, 51], 28) := by decide +kernel
theorem dX16_told_80 : decode cX16_told 80 = .ok (.aload_n 0, 1) := by decide +kernel
theorem dX16_told_81 : decode cX16_told 81 = .ok (.getfield 43, 3) := by decide +kernel
theorem dX16_told_84 : decode cX16_told 84 = .ok (.iload_n 1, 1) := by decide +kernel
theorem dX16_told_85 : decode cX16_told 85 = .ok (.baload, 1) := by decide +kernel
theorem dX16_told_86 : decode cX16_told 86 = .ok (.ifCond .eq 7, 3) := by decide +kernel
theorem dX16_told_89 : decode cX16_told 89 = .ok (.lconst 1, 1) := by decide +kernel
theorem dX16_told_90 : decode cX16_told 90 = .ok (.goto 4, 3) := by decide +kernel
theorem dX16_told_93 : decode cX16_told 93 = .ok (.lconst 0, 1) := by decide +kernel
theorem dX16_told_94 : decode cX16_told 94 = .ok (.lreturn, 1) := by decide +kernel
theorem dX16_told_95 : decode cX16_told 95 = .ok (.aload_n 0, 1) := by decide +kernel
theorem dX16_told_96 : decode cX16_told 96 = .ok (.getfield 91, 3) := by decide +kernel
theorem dX16_told_99 : decode cX16_told 99 = .ok (.iload_n 1, 1) := by decide +kernel
theorem dX16_told_100 : decode cX16_told 100 = .ok (.iaload, 1) := by decide +kernel
theorem dX16_told_101 : decode cX16_told 101 = .ok (.i2l, 1) := by decide +kernel
theorem dX16_told_102 : decode cX16_told 102 = .ok (.lreturn, 1) := by decide +kernel
theorem dX16_told_103 : decode cX16_told 103 = .ok (.iload_n 3, 1) := by decide +kernel
theorem dX16_told_104 : decode cX16_told 104 = .ok (.i2l, 1) := by decide +kernel
theorem dX16_told_105 : decode cX16_told 105 = .ok (.lreturn, 1) := by decide +kernel
theorem dX16_told_106 : decode cX16_told 106 = .ok (.iload_n 2, 1) := by decide +kernel
theorem dX16_told_107 : decode cX16_told 107 = .ok (.bipush 7, 2) := by decide +kernel
theorem dX16_told_109 : decode cX16_told 109 = .ok (.isub, 1) := by decide +kernel
theorem dX16_told_110 : decode cX16_told 110 = .ok (.iload_n 3, 1) := by decide +kernel
theorem dX16_told_111 : decode cX16_told 111 = .ok (.if_icmp .ge 20, 3) := by decide +kernel
theorem dX16_told_114 : decode cX16_told 114 = .ok (.aload_n 0, 1) := by decide +kernel
theorem dX16_told_115 : decode cX16_told 115 = .ok (.getfield 94, 3) := by decide +kernel
theorem dX16_told_118 : decode cX16_told 118 = .ok (.iconst 4, 1) := by decide +kernel
theorem dX16_told_119 : decode cX16_told 119 = .ok (.iload_n 1, 1) := by decide +kernel
theorem dX16_told_120 : decode cX16_told 120 = .ok (.imul, 1) := by decide +kernel
theorem dX16_told_121 : decode cX16_told 121 = .ok (.iload_n 2, 1) := by decide +kernel
theorem dX16_told_122 : decode cX16_told 122 = .ok (.iadd, 1) := by decide +kernel
theorem dX16_told_123 : decode cX16_told 123 = .ok (.bipush 7, 2) := by decide +kernel
theorem dX16_told_125 : decode cX16_told 125 = .ok (.isub, 1) := by decide +kernel
theorem dX16_told_126 : decode cX16_told 126 = .ok (.iaload, 1) := by decide +kernel
theorem dX16_told_127 : decode cX16_told 127 = .ok (.i2l, 1) := by decide +kernel
theorem dX16_told_128 : decode cX16_told 128 = .ok (.goto 6, 3) := by decide +kernel
theorem dX16_told_131 : decode cX16_told 131 = .ok (.ldc2_w 135, 3) := by decide +kernel
theorem dX16_told_134 : decode cX16_told 134 = .ok (.lreturn, 1) := by decide +kernel
theorem dX16_isQuestion_0 : decode cX16_isQuestion 0 = .ok (.iload_n 1, 1) := by decide +kernel
theorem dX16_isQuestion_1 : decode cX16_isQuestion 1 = .ok (.ifCond .lt 15, 3) := by decide +kernel
theorem dX16_isQuestion_4 : decode cX16_isQuestion 4 = .ok (.iload_n 1, 1) := by decide +kernel
theorem dX16_isQuestion_5 : decode cX16_isQuestion 5 = .ok (.aload_n 0, 1) := by decide +kernel
theorem dX16_isQuestion_6 : decode cX16_isQuestion 6 = .ok (.getfield 55, 3) := by decide +kernel
theorem dX16_isQuestion_9 : decode cX16_isQuestion 9 = .ok (.if_icmp .ge 7, 3) := by decide +kernel
theorem dX16_isQuestion_12 : decode cX16_isQuestion 12 = .ok (.iconst 1, 1) := by decide +kernel
theorem dX16_isQuestion_13 : decode cX16_isQuestion 13 = .ok (.goto 4, 3) := by decide +kernel
theorem dX16_isQuestion_16 : decode cX16_isQuestion 16 = .ok (.iconst 0, 1) := by decide +kernel
theorem dX16_isQuestion_17 : decode cX16_isQuestion 17 = .ok (.ireturn, 1) := by decide +kernel
theorem dX16_isPlace_0 : decode cX16_isPlace 0 = .ok (.iload_n 0, 1) := by decide +kernel
theorem dX16_isPlace_1 : decode cX16_isPlace 1 = .ok (.ifCond .lt 12, 3) := by decide +kernel
theorem dX16_isPlace_4 : decode cX16_isPlace 4 = .ok (.iload_n 0, 1) := by decide +kernel
theorem dX16_isPlace_5 : decode cX16_isPlace 5 = .ok (.iload_n 1, 1) := by decide +kernel
theorem dX16_isPlace_6 : decode cX16_isPlace 6 = .ok (.if_icmp .ge 7, 3) := by decide +kernel
theorem dX16_isPlace_9 : decode cX16_isPlace 9 = .ok (.iconst 1, 1) := by decide +kernel
theorem dX16_isPlace_10 : decode cX16_isPlace 10 = .ok (.goto 4, 3) := by decide +kernel
theorem dX16_isPlace_13 : decode cX16_isPlace 13 = .ok (.iconst 0, 1) := by decide +kernel
theorem dX16_isPlace_14 : decode cX16_isPlace 14 = .ok (.ireturn, 1) := by decide +kernel
theorem dX16_made_0 : decode cX16_made 0 = .ok (.aload_n 0, 1) := by decide +kernel
theorem dX16_made_1 : decode cX16_made 1 = .ok (.getfield 55, 3) := by decide +kernel
theorem dX16_made_4 : decode cX16_made 4 = .ok (.bipush 40, 2) := by decide +kernel
theorem dX16_made_6 : decode cX16_made 6 = .ok (.if_icmp .ne 9, 3) := by decide +kernel
theorem dX16_made_9 : decode cX16_made 9 = .ok (.aload_n 0, 1) := by decide +kernel
theorem dX16_made_10 : decode cX16_made 10 = .ok (.iconst 4, 1) := by decide +kernel
theorem dX16_made_11 : decode cX16_made 11 = .ok (.invokevirtual 72, 3) := by decide +kernel
theorem dX16_made_14 : decode cX16_made 14 = .ok (.ireturn, 1) := by decide +kernel
theorem dX16_made_15 : decode cX16_made 15 = .ok (.aload_n 0, 1) := by decide +kernel
theorem dX16_made_16 : decode cX16_made 16 = .ok (.getfield 55, 3) := by decide +kernel
theorem dX16_made_19 : decode cX16_made 19 = .ok (.istore 9, 2) := by decide +kernel
theorem dX16_made_21 : decode cX16_made 21 = .ok (.aload_n 0, 1) := by decide +kernel
theorem dX16_made_22 : decode cX16_made 22 = .ok (.getfield 137, 3) := by decide +kernel
theorem dX16_made_25 : decode cX16_made 25 = .ok (.iload 9, 2) := by decide +kernel
theorem dX16_made_27 : decode cX16_made 27 = .ok (.iload_n 1, 1) := by decide +kernel
theorem dX16_made_28 : decode cX16_made 28 = .ok (.iastore, 1) := by decide +kernel
theorem dX16_made_29 : decode cX16_made 29 = .ok (.aload_n 0, 1) := by decide +kernel
theorem dX16_made_30 : decode cX16_made 30 = .ok (.getfield 140, 3) := by decide +kernel
theorem dX16_made_33 : decode cX16_made 33 = .ok (.iload 9, 2) := by decide +kernel
theorem dX16_made_35 : decode cX16_made 35 = .ok (.iload_n 2, 1) := by decide +kernel
theorem dX16_made_36 : decode cX16_made 36 = .ok (.iastore, 1) := by decide +kernel
theorem dX16_made_37 : decode cX16_made 37 = .ok (.aload_n 0, 1) := by decide +kernel
theorem dX16_made_38 : decode cX16_made 38 = .ok (.getfield 143, 3) := by decide +kernel
theorem dX16_made_41 : decode cX16_made 41 = .ok (.iload 9, 2) := by decide +kernel
theorem dX16_made_43 : decode cX16_made 43 = .ok (.iload_n 3, 1) := by decide +kernel
theorem dX16_made_44 : decode cX16_made 44 = .ok (.iastore, 1) := by decide +kernel
theorem dX16_made_45 : decode cX16_made 45 = .ok (.aload_n 0, 1) := by decide +kernel
theorem dX16_made_46 : decode cX16_made 46 = .ok (.getfield 146, 3) := by decide +kernel
theorem dX16_made_49 : decode cX16_made 49 = .ok (.iload 9, 2) := by decide +kernel
theorem dX16_made_51 : decode cX16_made 51 = .ok (.iload 4, 2) := by decide +kernel
theorem dX16_made_53 : decode cX16_made 53 = .ok (.iastore, 1) := by decide +kernel
theorem dX16_made_54 : decode cX16_made 54 = .ok (.aload_n 0, 1) := by decide +kernel
theorem dX16_made_55 : decode cX16_made 55 = .ok (.getfield 149, 3) := by decide +kernel
theorem dX16_made_58 : decode cX16_made 58 = .ok (.iload 9, 2) := by decide +kernel
theorem dX16_made_60 : decode cX16_made 60 = .ok (.iload 5, 2) := by decide +kernel
theorem dX16_made_62 : decode cX16_made 62 = .ok (.iastore, 1) := by decide +kernel
theorem dX16_made_63 : decode cX16_made 63 = .ok (.aload_n 0, 1) := by decide +kernel
theorem dX16_made_64 : decode cX16_made 64 = .ok (.getfield 152, 3) := by decide +kernel
theorem dX16_made_67 : decode cX16_made 67 = .ok (.iload 9, 2) := by decide +kernel
theorem dX16_made_69 : decode cX16_made 69 = .ok (.iload 6, 2) := by decide +kernel
theorem dX16_made_71 : decode cX16_made 71 = .ok (.iastore, 1) := by decide +kernel
theorem dX16_made_72 : decode cX16_made 72 = .ok (.aload_n 0, 1) := by decide +kernel
theorem dX16_made_73 : decode cX16_made 73 = .ok (.getfield 155, 3) := by decide +kernel
theorem dX16_made_76 : decode cX16_made 76 = .ok (.iload 9, 2) := by decide +kernel
theorem dX16_made_78 : decode cX16_made 78 = .ok (.iload 7, 2) := by decide +kernel
theorem dX16_made_80 : decode cX16_made 80 = .ok (.iastore, 1) := by decide +kernel
theorem dX16_made_81 : decode cX16_made 81 = .ok (.aload_n 0, 1) := by decide +kernel
theorem dX16_made_82 : decode cX16_made 82 = .ok (.getfield 158, 3) := by decide +kernel
theorem dX16_made_85 : decode cX16_made 85 = .ok (.iload 9, 2) := by decide +kernel
theorem dX16_made_87 : decode cX16_made 87 = .ok (.iload 8, 2) := by decide +kernel
theorem dX16_made_89 : decode cX16_made 89 = .ok (.iastore, 1) := by decide +kernel
theorem dX16_made_90 : decode cX16_made 90 = .ok (.aload_n 0, 1) := by decide +kernel
theorem dX16_made_91 : decode cX16_made 91 = .ok (.getfield 161, 3) := by decide +kernel
theorem dX16_made_94 : decode cX16_made 94 = .ok (.iload 9, 2) := by decide +kernel
theorem dX16_made_96 : decode cX16_made 96 = .ok (.iload_n 1, 1) := by decide +kernel
theorem dX16_made_97 : decode cX16_made 97 = .ok (.bipush 6, 2) := by decide +kernel
theorem dX16_made_99 : decode cX16_made 99 = .ok (.if_icmp .eq 30, 3) := by decide +kernel
theorem dX16_made_102 : decode cX16_made 102 = .ok (.iload_n 1, 1) := by decide +kernel
theorem dX16_made_103 : decode cX16_made 103 = .ok (.ifCond .eq 12, 3) := by decide +kernel
theorem dX16_made_106 : decode cX16_made 106 = .ok (.aload_n 0, 1) := by decide +kernel
theorem dX16_made_107 : decode cX16_made 107 = .ok (.getfield 161, 3) := by decide +kernel
theorem dX16_made_110 : decode cX16_made 110 = .ok (.iload_n 2, 1) := by decide +kernel
theorem dX16_made_111 : decode cX16_made 111 = .ok (.baload, 1) := by decide +kernel
theorem dX16_made_112 : decode cX16_made 112 = .ok (.ifCond .ne 17, 3) := by decide +kernel
theorem dX16_made_115 : decode cX16_made 115 = .ok (.iload_n 3, 1) := by decide +kernel
theorem dX16_made_116 : decode cX16_made 116 = .ok (.iconst (-1), 1) := by decide +kernel
theorem dX16_made_117 : decode cX16_made 117 = .ok (.if_icmp .eq 16, 3) := by decide +kernel
theorem dX16_made_120 : decode cX16_made 120 = .ok (.aload_n 0, 1) := by decide +kernel
theorem dX16_made_121 : decode cX16_made 121 = .ok (.getfield 161, 3) := by decide +kernel
theorem dX16_made_124 : decode cX16_made 124 = .ok (.iload_n 3, 1) := by decide +kernel
theorem dX16_made_125 : decode cX16_made 125 = .ok (.baload, 1) := by decide +kernel
theorem dX16_made_126 : decode cX16_made 126 = .ok (.ifCond .eq 7, 3) := by decide +kernel
theorem dX16_made_129 : decode cX16_made 129 = .ok (.iconst 1, 1) := by decide +kernel
theorem dX16_made_130 : decode cX16_made 130 = .ok (.goto 4, 3) := by decide +kernel
theorem dX16_made_133 : decode cX16_made 133 = .ok (.iconst 0, 1) := by decide +kernel
theorem dX16_made_134 : decode cX16_made 134 = .ok (.bastore, 1) := by decide +kernel
theorem dX16_made_135 : decode cX16_made 135 = .ok (.aload_n 0, 1) := by decide +kernel
theorem dX16_made_136 : decode cX16_made 136 = .ok (.iconst 4, 1) := by decide +kernel
theorem dX16_made_137 : decode cX16_made 137 = .ok (.iload 9, 2) := by decide +kernel
theorem dX16_made_139 : decode cX16_made 139 = .ok (.iconst 0, 1) := by decide +kernel
theorem dX16_made_140 : decode cX16_made 140 = .ok (.invokevirtual 80, 3) := by decide +kernel
theorem dX16_made_143 : decode cX16_made 143 = .ok (.pop, 1) := by decide +kernel
theorem dX16_made_144 : decode cX16_made 144 = .ok (.aload_n 0, 1) := by decide +kernel
theorem dX16_made_145 : decode cX16_made 145 = .ok (.dup, 1) := by decide +kernel
theorem dX16_made_146 : decode cX16_made 146 = .ok (.getfield 55, 3) := by decide +kernel
theorem dX16_made_149 : decode cX16_made 149 = .ok (.iconst 1, 1) := by decide +kernel
theorem dX16_made_150 : decode cX16_made 150 = .ok (.iadd, 1) := by decide +kernel
theorem dX16_made_151 : decode cX16_made 151 = .ok (.putfield 55, 3) := by decide +kernel
theorem dX16_made_154 : decode cX16_made 154 = .ok (.aload_n 0, 1) := by decide +kernel
theorem dX16_made_155 : decode cX16_made 155 = .ok (.iload 9, 2) := by decide +kernel
theorem dX16_made_157 : decode cX16_made 157 = .ok (.invokevirtual 84, 3) := by decide +kernel
theorem dX16_made_160 : decode cX16_made 160 = .ok (.ireturn, 1) := by decide +kernel
theorem dX16_base_0 : decode cX16_base 0 = .ok (.aload_n 0, 1) := by decide +kernel
theorem dX16_base_1 : decode cX16_base 1 = .ok (.iconst 0, 1) := by decide +kernel
theorem dX16_base_2 : decode cX16_base 2 = .ok (.putfield 1, 3) := by decide +kernel
theorem dX16_base_5 : decode cX16_base 5 = .ok (.aload_n 0, 1) := by decide +kernel
theorem dX16_base_6 : decode cX16_base 6 = .ok (.iload_n 1, 1) := by decide +kernel
theorem dX16_base_7 : decode cX16_base 7 = .ok (.invokevirtual 87, 3) := by decide +kernel
theorem dX16_base_10 : decode cX16_base 10 = .ok (.ifCond .eq 23, 3) := by decide +kernel
theorem dX16_base_13 : decode cX16_base 13 = .ok (.aload_n 0, 1) := by decide +kernel
theorem dX16_base_14 : decode cX16_base 14 = .ok (.iconst 0, 1) := by decide +kernel
theorem dX16_base_15 : decode cX16_base 15 = .ok (.iload_n 1, 1) := by decide +kernel
theorem dX16_base_16 : decode cX16_base 16 = .ok (.iconst (-1), 1) := by decide +kernel
theorem dX16_base_17 : decode cX16_base 17 = .ok (.aload_n 0, 1) := by decide +kernel
theorem dX16_base_18 : decode cX16_base 18 = .ok (.getfield 76, 3) := by decide +kernel
theorem dX16_base_21 : decode cX16_base 21 = .ok (.iload_n 1, 1) := by decide +kernel
theorem dX16_base_22 : decode cX16_base 22 = .ok (.iaload, 1) := by decide +kernel
theorem dX16_base_23 : decode cX16_base 23 = .ok (.iconst 0, 1) := by decide +kernel
theorem dX16_base_24 : decode cX16_base 24 = .ok (.iconst 0, 1) := by decide +kernel
theorem dX16_base_25 : decode cX16_base 25 = .ok (.iconst 0, 1) := by decide +kernel
theorem dX16_base_26 : decode cX16_base 26 = .ok (.iconst 0, 1) := by decide +kernel
theorem dX16_base_27 : decode cX16_base 27 = .ok (.invokevirtual 164, 3) := by decide +kernel
theorem dX16_base_30 : decode cX16_base 30 = .ok (.goto 8, 3) := by decide +kernel
theorem dX16_base_33 : decode cX16_base 33 = .ok (.aload_n 0, 1) := by decide +kernel
theorem dX16_base_34 : decode cX16_base 34 = .ok (.iconst 1, 1) := by decide +kernel
theorem dX16_base_35 : decode cX16_base 35 = .ok (.invokevirtual 72, 3) := by decide +kernel
theorem dX16_base_38 : decode cX16_base 38 = .ok (.ireturn, 1) := by decide +kernel
theorem dX16_pick_0 : decode cX16_pick 0 = .ok (.aload_n 0, 1) := by decide +kernel
theorem dX16_pick_1 : decode cX16_pick 1 = .ok (.iconst 0, 1) := by decide +kernel
theorem dX16_pick_2 : decode cX16_pick 2 = .ok (.putfield 1, 3) := by decide +kernel
theorem dX16_pick_5 : decode cX16_pick 5 = .ok (.aload_n 0, 1) := by decide +kernel
theorem dX16_pick_6 : decode cX16_pick 6 = .ok (.iload_n 1, 1) := by decide +kernel
theorem dX16_pick_7 : decode cX16_pick 7 = .ok (.invokevirtual 168, 3) := by decide +kernel
theorem dX16_pick_10 : decode cX16_pick 10 = .ok (.ifCond .ne 9, 3) := by decide +kernel
theorem dX16_pick_13 : decode cX16_pick 13 = .ok (.aload_n 0, 1) := by decide +kernel
theorem dX16_pick_14 : decode cX16_pick 14 = .ok (.iconst 1, 1) := by decide +kernel
theorem dX16_pick_15 : decode cX16_pick 15 = .ok (.invokevirtual 72, 3) := by decide +kernel
theorem dX16_pick_18 : decode cX16_pick 18 = .ok (.ireturn, 1) := by decide +kernel
theorem dX16_pick_19 : decode cX16_pick 19 = .ok (.iload_n 2, 1) := by decide +kernel
theorem dX16_pick_20 : decode cX16_pick 20 = .ok (.aload_n 0, 1) := by decide +kernel
theorem dX16_pick_21 : decode cX16_pick 21 = .ok (.getfield 146, 3) := by decide +kernel
theorem dX16_pick_24 : decode cX16_pick 24 = .ok (.iload_n 1, 1) := by decide +kernel
theorem dX16_pick_25 : decode cX16_pick 25 = .ok (.iaload, 1) := by decide +kernel
theorem dX16_pick_26 : decode cX16_pick 26 = .ok (.invokestatic 171, 3) := by decide +kernel
theorem dX16_pick_29 : decode cX16_pick 29 = .ok (.ifCond .eq 23, 3) := by decide +kernel
theorem dX16_pick_32 : decode cX16_pick 32 = .ok (.aload_n 0, 1) := by decide +kernel
theorem dX16_pick_33 : decode cX16_pick 33 = .ok (.iconst 1, 1) := by decide +kernel
theorem dX16_pick_34 : decode cX16_pick 34 = .ok (.iload_n 1, 1) := by decide +kernel
theorem dX16_pick_35 : decode cX16_pick 35 = .ok (.iconst (-1), 1) := by decide +kernel
theorem dX16_pick_36 : decode cX16_pick 36 = .ok (.aload_n 0, 1) := by decide +kernel
theorem dX16_pick_37 : decode cX16_pick 37 = .ok (.getfield 146, 3) := by decide +kernel
theorem dX16_pick_40 : decode cX16_pick 40 = .ok (.iload_n 1, 1) := by decide +kernel
theorem dX16_pick_41 : decode cX16_pick 41 = .ok (.iaload, 1) := by decide +kernel
theorem dX16_pick_42 : decode cX16_pick 42 = .ok (.iload_n 2, 1) := by decide +kernel
theorem dX16_pick_43 : decode cX16_pick 43 = .ok (.iload_n 3, 1) := by decide +kernel
theorem dX16_pick_44 : decode cX16_pick 44 = .ok (.iconst 0, 1) := by decide +kernel
theorem dX16_pick_45 : decode cX16_pick 45 = .ok (.iconst 0, 1) := by decide +kernel
theorem dX16_pick_46 : decode cX16_pick 46 = .ok (.invokevirtual 164, 3) := by decide +kernel
theorem dX16_pick_49 : decode cX16_pick 49 = .ok (.goto 8, 3) := by decide +kernel
theorem dX16_pick_52 : decode cX16_pick 52 = .ok (.aload_n 0, 1) := by decide +kernel
theorem dX16_pick_53 : decode cX16_pick 53 = .ok (.iconst 2, 1) := by decide +kernel
theorem dX16_pick_54 : decode cX16_pick 54 = .ok (.invokevirtual 72, 3) := by decide +kernel
theorem dX16_pick_57 : decode cX16_pick 57 = .ok (.ireturn, 1) := by decide +kernel
theorem dX16_like_0 : decode cX16_like 0 = .ok (.aload_n 0, 1) := by decide +kernel
theorem dX16_like_1 : decode cX16_like 1 = .ok (.iconst 0, 1) := by decide +kernel
theorem dX16_like_2 : decode cX16_like 2 = .ok (.putfield 1, 3) := by decide +kernel
theorem dX16_like_5 : decode cX16_like 5 = .ok (.aload_n 0, 1) := by decide +kernel
theorem dX16_like_6 : decode cX16_like 6 = .ok (.iload_n 1, 1) := by decide +kernel
theorem dX16_like_7 : decode cX16_like 7 = .ok (.invokevirtual 168, 3) := by decide +kernel
theorem dX16_like_10 : decode cX16_like 10 = .ok (.ifCond .ne 9, 3) := by decide +kernel
theorem dX16_like_13 : decode cX16_like 13 = .ok (.aload_n 0, 1) := by decide +kernel
theorem dX16_like_14 : decode cX16_like 14 = .ok (.iconst 1, 1) := by decide +kernel
theorem dX16_like_15 : decode cX16_like 15 = .ok (.invokevirtual 72, 3) := by decide +kernel
theorem dX16_like_18 : decode cX16_like 18 = .ok (.ireturn, 1) := by decide +kernel
theorem dX16_like_19 : decode cX16_like 19 = .ok (.iload_n 2, 1) := by decide +kernel
theorem dX16_like_20 : decode cX16_like 20 = .ok (.aload_n 0, 1) := by decide +kernel
theorem dX16_like_21 : decode cX16_like 21 = .ok (.getfield 146, 3) := by decide +kernel
theorem dX16_like_24 : decode cX16_like 24 = .ok (.iload_n 1, 1) := by decide +kernel
theorem dX16_like_25 : decode cX16_like 25 = .ok (.iaload, 1) := by decide +kernel
theorem dX16_like_26 : decode cX16_like 26 = .ok (.invokestatic 171, 3) := by decide +kernel
theorem dX16_like_29 : decode cX16_like 29 = .ok (.ifCond .eq 20, 3) := by decide +kernel
theorem dX16_like_32 : decode cX16_like 32 = .ok (.iload_n 3, 1) := by decide +kernel
theorem dX16_like_33 : decode cX16_like 33 = .ok (.aload_n 0, 1) := by decide +kernel
theorem dX16_like_34 : decode cX16_like 34 = .ok (.getfield 146, 3) := by decide +kernel
theorem dX16_like_37 : decode cX16_like 37 = .ok (.iload_n 1, 1) := by decide +kernel
theorem dX16_like_38 : decode cX16_like 38 = .ok (.iaload, 1) := by decide +kernel
theorem dX16_like_39 : decode cX16_like 39 = .ok (.invokestatic 171, 3) := by decide +kernel
theorem dX16_like_42 : decode cX16_like 42 = .ok (.ifCond .eq 7, 3) := by decide +kernel
theorem dX16_like_45 : decode cX16_like 45 = .ok (.iconst 1, 1) := by decide +kernel
theorem dX16_like_46 : decode cX16_like 46 = .ok (.goto 4, 3) := by decide +kernel
theorem dX16_like_49 : decode cX16_like 49 = .ok (.iconst 0, 1) := by decide +kernel
theorem dX16_like_50 : decode cX16_like 50 = .ok (.istore 4, 2) := by decide +kernel
theorem dX16_like_52 : decode cX16_like 52 = .ok (.iload 4, 2) := by decide +kernel
theorem dX16_like_54 : decode cX16_like 54 = .ok (.ifCond .eq 23, 3) := by decide +kernel
theorem dX16_like_57 : decode cX16_like 57 = .ok (.aload_n 0, 1) := by decide +kernel
theorem dX16_like_58 : decode cX16_like 58 = .ok (.iconst 2, 1) := by decide +kernel
theorem dX16_like_59 : decode cX16_like 59 = .ok (.iload_n 1, 1) := by decide +kernel
theorem dX16_like_60 : decode cX16_like 60 = .ok (.iconst (-1), 1) := by decide +kernel
theorem dX16_like_61 : decode cX16_like 61 = .ok (.aload_n 0, 1) := by decide +kernel
theorem dX16_like_62 : decode cX16_like 62 = .ok (.getfield 146, 3) := by decide +kernel
theorem dX16_like_65 : decode cX16_like 65 = .ok (.iload_n 1, 1) := by decide +kernel
theorem dX16_like_66 : decode cX16_like 66 = .ok (.iaload, 1) := by decide +kernel
theorem dX16_like_67 : decode cX16_like 67 = .ok (.iload_n 2, 1) := by decide +kernel
theorem dX16_like_68 : decode cX16_like 68 = .ok (.iload_n 3, 1) := by decide +kernel
theorem dX16_like_69 : decode cX16_like 69 = .ok (.iconst 0, 1) := by decide +kernel
theorem dX16_like_70 : decode cX16_like 70 = .ok (.iconst 0, 1) := by decide +kernel
theorem dX16_like_71 : decode cX16_like 71 = .ok (.invokevirtual 164, 3) := by decide +kernel
theorem dX16_like_74 : decode cX16_like 74 = .ok (.goto 8, 3) := by decide +kernel
theorem dX16_like_77 : decode cX16_like 77 = .ok (.aload_n 0, 1) := by decide +kernel
theorem dX16_like_78 : decode cX16_like 78 = .ok (.iconst 2, 1) := by decide +kernel
theorem dX16_like_79 : decode cX16_like 79 = .ok (.invokevirtual 72, 3) := by decide +kernel
theorem dX16_like_82 : decode cX16_like 82 = .ok (.ireturn, 1) := by decide +kernel
theorem dX16_cut_0 : decode cX16_cut 0 = .ok (.aload_n 0, 1) := by decide +kernel
theorem dX16_cut_1 : decode cX16_cut 1 = .ok (.iconst 0, 1) := by decide +kernel
theorem dX16_cut_2 : decode cX16_cut 2 = .ok (.putfield 1, 3) := by decide +kernel
theorem dX16_cut_5 : decode cX16_cut 5 = .ok (.aload_n 0, 1) := by decide +kernel
theorem dX16_cut_6 : decode cX16_cut 6 = .ok (.iload_n 1, 1) := by decide +kernel
theorem dX16_cut_7 : decode cX16_cut 7 = .ok (.invokevirtual 168, 3) := by decide +kernel
theorem dX16_cut_10 : decode cX16_cut 10 = .ok (.ifCond .ne 9, 3) := by decide +kernel
theorem dX16_cut_13 : decode cX16_cut 13 = .ok (.aload_n 0, 1) := by decide +kernel
theorem dX16_cut_14 : decode cX16_cut 14 = .ok (.iconst 1, 1) := by decide +kernel
theorem dX16_cut_15 : decode cX16_cut 15 = .ok (.invokevirtual 72, 3) := by decide +kernel
theorem dX16_cut_18 : decode cX16_cut 18 = .ok (.ireturn, 1) := by decide +kernel
theorem dX16_cut_19 : decode cX16_cut 19 = .ok (.aload_n 0, 1) := by decide +kernel
theorem dX16_cut_20 : decode cX16_cut 20 = .ok (.getfield 146, 3) := by decide +kernel
theorem dX16_cut_23 : decode cX16_cut 23 = .ok (.iload_n 1, 1) := by decide +kernel
theorem dX16_cut_24 : decode cX16_cut 24 = .ok (.iaload, 1) := by decide +kernel
theorem dX16_cut_25 : decode cX16_cut 25 = .ok (.istore 7, 2) := by decide +kernel
theorem dX16_cut_27 : decode cX16_cut 27 = .ok (.iload_n 2, 1) := by decide +kernel
theorem dX16_cut_28 : decode cX16_cut 28 = .ok (.ifCond .le 66, 3) := by decide +kernel
theorem dX16_cut_31 : decode cX16_cut 31 = .ok (.iload_n 2, 1) := by decide +kernel
theorem dX16_cut_32 : decode cX16_cut 32 = .ok (.iconst 5, 1) := by decide +kernel
theorem dX16_cut_33 : decode cX16_cut 33 = .ok (.if_icmp .ge 61, 3) := by decide +kernel
theorem dX16_cut_36 : decode cX16_cut 36 = .ok (.iload_n 3, 1) := by decide +kernel
theorem dX16_cut_37 : decode cX16_cut 37 = .ok (.iload 7, 2) := by decide +kernel
theorem dX16_cut_39 : decode cX16_cut 39 = .ok (.invokestatic 171, 3) := by decide +kernel
theorem dX16_cut_42 : decode cX16_cut 42 = .ok (.ifCond .eq 52, 3) := by decide +kernel
theorem dX16_cut_45 : decode cX16_cut 45 = .ok (.iload_n 2, 1) := by decide +kernel
theorem dX16_cut_46 : decode cX16_cut 46 = .ok (.iconst 2, 1) := by decide +kernel
theorem dX16_cut_47 : decode cX16_cut 47 = .ok (.if_icmp .lt 13, 3) := by decide +kernel
theorem dX16_cut_50 : decode cX16_cut 50 = .ok (.iload 4, 2) := by decide +kernel
theorem dX16_cut_52 : decode cX16_cut 52 = .ok (.iload 7, 2) := by decide +kernel
theorem dX16_cut_54 : decode cX16_cut 54 = .ok (.invokestatic 171, 3) := by decide +kernel
theorem dX16_cut_57 : decode cX16_cut 57 = .ok (.ifCond .eq 37, 3) := by decide +kernel
theorem dX16_cut_60 : decode cX16_cut 60 = .ok (.iload_n 2, 1) := by decide +kernel
theorem dX16_cut_61 : decode cX16_cut 61 = .ok (.iconst 3, 1) := by decide +kernel
theorem dX16_cut_62 : decode cX16_cut 62 = .ok (.if_icmp .lt 13, 3) := by decide +kernel
theorem dX16_cut_65 : decode cX16_cut 65 = .ok (.iload 5, 2) := by decide +kernel
theorem dX16_cut_67 : decode cX16_cut 67 = .ok (.iload 7, 2) := by decide +kernel
theorem dX16_cut_69 : decode cX16_cut 69 = .ok (.invokestatic 171, 3) := by decide +kernel
theorem dX16_cut_72 : decode cX16_cut 72 = .ok (.ifCond .eq 22, 3) := by decide +kernel
theorem dX16_cut_75 : decode cX16_cut 75 = .ok (.iload_n 2, 1) := by decide +kernel
theorem dX16_cut_76 : decode cX16_cut 76 = .ok (.iconst 4, 1) := by decide +kernel
theorem dX16_cut_77 : decode cX16_cut 77 = .ok (.if_icmp .lt 13, 3) := by decide +kernel
theorem dX16_cut_80 : decode cX16_cut 80 = .ok (.iload 6, 2) := by decide +kernel
theorem dX16_cut_82 : decode cX16_cut 82 = .ok (.iload 7, 2) := by decide +kernel
theorem dX16_cut_84 : decode cX16_cut 84 = .ok (.invokestatic 171, 3) := by decide +kernel
theorem dX16_cut_87 : decode cX16_cut 87 = .ok (.ifCond .eq 7, 3) := by decide +kernel
theorem dX16_cut_90 : decode cX16_cut 90 = .ok (.iconst 1, 1) := by decide +kernel
theorem dX16_cut_91 : decode cX16_cut 91 = .ok (.goto 4, 3) := by decide +kernel
theorem dX16_cut_94 : decode cX16_cut 94 = .ok (.iconst 0, 1) := by decide +kernel
theorem dX16_cut_95 : decode cX16_cut 95 = .ok (.istore 8, 2) := by decide +kernel
theorem dX16_cut_97 : decode cX16_cut 97 = .ok (.iload 8, 2) := by decide +kernel
theorem dX16_cut_99 : decode cX16_cut 99 = .ok (.ifCond .eq 21, 3) := by decide +kernel
theorem dX16_cut_102 : decode cX16_cut 102 = .ok (.aload_n 0, 1) := by decide +kernel
theorem dX16_cut_103 : decode cX16_cut 103 = .ok (.iconst 3, 1) := by decide +kernel
theorem dX16_cut_104 : decode cX16_cut 104 = .ok (.iload_n 1, 1) := by decide +kernel
theorem dX16_cut_105 : decode cX16_cut 105 = .ok (.iconst (-1), 1) := by decide +kernel
theorem dX16_cut_106 : decode cX16_cut 106 = .ok (.iload_n 2, 1) := by decide +kernel
theorem dX16_cut_107 : decode cX16_cut 107 = .ok (.iload_n 3, 1) := by decide +kernel
theorem dX16_cut_108 : decode cX16_cut 108 = .ok (.iload 4, 2) := by decide +kernel
theorem dX16_cut_110 : decode cX16_cut 110 = .ok (.iload 5, 2) := by decide +kernel
theorem dX16_cut_112 : decode cX16_cut 112 = .ok (.iload 6, 2) := by decide +kernel
theorem dX16_cut_114 : decode cX16_cut 114 = .ok (.invokevirtual 164, 3) := by decide +kernel
theorem dX16_cut_117 : decode cX16_cut 117 = .ok (.goto 8, 3) := by decide +kernel
theorem dX16_cut_120 : decode cX16_cut 120 = .ok (.aload_n 0, 1) := by decide +kernel
theorem dX16_cut_121 : decode cX16_cut 121 = .ok (.iconst 2, 1) := by decide +kernel
theorem dX16_cut_122 : decode cX16_cut 122 = .ok (.invokevirtual 72, 3) := by decide +kernel
theorem dX16_cut_125 : decode cX16_cut 125 = .ok (.ireturn, 1) := by decide +kernel
theorem dX16_pair_0 : decode cX16_pair 0 = .ok (.aload_n 0, 1) := by decide +kernel
theorem dX16_pair_1 : decode cX16_pair 1 = .ok (.iconst 0, 1) := by decide +kernel
theorem dX16_pair_2 : decode cX16_pair 2 = .ok (.putfield 1, 3) := by decide +kernel
theorem dX16_pair_5 : decode cX16_pair 5 = .ok (.aload_n 0, 1) := by decide +kernel
theorem dX16_pair_6 : decode cX16_pair 6 = .ok (.iload_n 1, 1) := by decide +kernel
theorem dX16_pair_7 : decode cX16_pair 7 = .ok (.invokevirtual 168, 3) := by decide +kernel
theorem dX16_pair_10 : decode cX16_pair 10 = .ok (.ifCond .eq 11, 3) := by decide +kernel
theorem dX16_pair_13 : decode cX16_pair 13 = .ok (.aload_n 0, 1) := by decide +kernel
theorem dX16_pair_14 : decode cX16_pair 14 = .ok (.iload_n 2, 1) := by decide +kernel
theorem dX16_pair_15 : decode cX16_pair 15 = .ok (.invokevirtual 168, 3) := by decide +kernel
theorem dX16_pair_18 : decode cX16_pair 18 = .ok (.ifCond .ne 9, 3) := by decide +kernel
theorem dX16_pair_21 : decode cX16_pair 21 = .ok (.aload_n 0, 1) := by decide +kernel
theorem dX16_pair_22 : decode cX16_pair 22 = .ok (.iconst 1, 1) := by decide +kernel
theorem dX16_pair_23 : decode cX16_pair 23 = .ok (.invokevirtual 72, 3) := by decide +kernel
theorem dX16_pair_26 : decode cX16_pair 26 = .ok (.ireturn, 1) := by decide +kernel
theorem dX16_pair_27 : decode cX16_pair 27 = .ok (.iload_n 3, 1) := by decide +kernel
theorem dX16_pair_28 : decode cX16_pair 28 = .ok (.aload_n 0, 1) := by decide +kernel
theorem dX16_pair_29 : decode cX16_pair 29 = .ok (.getfield 146, 3) := by decide +kernel
theorem dX16_pair_32 : decode cX16_pair 32 = .ok (.iload_n 1, 1) := by decide +kernel
theorem dX16_pair_33 : decode cX16_pair 33 = .ok (.iaload, 1) := by decide +kernel
theorem dX16_pair_34 : decode cX16_pair 34 = .ok (.invokestatic 171, 3) := by decide +kernel
theorem dX16_pair_37 : decode cX16_pair 37 = .ok (.ifCond .eq 17, 3) := by decide +kernel
theorem dX16_pair_40 : decode cX16_pair 40 = .ok (.iload 4, 2) := by decide +kernel
theorem dX16_pair_42 : decode cX16_pair 42 = .ok (.aload_n 0, 1) := by decide +kernel
theorem dX16_pair_43 : decode cX16_pair 43 = .ok (.getfield 146, 3) := by decide +kernel
theorem dX16_pair_46 : decode cX16_pair 46 = .ok (.iload_n 2, 1) := by decide +kernel
theorem dX16_pair_47 : decode cX16_pair 47 = .ok (.iaload, 1) := by decide +kernel
theorem dX16_pair_48 : decode cX16_pair 48 = .ok (.invokestatic 171, 3) := by decide +kernel
theorem dX16_pair_51 : decode cX16_pair 51 = .ok (.ifCond .ne 9, 3) := by decide +kernel
theorem dX16_pair_54 : decode cX16_pair 54 = .ok (.aload_n 0, 1) := by decide +kernel
theorem dX16_pair_55 : decode cX16_pair 55 = .ok (.iconst 2, 1) := by decide +kernel
theorem dX16_pair_56 : decode cX16_pair 56 = .ok (.invokevirtual 72, 3) := by decide +kernel
theorem dX16_pair_59 : decode cX16_pair 59 = .ok (.ireturn, 1) := by decide +kernel
theorem dX16_pair_60 : decode cX16_pair 60 = .ok (.aload_n 0, 1) := by decide +kernel
theorem dX16_pair_61 : decode cX16_pair 61 = .ok (.getfield 146, 3) := by decide +kernel
theorem dX16_pair_64 : decode cX16_pair 64 = .ok (.iload_n 1, 1) := by decide +kernel
theorem dX16_pair_65 : decode cX16_pair 65 = .ok (.iaload, 1) := by decide +kernel
theorem dX16_pair_66 : decode cX16_pair 66 = .ok (.aload_n 0, 1) := by decide +kernel
theorem dX16_pair_67 : decode cX16_pair 67 = .ok (.getfield 146, 3) := by decide +kernel
theorem dX16_pair_70 : decode cX16_pair 70 = .ok (.iload_n 2, 1) := by decide +kernel
theorem dX16_pair_71 : decode cX16_pair 71 = .ok (.iaload, 1) := by decide +kernel
theorem dX16_pair_72 : decode cX16_pair 72 = .ok (.iadd, 1) := by decide +kernel
theorem dX16_pair_73 : decode cX16_pair 73 = .ok (.istore 5, 2) := by decide +kernel
theorem dX16_pair_75 : decode cX16_pair 75 = .ok (.iload 5, 2) := by decide +kernel
theorem dX16_pair_77 : decode cX16_pair 77 = .ok (.bipush 6, 2) := by decide +kernel
theorem dX16_pair_79 : decode cX16_pair 79 = .ok (.if_icmp .le 11, 3) := by decide +kernel
theorem dX16_pair_82 : decode cX16_pair 82 = .ok (.aload_n 0, 1) := by decide +kernel
theorem dX16_pair_83 : decode cX16_pair 83 = .ok (.iconst 3, 1) := by decide +kernel
theorem dX16_pair_84 : decode cX16_pair 84 = .ok (.invokevirtual 72, 3) := by decide +kernel
theorem dX16_pair_87 : decode cX16_pair 87 = .ok (.goto 17, 3) := by decide +kernel
theorem dX16_pair_90 : decode cX16_pair 90 = .ok (.aload_n 0, 1) := by decide +kernel
theorem dX16_pair_91 : decode cX16_pair 91 = .ok (.iconst 4, 1) := by decide +kernel
theorem dX16_pair_92 : decode cX16_pair 92 = .ok (.iload_n 1, 1) := by decide +kernel
theorem dX16_pair_93 : decode cX16_pair 93 = .ok (.iload_n 2, 1) := by decide +kernel
theorem dX16_pair_94 : decode cX16_pair 94 = .ok (.iload 5, 2) := by decide +kernel
theorem dX16_pair_96 : decode cX16_pair 96 = .ok (.iload_n 3, 1) := by decide +kernel
theorem dX16_pair_97 : decode cX16_pair 97 = .ok (.iload 4, 2) := by decide +kernel
theorem dX16_pair_99 : decode cX16_pair 99 = .ok (.iconst 0, 1) := by decide +kernel
theorem dX16_pair_100 : decode cX16_pair 100 = .ok (.iconst 0, 1) := by decide +kernel
theorem dX16_pair_101 : decode cX16_pair 101 = .ok (.invokevirtual 164, 3) := by decide +kernel
theorem dX16_pair_104 : decode cX16_pair 104 = .ok (.ireturn, 1) := by decide +kernel
theorem dX16_either_0 : decode cX16_either 0 = .ok (.aload_n 0, 1) := by decide +kernel
theorem dX16_either_1 : decode cX16_either 1 = .ok (.iconst 0, 1) := by decide +kernel
theorem dX16_either_2 : decode cX16_either 2 = .ok (.putfield 1, 3) := by decide +kernel
theorem dX16_either_5 : decode cX16_either 5 = .ok (.aload_n 0, 1) := by decide +kernel
theorem dX16_either_6 : decode cX16_either 6 = .ok (.iload_n 1, 1) := by decide +kernel
theorem dX16_either_7 : decode cX16_either 7 = .ok (.invokevirtual 168, 3) := by decide +kernel
theorem dX16_either_10 : decode cX16_either 10 = .ok (.ifCond .eq 11, 3) := by decide +kernel
theorem dX16_either_13 : decode cX16_either 13 = .ok (.aload_n 0, 1) := by decide +kernel
theorem dX16_either_14 : decode cX16_either 14 = .ok (.iload_n 2, 1) := by decide +kernel
theorem dX16_either_15 : decode cX16_either 15 = .ok (.invokevirtual 168, 3) := by decide +kernel
theorem dX16_either_18 : decode cX16_either 18 = .ok (.ifCond .ne 9, 3) := by decide +kernel
theorem dX16_either_21 : decode cX16_either 21 = .ok (.aload_n 0, 1) := by decide +kernel
theorem dX16_either_22 : decode cX16_either 22 = .ok (.iconst 1, 1) := by decide +kernel
theorem dX16_either_23 : decode cX16_either 23 = .ok (.invokevirtual 72, 3) := by decide +kernel
theorem dX16_either_26 : decode cX16_either 26 = .ok (.ireturn, 1) := by decide +kernel
theorem dX16_either_27 : decode cX16_either 27 = .ok (.aload_n 0, 1) := by decide +kernel
theorem dX16_either_28 : decode cX16_either 28 = .ok (.getfield 146, 3) := by decide +kernel
theorem dX16_either_31 : decode cX16_either 31 = .ok (.iload_n 1, 1) := by decide +kernel
theorem dX16_either_32 : decode cX16_either 32 = .ok (.iaload, 1) := by decide +kernel
theorem dX16_either_33 : decode cX16_either 33 = .ok (.aload_n 0, 1) := by decide +kernel
theorem dX16_either_34 : decode cX16_either 34 = .ok (.getfield 146, 3) := by decide +kernel
theorem dX16_either_37 : decode cX16_either 37 = .ok (.iload_n 2, 1) := by decide +kernel
theorem dX16_either_38 : decode cX16_either 38 = .ok (.iaload, 1) := by decide +kernel
theorem dX16_either_39 : decode cX16_either 39 = .ok (.if_icmp .ne 23, 3) := by decide +kernel
theorem dX16_either_42 : decode cX16_either 42 = .ok (.aload_n 0, 1) := by decide +kernel
theorem dX16_either_43 : decode cX16_either 43 = .ok (.iconst 5, 1) := by decide +kernel
theorem dX16_either_44 : decode cX16_either 44 = .ok (.iload_n 1, 1) := by decide +kernel
theorem dX16_either_45 : decode cX16_either 45 = .ok (.iload_n 2, 1) := by decide +kernel
theorem dX16_either_46 : decode cX16_either 46 = .ok (.aload_n 0, 1) := by decide +kernel
theorem dX16_either_47 : decode cX16_either 47 = .ok (.getfield 146, 3) := by decide +kernel
theorem dX16_either_50 : decode cX16_either 50 = .ok (.iload_n 1, 1) := by decide +kernel
theorem dX16_either_51 : decode cX16_either 51 = .ok (.iaload, 1) := by decide +kernel
theorem dX16_either_52 : decode cX16_either 52 = .ok (.iconst 0, 1) := by decide +kernel
theorem dX16_either_53 : decode cX16_either 53 = .ok (.iconst 0, 1) := by decide +kernel
theorem dX16_either_54 : decode cX16_either 54 = .ok (.iconst 0, 1) := by decide +kernel
theorem dX16_either_55 : decode cX16_either 55 = .ok (.iconst 0, 1) := by decide +kernel
theorem dX16_either_56 : decode cX16_either 56 = .ok (.invokevirtual 164, 3) := by decide +kernel
theorem dX16_either_59 : decode cX16_either 59 = .ok (.goto 8, 3) := by decide +kernel
theorem dX16_either_62 : decode cX16_either 62 = .ok (.aload_n 0, 1) := by decide +kernel
theorem dX16_either_63 : decode cX16_either 63 = .ok (.iconst 3, 1) := by decide +kernel
theorem dX16_either_64 : decode cX16_either 64 = .ok (.invokevirtual 72, 3) := by decide +kernel
theorem dX16_either_67 : decode cX16_either 67 = .ok (.ireturn, 1) := by decide +kernel
theorem dX16_close_0 : decode cX16_close 0 = .ok (.aload_n 0, 1) := by decide +kernel
theorem dX16_close_1 : decode cX16_close 1 = .ok (.iconst 0, 1) := by decide +kernel
theorem dX16_close_2 : decode cX16_close 2 = .ok (.putfield 1, 3) := by decide +kernel
theorem dX16_close_5 : decode cX16_close 5 = .ok (.aload_n 0, 1) := by decide +kernel
theorem dX16_close_6 : decode cX16_close 6 = .ok (.iload_n 1, 1) := by decide +kernel
theorem dX16_close_7 : decode cX16_close 7 = .ok (.invokevirtual 168, 3) := by decide +kernel
theorem dX16_close_10 : decode cX16_close 10 = .ok (.ifCond .ne 9, 3) := by decide +kernel
theorem dX16_close_13 : decode cX16_close 13 = .ok (.aload_n 0, 1) := by decide +kernel
theorem dX16_close_14 : decode cX16_close 14 = .ok (.iconst 1, 1) := by decide +kernel
theorem dX16_close_15 : decode cX16_close 15 = .ok (.invokevirtual 72, 3) := by decide +kernel
theorem dX16_close_18 : decode cX16_close 18 = .ok (.ireturn, 1) := by decide +kernel
theorem dX16_close_19 : decode cX16_close 19 = .ok (.aload_n 0, 1) := by decide +kernel
theorem dX16_close_20 : decode cX16_close 20 = .ok (.getfield 146, 3) := by decide +kernel
theorem dX16_close_23 : decode cX16_close 23 = .ok (.iload_n 1, 1) := by decide +kernel
theorem dX16_close_24 : decode cX16_close 24 = .ok (.iaload, 1) := by decide +kernel
theorem dX16_close_25 : decode cX16_close 25 = .ok (.iconst 2, 1) := by decide +kernel
theorem dX16_close_26 : decode cX16_close 26 = .ok (.if_icmp .ne 19, 3) := by decide +kernel
theorem dX16_close_29 : decode cX16_close 29 = .ok (.aload_n 0, 1) := by decide +kernel
theorem dX16_close_30 : decode cX16_close 30 = .ok (.bipush 6, 2) := by decide +kernel
theorem dX16_close_32 : decode cX16_close 32 = .ok (.iload_n 1, 1) := by decide +kernel
theorem dX16_close_33 : decode cX16_close 33 = .ok (.iconst (-1), 1) := by decide +kernel
theorem dX16_close_34 : decode cX16_close 34 = .ok (.iconst 2, 1) := by decide +kernel
theorem dX16_close_35 : decode cX16_close 35 = .ok (.iconst 0, 1) := by decide +kernel
theorem dX16_close_36 : decode cX16_close 36 = .ok (.iconst 0, 1) := by decide +kernel
theorem dX16_close_37 : decode cX16_close 37 = .ok (.iconst 0, 1) := by decide +kernel
theorem dX16_close_38 : decode cX16_close 38 = .ok (.iconst 0, 1) := by decide +kernel
theorem dX16_close_39 : decode cX16_close 39 = .ok (.invokevirtual 164, 3) := by decide +kernel
theorem dX16_close_42 : decode cX16_close 42 = .ok (.goto 8, 3) := by decide +kernel
theorem dX16_close_45 : decode cX16_close 45 = .ok (.aload_n 0, 1) := by decide +kernel
theorem dX16_close_46 : decode cX16_close 46 = .ok (.iconst 3, 1) := by decide +kernel
theorem dX16_close_47 : decode cX16_close 47 = .ok (.invokevirtual 72, 3) := by decide +kernel
theorem dX16_close_50 : decode cX16_close 50 = .ok (.ireturn, 1) := by decide +kernel
theorem dX16_most_0 : decode cX16_most 0 = .ok (.aload_n 0, 1) := by decide +kernel
theorem dX16_most_1 : decode cX16_most 1 = .ok (.iconst 0, 1) := by decide +kernel
theorem dX16_most_2 : decode cX16_most 2 = .ok (.putfield 1, 3) := by decide +kernel
theorem dX16_most_5 : decode cX16_most 5 = .ok (.aload_n 0, 1) := by decide +kernel
theorem dX16_most_6 : decode cX16_most 6 = .ok (.iload_n 1, 1) := by decide +kernel
theorem dX16_most_7 : decode cX16_most 7 = .ok (.invokevirtual 168, 3) := by decide +kernel
theorem dX16_most_10 : decode cX16_most 10 = .ok (.ifCond .eq 11, 3) := by decide +kernel
theorem dX16_most_13 : decode cX16_most 13 = .ok (.aload_n 0, 1) := by decide +kernel
theorem dX16_most_14 : decode cX16_most 14 = .ok (.iload_n 2, 1) := by decide +kernel
theorem dX16_most_15 : decode cX16_most 15 = .ok (.invokevirtual 168, 3) := by decide +kernel
theorem dX16_most_18 : decode cX16_most 18 = .ok (.ifCond .ne 9, 3) := by decide +kernel
theorem dX16_most_21 : decode cX16_most 21 = .ok (.aload_n 0, 1) := by decide +kernel
theorem dX16_most_22 : decode cX16_most 22 = .ok (.iconst 1, 1) := by decide +kernel
theorem dX16_most_23 : decode cX16_most 23 = .ok (.invokevirtual 72, 3) := by decide +kernel
theorem dX16_most_26 : decode cX16_most 26 = .ok (.ireturn, 1) := by decide +kernel
theorem dX16_most_27 : decode cX16_most 27 = .ok (.aload_n 0, 1) := by decide +kernel
theorem dX16_most_28 : decode cX16_most 28 = .ok (.getfield 146, 3) := by decide +kernel
theorem dX16_most_31 : decode cX16_most 31 = .ok (.iload_n 1, 1) := by decide +kernel
theorem dX16_most_32 : decode cX16_most 32 = .ok (.iaload, 1) := by decide +kernel
theorem dX16_most_33 : decode cX16_most 33 = .ok (.aload_n 0, 1) := by decide +kernel
theorem dX16_most_34 : decode cX16_most 34 = .ok (.getfield 146, 3) := by decide +kernel
theorem dX16_most_37 : decode cX16_most 37 = .ok (.iload_n 2, 1) := by decide +kernel
theorem dX16_most_38 : decode cX16_most 38 = .ok (.iaload, 1) := by decide +kernel
theorem dX16_most_39 : decode cX16_most 39 = .ok (.if_icmp .ne 24, 3) := by decide +kernel
theorem dX16_most_42 : decode cX16_most 42 = .ok (.aload_n 0, 1) := by decide +kernel
theorem dX16_most_43 : decode cX16_most 43 = .ok (.bipush 7, 2) := by decide +kernel
theorem dX16_most_45 : decode cX16_most 45 = .ok (.iload_n 1, 1) := by decide +kernel
theorem dX16_most_46 : decode cX16_most 46 = .ok (.iload_n 2, 1) := by decide +kernel
theorem dX16_most_47 : decode cX16_most 47 = .ok (.aload_n 0, 1) := by decide +kernel
theorem dX16_most_48 : decode cX16_most 48 = .ok (.getfield 146, 3) := by decide +kernel
theorem dX16_most_51 : decode cX16_most 51 = .ok (.iload_n 1, 1) := by decide +kernel
theorem dX16_most_52 : decode cX16_most 52 = .ok (.iaload, 1) := by decide +kernel
theorem dX16_most_53 : decode cX16_most 53 = .ok (.iconst 0, 1) := by decide +kernel
theorem dX16_most_54 : decode cX16_most 54 = .ok (.iconst 0, 1) := by decide +kernel
theorem dX16_most_55 : decode cX16_most 55 = .ok (.iconst 0, 1) := by decide +kernel
theorem dX16_most_56 : decode cX16_most 56 = .ok (.iconst 0, 1) := by decide +kernel
theorem dX16_most_57 : decode cX16_most 57 = .ok (.invokevirtual 164, 3) := by decide +kernel
theorem dX16_most_60 : decode cX16_most 60 = .ok (.goto 8, 3) := by decide +kernel
theorem dX16_most_63 : decode cX16_most 63 = .ok (.aload_n 0, 1) := by decide +kernel
theorem dX16_most_64 : decode cX16_most 64 = .ok (.iconst 3, 1) := by decide +kernel
theorem dX16_most_65 : decode cX16_most 65 = .ok (.invokevirtual 72, 3) := by decide +kernel
theorem dX16_most_68 : decode cX16_most 68 = .ok (.ireturn, 1) := by decide +kernel
theorem dX16_kind_0 : decode cX16_kind 0 = .ok (.aload_n 0, 1) := by decide +kernel
theorem dX16_kind_1 : decode cX16_kind 1 = .ok (.iconst 0, 1) := by decide +kernel
theorem dX16_kind_2 : decode cX16_kind 2 = .ok (.putfield 1, 3) := by decide +kernel
theorem dX16_kind_5 : decode cX16_kind 5 = .ok (.aload_n 0, 1) := by decide +kernel
theorem dX16_kind_6 : decode cX16_kind 6 = .ok (.iload_n 1, 1) := by decide +kernel
theorem dX16_kind_7 : decode cX16_kind 7 = .ok (.invokevirtual 168, 3) := by decide +kernel
theorem dX16_kind_10 : decode cX16_kind 10 = .ok (.ifCond .ne 5, 3) := by decide +kernel
theorem dX16_kind_13 : decode cX16_kind 13 = .ok (.iconst (-1), 1) := by decide +kernel
theorem dX16_kind_14 : decode cX16_kind 14 = .ok (.ireturn, 1) := by decide +kernel
theorem dX16_kind_15 : decode cX16_kind 15 = .ok (.iload_n 2, 1) := by decide +kernel
theorem dX16_kind_16 : decode cX16_kind 16 = .ok (.tableswitch 79 0 4 #[36, 43, 50, 57, 64], 36) := by decide +kernel
theorem dX16_kind_52 : decode cX16_kind 52 = .ok (.aload_n 0, 1) := by decide +kernel
theorem dX16_kind_53 : decode cX16_kind 53 = .ok (.getfield 137, 3) := by decide +kernel
theorem dX16_kind_56 : decode cX16_kind 56 = .ok (.iload_n 1, 1) := by decide +kernel
theorem dX16_kind_57 : decode cX16_kind 57 = .ok (.iaload, 1) := by decide +kernel
theorem dX16_kind_58 : decode cX16_kind 58 = .ok (.ireturn, 1) := by decide +kernel
theorem dX16_kind_59 : decode cX16_kind 59 = .ok (.aload_n 0, 1) := by decide +kernel
theorem dX16_kind_60 : decode cX16_kind 60 = .ok (.getfield 146, 3) := by decide +kernel
theorem dX16_kind_63 : decode cX16_kind 63 = .ok (.iload_n 1, 1) := by decide +kernel
theorem dX16_kind_64 : decode cX16_kind 64 = .ok (.iaload, 1) := by decide +kernel
theorem dX16_kind_65 : decode cX16_kind 65 = .ok (.ireturn, 1) := by decide +kernel
theorem dX16_kind_66 : decode cX16_kind 66 = .ok (.aload_n 0, 1) := by decide +kernel
theorem dX16_kind_67 : decode cX16_kind 67 = .ok (.getfield 140, 3) := by decide +kernel
theorem dX16_kind_70 : decode cX16_kind 70 = .ok (.iload_n 1, 1) := by decide +kernel
theorem dX16_kind_71 : decode cX16_kind 71 = .ok (.iaload, 1) := by decide +kernel
theorem dX16_kind_72 : decode cX16_kind 72 = .ok (.ireturn, 1) := by decide +kernel
theorem dX16_kind_73 : decode cX16_kind 73 = .ok (.aload_n 0, 1) := by decide +kernel
theorem dX16_kind_74 : decode cX16_kind 74 = .ok (.getfield 143, 3) := by decide +kernel
theorem dX16_kind_77 : decode cX16_kind 77 = .ok (.iload_n 1, 1) := by decide +kernel
theorem dX16_kind_78 : decode cX16_kind 78 = .ok (.iaload, 1) := by decide +kernel
theorem dX16_kind_79 : decode cX16_kind 79 = .ok (.ireturn, 1) := by decide +kernel
theorem dX16_kind_80 : decode cX16_kind 80 = .ok (.aload_n 0, 1) := by decide +kernel
theorem dX16_kind_81 : decode cX16_kind 81 = .ok (.getfield 161, 3) := by decide +kernel
theorem dX16_kind_84 : decode cX16_kind 84 = .ok (.iload_n 1, 1) := by decide +kernel
theorem dX16_kind_85 : decode cX16_kind 85 = .ok (.baload, 1) := by decide +kernel
theorem dX16_kind_86 : decode cX16_kind 86 = .ok (.ifCond .eq 7, 3) := by decide +kernel
theorem dX16_kind_89 : decode cX16_kind 89 = .ok (.iconst 1, 1) := by decide +kernel
theorem dX16_kind_90 : decode cX16_kind 90 = .ok (.goto 4, 3) := by decide +kernel
theorem dX16_kind_93 : decode cX16_kind 93 = .ok (.iconst 0, 1) := by decide +kernel
theorem dX16_kind_94 : decode cX16_kind 94 = .ok (.ireturn, 1) := by decide +kernel
theorem dX16_kind_95 : decode cX16_kind 95 = .ok (.iconst (-1), 1) := by decide +kernel
theorem dX16_kind_96 : decode cX16_kind 96 = .ok (.ireturn, 1) := by decide +kernel
theorem dX16_init_0 : decode cX16_init 0 = .ok (.aload_n 0, 1) := by decide +kernel
theorem dX16_init_1 : decode cX16_init 1 = .ok (.invokespecial 175, 3) := by decide +kernel
theorem dX16_init_4 : decode cX16_init 4 = .ok (.aload_n 0, 1) := by decide +kernel
theorem dX16_init_5 : decode cX16_init 5 = .ok (.bipush 100, 2) := by decide +kernel
theorem dX16_init_7 : decode cX16_init 7 = .ok (.anewarray 18, 3) := by decide +kernel
theorem dX16_init_10 : decode cX16_init 10 = .ok (.putfield 13, 3) := by decide +kernel
theorem dX16_init_13 : decode cX16_init 13 = .ok (.aload_n 0, 1) := by decide +kernel
theorem dX16_init_14 : decode cX16_init 14 = .ok (.bipush 10, 2) := by decide +kernel
theorem dX16_init_16 : decode cX16_init 16 = .ok (.newarray .int, 2) := by decide +kernel
theorem dX16_init_18 : decode cX16_init 18 = .ok (.putfield 76, 3) := by decide +kernel
theorem dX16_init_21 : decode cX16_init 21 = .ok (.aload_n 0, 1) := by decide +kernel
theorem dX16_init_22 : decode cX16_init 22 = .ok (.bipush 60, 2) := by decide +kernel
theorem dX16_init_24 : decode cX16_init 24 = .ok (.newarray .int, 2) := by decide +kernel
theorem dX16_init_26 : decode cX16_init 26 = .ok (.putfield 91, 3) := by decide +kernel
theorem dX16_init_29 : decode cX16_init 29 = .ok (.aload_n 0, 1) := by decide +kernel
theorem dX16_init_30 : decode cX16_init 30 = .ok (.sipush 240, 3) := by decide +kernel
theorem dX16_init_33 : decode cX16_init 33 = .ok (.newarray .int, 2) := by decide +kernel
theorem dX16_init_35 : decode cX16_init 35 = .ok (.putfield 94, 3) := by decide +kernel
theorem dX16_init_38 : decode cX16_init 38 = .ok (.aload_n 0, 1) := by decide +kernel
theorem dX16_init_39 : decode cX16_init 39 = .ok (.bipush 60, 2) := by decide +kernel
theorem dX16_init_41 : decode cX16_init 41 = .ok (.newarray .int, 2) := by decide +kernel
theorem dX16_init_43 : decode cX16_init 43 = .ok (.putfield 97, 3) := by decide +kernel
theorem dX16_init_46 : decode cX16_init 46 = .ok (.aload_n 0, 1) := by decide +kernel
theorem dX16_init_47 : decode cX16_init 47 = .ok (.bipush 60, 2) := by decide +kernel
theorem dX16_init_49 : decode cX16_init 49 = .ok (.newarray .int, 2) := by decide +kernel
theorem dX16_init_51 : decode cX16_init 51 = .ok (.putfield 100, 3) := by decide +kernel
theorem dX16_init_54 : decode cX16_init 54 = .ok (.aload_n 0, 1) := by decide +kernel
theorem dX16_init_55 : decode cX16_init 55 = .ok (.bipush 60, 2) := by decide +kernel
theorem dX16_init_57 : decode cX16_init 57 = .ok (.newarray .int, 2) := by decide +kernel
theorem dX16_init_59 : decode cX16_init 59 = .ok (.putfield 107, 3) := by decide +kernel
theorem dX16_init_62 : decode cX16_init 62 = .ok (.aload_n 0, 1) := by decide +kernel
theorem dX16_init_63 : decode cX16_init 63 = .ok (.bipush 60, 2) := by decide +kernel
theorem dX16_init_65 : decode cX16_init 65 = .ok (.newarray .double, 2) := by decide +kernel
theorem dX16_init_67 : decode cX16_init 67 = .ok (.putfield 103, 3) := by decide +kernel
theorem dX16_init_70 : decode cX16_init 70 = .ok (.aload_n 0, 1) := by decide +kernel
theorem dX16_init_71 : decode cX16_init 71 = .ok (.bipush 60, 2) := by decide +kernel
theorem dX16_init_73 : decode cX16_init 73 = .ok (.newarray .boolean, 2) := by decide +kernel
theorem dX16_init_75 : decode cX16_init 75 = .ok (.putfield 43, 3) := by decide +kernel
theorem dX16_init_78 : decode cX16_init 78 = .ok (.aload_n 0, 1) := by decide +kernel
theorem dX16_init_79 : decode cX16_init 79 = .ok (.bipush 40, 2) := by decide +kernel
theorem dX16_init_81 : decode cX16_init 81 = .ok (.newarray .int, 2) := by decide +kernel
theorem dX16_init_83 : decode cX16_init 83 = .ok (.putfield 137, 3) := by decide +kernel
theorem dX16_init_86 : decode cX16_init 86 = .ok (.aload_n 0, 1) := by decide +kernel
theorem dX16_init_87 : decode cX16_init 87 = .ok (.bipush 40, 2) := by decide +kernel
theorem dX16_init_89 : decode cX16_init 89 = .ok (.newarray .int, 2) := by decide +kernel
theorem dX16_init_91 : decode cX16_init 91 = .ok (.putfield 140, 3) := by decide +kernel
theorem dX16_init_94 : decode cX16_init 94 = .ok (.aload_n 0, 1) := by decide +kernel
theorem dX16_init_95 : decode cX16_init 95 = .ok (.bipush 40, 2) := by decide +kernel
theorem dX16_init_97 : decode cX16_init 97 = .ok (.newarray .int, 2) := by decide +kernel
theorem dX16_init_99 : decode cX16_init 99 = .ok (.putfield 143, 3) := by decide +kernel
theorem dX16_init_102 : decode cX16_init 102 = .ok (.aload_n 0, 1) := by decide +kernel
theorem dX16_init_103 : decode cX16_init 103 = .ok (.bipush 40, 2) := by decide +kernel
theorem dX16_init_105 : decode cX16_init 105 = .ok (.newarray .int, 2) := by decide +kernel
theorem dX16_init_107 : decode cX16_init 107 = .ok (.putfield 146, 3) := by decide +kernel
theorem dX16_init_110 : decode cX16_init 110 = .ok (.aload_n 0, 1) := by decide +kernel
theorem dX16_init_111 : decode cX16_init 111 = .ok (.bipush 40, 2) := by decide +kernel
theorem dX16_init_113 : decode cX16_init 113 = .ok (.newarray .int, 2) := by decide +kernel
theorem dX16_init_115 : decode cX16_init 115 = .ok (.putfield 149, 3) := by decide +kernel
theorem dX16_init_118 : decode cX16_init 118 = .ok (.aload_n 0, 1) := by decide +kernel
theorem dX16_init_119 : decode cX16_init 119 = .ok (.bipush 40, 2) := by decide +kernel
theorem dX16_init_121 : decode cX16_init 121 = .ok (.newarray .int, 2) := by decide +kernel
theorem dX16_init_123 : decode cX16_init 123 = .ok (.putfield 152, 3) := by decide +kernel
theorem dX16_init_126 : decode cX16_init 126 = .ok (.aload_n 0, 1) := by decide +kernel
theorem dX16_init_127 : decode cX16_init 127 = .ok (.bipush 40, 2) := by decide +kernel
theorem dX16_init_129 : decode cX16_init 129 = .ok (.newarray .int, 2) := by decide +kernel
theorem dX16_init_131 : decode cX16_init 131 = .ok (.putfield 155, 3) := by decide +kernel
theorem dX16_init_134 : decode cX16_init 134 = .ok (.aload_n 0, 1) := by decide +kernel
theorem dX16_init_135 : decode cX16_init 135 = .ok (.bipush 40, 2) := by decide +kernel
theorem dX16_init_137 : decode cX16_init 137 = .ok (.newarray .int, 2) := by decide +kernel
theorem dX16_init_139 : decode cX16_init 139 = .ok (.putfield 158, 3) := by decide +kernel
theorem dX16_init_142 : decode cX16_init 142 = .ok (.aload_n 0, 1) := by decide +kernel
theorem dX16_init_143 : decode cX16_init 143 = .ok (.bipush 40, 2) := by decide +kernel
theorem dX16_init_145 : decode cX16_init 145 = .ok (.newarray .boolean, 2) := by decide +kernel
theorem dX16_init_147 : decode cX16_init 147 = .ok (.putfield 161, 3) := by decide +kernel
theorem dX16_init_150 : decode cX16_init 150 = .ok (.aload_n 0, 1) := by decide +kernel
theorem dX16_init_151 : decode cX16_init 151 = .ok (.new 181, 3) := by decide +kernel
theorem dX16_init_154 : decode cX16_init 154 = .ok (.dup, 1) := by decide +kernel
theorem dX16_init_155 : decode cX16_init 155 = .ok (.invokespecial 183, 3) := by decide +kernel
theorem dX16_init_158 : decode cX16_init 158 = .ok (.putfield 184, 3) := by decide +kernel
theorem dX16_init_161 : decode cX16_init 161 = .ok (.aload_n 0, 1) := by decide +kernel
theorem dX16_init_162 : decode cX16_init 162 = .ok (.bipush 40, 2) := by decide +kernel
theorem dX16_init_164 : decode cX16_init 164 = .ok (.anewarray 36, 3) := by decide +kernel
theorem dX16_init_167 : decode cX16_init 167 = .ok (.putfield 188, 3) := by decide +kernel
theorem dX16_init_170 : decode cX16_init 170 = .ok (.aload_n 0, 1) := by decide +kernel
theorem dX16_init_171 : decode cX16_init 171 = .ok (.new 36, 3) := by decide +kernel
theorem dX16_init_174 : decode cX16_init 174 = .ok (.dup, 1) := by decide +kernel
theorem dX16_init_175 : decode cX16_init 175 = .ok (.invokespecial 192, 3) := by decide +kernel
theorem dX16_init_178 : decode cX16_init 178 = .ok (.putfield 31, 3) := by decide +kernel
theorem dX16_init_181 : decode cX16_init 181 = .ok (.aload_n 0, 1) := by decide +kernel
theorem dX16_init_182 : decode cX16_init 182 = .ok (.new 36, 3) := by decide +kernel
theorem dX16_init_185 : decode cX16_init 185 = .ok (.dup, 1) := by decide +kernel
theorem dX16_init_186 : decode cX16_init 186 = .ok (.invokespecial 192, 3) := by decide +kernel
theorem dX16_init_189 : decode cX16_init 189 = .ok (.putfield 193, 3) := by decide +kernel
theorem dX16_init_192 : decode cX16_init 192 = .ok (.aload_n 0, 1) := by decide +kernel
theorem dX16_init_193 : decode cX16_init 193 = .ok (.bipush 20, 2) := by decide +kernel
theorem dX16_init_195 : decode cX16_init 195 = .ok (.anewarray 67, 3) := by decide +kernel
theorem dX16_init_198 : decode cX16_init 198 = .ok (.putfield 58, 3) := by decide +kernel
theorem dX16_init_201 : decode cX16_init 201 = .ok (.aload_n 0, 1) := by decide +kernel
theorem dX16_init_202 : decode cX16_init 202 = .ok (.sipush 8208, 3) := by decide +kernel
theorem dX16_init_205 : decode cX16_init 205 = .ok (.newarray .long, 2) := by decide +kernel
theorem dX16_init_207 : decode cX16_init 207 = .ok (.putfield 196, 3) := by decide +kernel
theorem dX16_init_210 : decode cX16_init 210 = .ok (.aload_n 0, 1) := by decide +kernel
theorem dX16_init_211 : decode cX16_init 211 = .ok (.bipush 6, 2) := by decide +kernel
theorem dX16_init_213 : decode cX16_init 213 = .ok (.newarray .int, 2) := by decide +kernel
theorem dX16_init_215 : decode cX16_init 215 = .ok (.putfield 200, 3) := by decide +kernel
theorem dX16_init_218 : decode cX16_init 218 = .ok (.aload_n 0, 1) := by decide +kernel
theorem dX16_init_219 : decode cX16_init 219 = .ok (.bipush 32, 2) := by decide +kernel
theorem dX16_init_221 : decode cX16_init 221 = .ok (.newarray .int, 2) := by decide +kernel
theorem dX16_init_223 : decode cX16_init 223 = .ok (.putfield 203, 3) := by decide +kernel
theorem dX16_init_226 : decode cX16_init 226 = .ok (.aload_n 0, 1) := by decide +kernel
theorem dX16_init_227 : decode cX16_init 227 = .ok (.bipush 40, 2) := by decide +kernel
theorem dX16_init_229 : decode cX16_init 229 = .ok (.newarray .boolean, 2) := by decide +kernel
theorem dX16_init_231 : decode cX16_init 231 = .ok (.putfield 206, 3) := by decide +kernel
theorem dX16_init_234 : decode cX16_init 234 = .ok (.aload_n 0, 1) := by decide +kernel
theorem dX16_init_235 : decode cX16_init 235 = .ok (.bipush 32, 2) := by decide +kernel
theorem dX16_init_237 : decode cX16_init 237 = .ok (.newarray .boolean, 2) := by decide +kernel
theorem dX16_init_239 : decode cX16_init 239 = .ok (.putfield 209, 3) := by decide +kernel
theorem dX16_init_242 : decode cX16_init 242 = .ok (.aload_n 0, 1) := by decide +kernel
theorem dX16_init_243 : decode cX16_init 243 = .ok (.bipush 16, 2) := by decide +kernel
theorem dX16_init_245 : decode cX16_init 245 = .ok (.newarray .int, 2) := by decide +kernel
theorem dX16_init_247 : decode cX16_init 247 = .ok (.putfield 212, 3) := by decide +kernel
theorem dX16_init_250 : decode cX16_init 250 = .ok (.aload_n 0, 1) := by decide +kernel
theorem dX16_init_251 : decode cX16_init 251 = .ok (.bipush 16, 2) := by decide +kernel
theorem dX16_init_253 : decode cX16_init 253 = .ok (.newarray .int, 2) := by decide +kernel
theorem dX16_init_255 : decode cX16_init 255 = .ok (.putfield 215, 3) := by decide +kernel
theorem dX16_init_258 : decode cX16_init 258 = .ok (.aload_n 0, 1) := by decide +kernel
theorem dX16_init_259 : decode cX16_init 259 = .ok (.bipush 16, 2) := by decide +kernel
theorem dX16_init_261 : decode cX16_init 261 = .ok (.newarray .int, 2) := by decide +kernel
theorem dX16_init_263 : decode cX16_init 263 = .ok (.putfield 218, 3) := by decide +kernel
theorem dX16_init_266 : decode cX16_init 266 = .ok (.iconst 0, 1) := by decide +kernel
theorem dX16_init_267 : decode cX16_init 267 = .ok (.istore_n 1, 1) := by decide +kernel
theorem dX16_init_268 : decode cX16_init 268 = .ok (.iload_n 1, 1) := by decide +kernel
theorem dX16_init_269 : decode cX16_init 269 = .ok (.bipush 100, 2) := by decide +kernel
theorem dX16_init_271 : decode cX16_init 271 = .ok (.if_icmp .ge 22, 3) := by decide +kernel
theorem dX16_init_274 : decode cX16_init 274 = .ok (.aload_n 0, 1) := by decide +kernel
theorem dX16_init_275 : decode cX16_init 275 = .ok (.getfield 13, 3) := by decide +kernel
theorem dX16_init_278 : decode cX16_init 278 = .ok (.iload_n 1, 1) := by decide +kernel
theorem dX16_init_279 : decode cX16_init 279 = .ok (.new 18, 3) := by decide +kernel
theorem dX16_init_282 : decode cX16_init 282 = .ok (.dup, 1) := by decide +kernel
theorem dX16_init_283 : decode cX16_init 283 = .ok (.invokespecial 221, 3) := by decide +kernel
theorem dX16_init_286 : decode cX16_init 286 = .ok (.aastore, 1) := by decide +kernel
theorem dX16_init_287 : decode cX16_init 287 = .ok (.iinc 1 1, 3) := by decide +kernel
theorem dX16_init_290 : decode cX16_init 290 = .ok (.goto (-22), 3) := by decide +kernel
theorem dX16_init_293 : decode cX16_init 293 = .ok (.iconst 0, 1) := by decide +kernel
theorem dX16_init_294 : decode cX16_init 294 = .ok (.istore_n 1, 1) := by decide +kernel
theorem dX16_init_295 : decode cX16_init 295 = .ok (.iload_n 1, 1) := by decide +kernel
theorem dX16_init_296 : decode cX16_init 296 = .ok (.bipush 40, 2) := by decide +kernel
theorem dX16_init_298 : decode cX16_init 298 = .ok (.if_icmp .ge 22, 3) := by decide +kernel
theorem dX16_init_301 : decode cX16_init 301 = .ok (.aload_n 0, 1) := by decide +kernel
theorem dX16_init_302 : decode cX16_init 302 = .ok (.getfield 188, 3) := by decide +kernel
theorem dX16_init_305 : decode cX16_init 305 = .ok (.iload_n 1, 1) := by decide +kernel
theorem dX16_init_306 : decode cX16_init 306 = .ok (.new 36, 3) := by decide +kernel
theorem dX16_init_309 : decode cX16_init 309 = .ok (.dup, 1) := by decide +kernel
theorem dX16_init_310 : decode cX16_init 310 = .ok (.invokespecial 192, 3) := by decide +kernel
theorem dX16_init_313 : decode cX16_init 313 = .ok (.aastore, 1) := by decide +kernel
theorem dX16_init_314 : decode cX16_init 314 = .ok (.iinc 1 1, 3) := by decide +kernel
theorem dX16_init_317 : decode cX16_init 317 = .ok (.goto (-22), 3) := by decide +kernel
theorem dX16_init_320 : decode cX16_init 320 = .ok (.iconst 0, 1) := by decide +kernel
theorem dX16_init_321 : decode cX16_init 321 = .ok (.istore_n 1, 1) := by decide +kernel
theorem dX16_init_322 : decode cX16_init 322 = .ok (.iload_n 1, 1) := by decide +kernel
theorem dX16_init_323 : decode cX16_init 323 = .ok (.bipush 20, 2) := by decide +kernel
theorem dX16_init_325 : decode cX16_init 325 = .ok (.if_icmp .ge 22, 3) := by decide +kernel
theorem dX16_init_328 : decode cX16_init 328 = .ok (.aload_n 0, 1) := by decide +kernel
theorem dX16_init_329 : decode cX16_init 329 = .ok (.getfield 58, 3) := by decide +kernel
theorem dX16_init_332 : decode cX16_init 332 = .ok (.iload_n 1, 1) := by decide +kernel
theorem dX16_init_333 : decode cX16_init 333 = .ok (.new 67, 3) := by decide +kernel
theorem dX16_init_336 : decode cX16_init 336 = .ok (.dup, 1) := by decide +kernel
theorem dX16_init_337 : decode cX16_init 337 = .ok (.invokespecial 222, 3) := by decide +kernel
theorem dX16_init_340 : decode cX16_init 340 = .ok (.aastore, 1) := by decide +kernel
theorem dX16_init_341 : decode cX16_init 341 = .ok (.iinc 1 1, 3) := by decide +kernel
theorem dX16_init_344 : decode cX16_init 344 = .ok (.goto (-22), 3) := by decide +kernel
theorem dX16_init_347 : decode cX16_init 347 = .ok (.return_, 1) := by decide +kernel
theorem dX16_piles_0 : decode cX16_piles 0 = .ok (.iconst 0, 1) := by decide +kernel
theorem dX16_piles_1 : decode cX16_piles 1 = .ok (.istore_n 3, 1) := by decide +kernel
theorem dX16_piles_2 : decode cX16_piles 2 = .ok (.iconst 0, 1) := by decide +kernel
theorem dX16_piles_3 : decode cX16_piles 3 = .ok (.istore 4, 2) := by decide +kernel
theorem dX16_piles_5 : decode cX16_piles 5 = .ok (.iload 4, 2) := by decide +kernel
theorem dX16_piles_7 : decode cX16_piles 7 = .ok (.aload_n 0, 1) := by decide +kernel
theorem dX16_piles_8 : decode cX16_piles 8 = .ok (.getfield 223, 3) := by decide +kernel
theorem dX16_piles_11 : decode cX16_piles 11 = .ok (.if_icmp .ge 28, 3) := by decide +kernel
theorem dX16_piles_14 : decode cX16_piles 14 = .ok (.aload_n 0, 1) := by decide +kernel
theorem dX16_piles_15 : decode cX16_piles 15 = .ok (.getfield 196, 3) := by decide +kernel
theorem dX16_piles_18 : decode cX16_piles 18 = .ok (.iload 4, 2) := by decide +kernel
theorem dX16_piles_20 : decode cX16_piles 20 = .ok (.laload, 1) := by decide +kernel
theorem dX16_piles_21 : decode cX16_piles 21 = .ok (.lload_n 1, 1) := by decide +kernel
theorem dX16_piles_22 : decode cX16_piles 22 = .ok (.ldc2_w 135, 3) := by decide +kernel
theorem dX16_piles_25 : decode cX16_piles 25 = .ok (.lxor, 1) := by decide +kernel
theorem dX16_piles_26 : decode cX16_piles 26 = .ok (.land, 1) := by decide +kernel
theorem dX16_piles_27 : decode cX16_piles 27 = .ok (.lconst 0, 1) := by decide +kernel
theorem dX16_piles_28 : decode cX16_piles 28 = .ok (.lcmp, 1) := by decide +kernel
theorem dX16_piles_29 : decode cX16_piles 29 = .ok (.ifCond .ne 4, 3) := by decide +kernel
theorem dX16_piles_32 : decode cX16_piles 32 = .ok (.return_, 1) := by decide +kernel
theorem dX16_piles_33 : decode cX16_piles 33 = .ok (.iinc 4 1, 3) := by decide +kernel
theorem dX16_piles_36 : decode cX16_piles 36 = .ok (.goto (-31), 3) := by decide +kernel
theorem dX16_piles_39 : decode cX16_piles 39 = .ok (.iconst 0, 1) := by decide +kernel
theorem dX16_piles_40 : decode cX16_piles 40 = .ok (.istore 4, 2) := by decide +kernel
theorem dX16_piles_42 : decode cX16_piles 42 = .ok (.iload 4, 2) := by decide +kernel
theorem dX16_piles_44 : decode cX16_piles 44 = .ok (.aload_n 0, 1) := by decide +kernel
theorem dX16_piles_45 : decode cX16_piles 45 = .ok (.getfield 223, 3) := by decide +kernel
theorem dX16_piles_48 : decode cX16_piles 48 = .ok (.if_icmp .ge 46, 3) := by decide +kernel
theorem dX16_piles_51 : decode cX16_piles 51 = .ok (.lload_n 1, 1) := by decide +kernel
theorem dX16_piles_52 : decode cX16_piles 52 = .ok (.aload_n 0, 1) := by decide +kernel
theorem dX16_piles_53 : decode cX16_piles 53 = .ok (.getfield 196, 3) := by decide +kernel
theorem dX16_piles_56 : decode cX16_piles 56 = .ok (.iload 4, 2) := by decide +kernel
theorem dX16_piles_58 : decode cX16_piles 58 = .ok (.laload, 1) := by decide +kernel
theorem dX16_piles_59 : decode cX16_piles 59 = .ok (.ldc2_w 135, 3) := by decide +kernel
theorem dX16_piles_62 : decode cX16_piles 62 = .ok (.lxor, 1) := by decide +kernel
theorem dX16_piles_63 : decode cX16_piles 63 = .ok (.land, 1) := by decide +kernel
theorem dX16_piles_64 : decode cX16_piles 64 = .ok (.lconst 0, 1) := by decide +kernel
theorem dX16_piles_65 : decode cX16_piles 65 = .ok (.lcmp, 1) := by decide +kernel
theorem dX16_piles_66 : decode cX16_piles 66 = .ok (.ifCond .ne 6, 3) := by decide +kernel
theorem dX16_piles_69 : decode cX16_piles 69 = .ok (.goto 19, 3) := by decide +kernel
theorem dX16_piles_72 : decode cX16_piles 72 = .ok (.aload_n 0, 1) := by decide +kernel
theorem dX16_piles_73 : decode cX16_piles 73 = .ok (.getfield 196, 3) := by decide +kernel
theorem dX16_piles_76 : decode cX16_piles 76 = .ok (.iload_n 3, 1) := by decide +kernel
theorem dX16_piles_77 : decode cX16_piles 77 = .ok (.aload_n 0, 1) := by decide +kernel
theorem dX16_piles_78 : decode cX16_piles 78 = .ok (.getfield 196, 3) := by decide +kernel
theorem dX16_piles_81 : decode cX16_piles 81 = .ok (.iload 4, 2) := by decide +kernel
theorem dX16_piles_83 : decode cX16_piles 83 = .ok (.laload, 1) := by decide +kernel
theorem dX16_piles_84 : decode cX16_piles 84 = .ok (.lastore, 1) := by decide +kernel
theorem dX16_piles_85 : decode cX16_piles 85 = .ok (.iinc 3 1, 3) := by decide +kernel
theorem dX16_piles_88 : decode cX16_piles 88 = .ok (.iinc 4 1, 3) := by decide +kernel
theorem dX16_piles_91 : decode cX16_piles 91 = .ok (.goto (-49), 3) := by decide +kernel
theorem dX16_piles_94 : decode cX16_piles 94 = .ok (.aload_n 0, 1) := by decide +kernel
theorem dX16_piles_95 : decode cX16_piles 95 = .ok (.getfield 196, 3) := by decide +kernel
theorem dX16_piles_98 : decode cX16_piles 98 = .ok (.iload_n 3, 1) := by decide +kernel
theorem dX16_piles_99 : decode cX16_piles 99 = .ok (.lload_n 1, 1) := by decide +kernel
theorem dX16_piles_100 : decode cX16_piles 100 = .ok (.lastore, 1) := by decide +kernel
theorem dX16_piles_101 : decode cX16_piles 101 = .ok (.aload_n 0, 1) := by decide +kernel
theorem dX16_piles_102 : decode cX16_piles 102 = .ok (.iload_n 3, 1) := by decide +kernel
theorem dX16_piles_103 : decode cX16_piles 103 = .ok (.iconst 1, 1) := by decide +kernel
theorem dX16_piles_104 : decode cX16_piles 104 = .ok (.iadd, 1) := by decide +kernel
theorem dX16_piles_105 : decode cX16_piles 105 = .ok (.putfield 223, 3) := by decide +kernel
theorem dX16_piles_108 : decode cX16_piles 108 = .ok (.return_, 1) := by decide +kernel
theorem dX16_pilesAll_0 : decode cX16_pilesAll 0 = .ok (.iconst 0, 1) := by decide +kernel
theorem dX16_pilesAll_1 : decode cX16_pilesAll 1 = .ok (.istore_n 3, 1) := by decide +kernel
theorem dX16_pilesAll_2 : decode cX16_pilesAll 2 = .ok (.iload_n 3, 1) := by decide +kernel
theorem dX16_pilesAll_3 : decode cX16_pilesAll 3 = .ok (.aload_n 1, 1) := by decide +kernel
theorem dX16_pilesAll_4 : decode cX16_pilesAll 4 = .ok (.getfield 226, 3) := by decide +kernel
theorem dX16_pilesAll_7 : decode cX16_pilesAll 7 = .ok (.iload_n 2, 1) := by decide +kernel
theorem dX16_pilesAll_8 : decode cX16_pilesAll 8 = .ok (.iaload, 1) := by decide +kernel
theorem dX16_pilesAll_9 : decode cX16_pilesAll 9 = .ok (.if_icmp .ge 24, 3) := by decide +kernel
theorem dX16_pilesAll_12 : decode cX16_pilesAll 12 = .ok (.aload_n 0, 1) := by decide +kernel
theorem dX16_pilesAll_13 : decode cX16_pilesAll 13 = .ok (.aload_n 1, 1) := by decide +kernel
theorem dX16_pilesAll_14 : decode cX16_pilesAll 14 = .ok (.getfield 229, 3) := by decide +kernel
theorem dX16_pilesAll_17 : decode cX16_pilesAll 17 = .ok (.bipush 16, 2) := by decide +kernel
theorem dX16_pilesAll_19 : decode cX16_pilesAll 19 = .ok (.iload_n 2, 1) := by decide +kernel
theorem dX16_pilesAll_20 : decode cX16_pilesAll 20 = .ok (.imul, 1) := by decide +kernel
theorem dX16_pilesAll_21 : decode cX16_pilesAll 21 = .ok (.iload_n 3, 1) := by decide +kernel
theorem dX16_pilesAll_22 : decode cX16_pilesAll 22 = .ok (.iadd, 1) := by decide +kernel
theorem dX16_pilesAll_23 : decode cX16_pilesAll 23 = .ok (.laload, 1) := by decide +kernel
theorem dX16_pilesAll_24 : decode cX16_pilesAll 24 = .ok (.invokevirtual 232, 3) := by decide +kernel
theorem dX16_pilesAll_27 : decode cX16_pilesAll 27 = .ok (.iinc 3 1, 3) := by decide +kernel
theorem dX16_pilesAll_30 : decode cX16_pilesAll 30 = .ok (.goto (-28), 3) := by decide +kernel
theorem dX16_pilesAll_33 : decode cX16_pilesAll 33 = .ok (.return_, 1) := by decide +kernel
theorem dX16_pilesBoth_0 : decode cX16_pilesBoth 0 = .ok (.iconst 0, 1) := by decide +kernel
theorem dX16_pilesBoth_1 : decode cX16_pilesBoth 1 = .ok (.istore 5, 2) := by decide +kernel
theorem dX16_pilesBoth_3 : decode cX16_pilesBoth 3 = .ok (.iload 5, 2) := by decide +kernel
theorem dX16_pilesBoth_5 : decode cX16_pilesBoth 5 = .ok (.aload_n 1, 1) := by decide +kernel
theorem dX16_pilesBoth_6 : decode cX16_pilesBoth 6 = .ok (.getfield 226, 3) := by decide +kernel
theorem dX16_pilesBoth_9 : decode cX16_pilesBoth 9 = .ok (.iload_n 2, 1) := by decide +kernel
theorem dX16_pilesBoth_10 : decode cX16_pilesBoth 10 = .ok (.iaload, 1) := by decide +kernel
theorem dX16_pilesBoth_11 : decode cX16_pilesBoth 11 = .ok (.if_icmp .ge 60, 3) := by decide +kernel
theorem dX16_pilesBoth_14 : decode cX16_pilesBoth 14 = .ok (.iconst 0, 1) := by decide +kernel
theorem dX16_pilesBoth_15 : decode cX16_pilesBoth 15 = .ok (.istore 6, 2) := by decide +kernel
theorem dX16_pilesBoth_17 : decode cX16_pilesBoth 17 = .ok (.iload 6, 2) := by decide +kernel
theorem dX16_pilesBoth_19 : decode cX16_pilesBoth 19 = .ok (.aload_n 3, 1) := by decide +kernel
theorem dX16_pilesBoth_20 : decode cX16_pilesBoth 20 = .ok (.getfield 226, 3) := by decide +kernel
theorem dX16_pilesBoth_23 : decode cX16_pilesBoth 23 = .ok (.iload 4, 2) := by decide +kernel
theorem dX16_pilesBoth_25 : decode cX16_pilesBoth 25 = .ok (.iaload, 1) := by decide +kernel
theorem dX16_pilesBoth_26 : decode cX16_pilesBoth 26 = .ok (.if_icmp .ge 39, 3) := by decide +kernel
theorem dX16_pilesBoth_29 : decode cX16_pilesBoth 29 = .ok (.aload_n 0, 1) := by decide +kernel
theorem dX16_pilesBoth_30 : decode cX16_pilesBoth 30 = .ok (.aload_n 1, 1) := by decide +kernel
theorem dX16_pilesBoth_31 : decode cX16_pilesBoth 31 = .ok (.getfield 229, 3) := by decide +kernel
theorem dX16_pilesBoth_34 : decode cX16_pilesBoth 34 = .ok (.bipush 16, 2) := by decide +kernel
theorem dX16_pilesBoth_36 : decode cX16_pilesBoth 36 = .ok (.iload_n 2, 1) := by decide +kernel
theorem dX16_pilesBoth_37 : decode cX16_pilesBoth 37 = .ok (.imul, 1) := by decide +kernel
theorem dX16_pilesBoth_38 : decode cX16_pilesBoth 38 = .ok (.iload 5, 2) := by decide +kernel
theorem dX16_pilesBoth_40 : decode cX16_pilesBoth 40 = .ok (.iadd, 1) := by decide +kernel
theorem dX16_pilesBoth_41 : decode cX16_pilesBoth 41 = .ok (.laload, 1) := by decide +kernel
theorem dX16_pilesBoth_42 : decode cX16_pilesBoth 42 = .ok (.aload_n 3, 1) := by decide +kernel
theorem dX16_pilesBoth_43 : decode cX16_pilesBoth 43 = .ok (.getfield 229, 3) := by decide +kernel
theorem dX16_pilesBoth_46 : decode cX16_pilesBoth 46 = .ok (.bipush 16, 2) := by decide +kernel
theorem dX16_pilesBoth_48 : decode cX16_pilesBoth 48 = .ok (.iload 4, 2) := by decide +kernel
theorem dX16_pilesBoth_50 : decode cX16_pilesBoth 50 = .ok (.imul, 1) := by decide +kernel
theorem dX16_pilesBoth_51 : decode cX16_pilesBoth 51 = .ok (.iload 6, 2) := by decide +kernel
theorem dX16_pilesBoth_53 : decode cX16_pilesBoth 53 = .ok (.iadd, 1) := by decide +kernel
theorem dX16_pilesBoth_54 : decode cX16_pilesBoth 54 = .ok (.laload, 1) := by decide +kernel
theorem dX16_pilesBoth_55 : decode cX16_pilesBoth 55 = .ok (.lor, 1) := by decide +kernel
theorem dX16_pilesBoth_56 : decode cX16_pilesBoth 56 = .ok (.invokevirtual 232, 3) := by decide +kernel
theorem dX16_pilesBoth_59 : decode cX16_pilesBoth 59 = .ok (.iinc 6 1, 3) := by decide +kernel
theorem dX16_pilesBoth_62 : decode cX16_pilesBoth 62 = .ok (.goto (-45), 3) := by decide +kernel
theorem dX16_pilesBoth_65 : decode cX16_pilesBoth 65 = .ok (.iinc 5 1, 3) := by decide +kernel
theorem dX16_pilesBoth_68 : decode cX16_pilesBoth 68 = .ok (.goto (-65), 3) := by decide +kernel
theorem dX16_pilesBoth_71 : decode cX16_pilesBoth 71 = .ok (.return_, 1) := by decide +kernel
theorem dX16_lays_0 : decode cX16_lays 0 = .ok (.aload_n 0, 1) := by decide +kernel
theorem dX16_lays_1 : decode cX16_lays 1 = .ok (.getfield 223, 3) := by decide +kernel
theorem dX16_lays_4 : decode cX16_lays 4 = .ok (.bipush 16, 2) := by decide +kernel
theorem dX16_lays_6 : decode cX16_lays 6 = .ok (.if_icmp .le 8, 3) := by decide +kernel
theorem dX16_lays_9 : decode cX16_lays 9 = .ok (.aload_n 0, 1) := by decide +kernel
theorem dX16_lays_10 : decode cX16_lays 10 = .ok (.getfield 184, 3) := by decide +kernel
theorem dX16_lays_13 : decode cX16_lays 13 = .ok (.athrow, 1) := by decide +kernel
theorem dX16_lays_14 : decode cX16_lays 14 = .ok (.iconst 1, 1) := by decide +kernel
theorem dX16_lays_15 : decode cX16_lays 15 = .ok (.istore_n 3, 1) := by decide +kernel
theorem dX16_lays_16 : decode cX16_lays 16 = .ok (.iload_n 3, 1) := by decide +kernel
theorem dX16_lays_17 : decode cX16_lays 17 = .ok (.aload_n 0, 1) := by decide +kernel
theorem dX16_lays_18 : decode cX16_lays 18 = .ok (.getfield 223, 3) := by decide +kernel
theorem dX16_lays_21 : decode cX16_lays 21 = .ok (.if_icmp .ge 71, 3) := by decide +kernel
theorem dX16_lays_24 : decode cX16_lays 24 = .ok (.aload_n 0, 1) := by decide +kernel
theorem dX16_lays_25 : decode cX16_lays 25 = .ok (.getfield 196, 3) := by decide +kernel
theorem dX16_lays_28 : decode cX16_lays 28 = .ok (.iload_n 3, 1) := by decide +kernel
theorem dX16_lays_29 : decode cX16_lays 29 = .ok (.laload, 1) := by decide +kernel
theorem dX16_lays_30 : decode cX16_lays 30 = .ok (.lstore 4, 2) := by decide +kernel
theorem dX16_lays_32 : decode cX16_lays 32 = .ok (.iload_n 3, 1) := by decide +kernel
theorem dX16_lays_33 : decode cX16_lays 33 = .ok (.istore 6, 2) := by decide +kernel
theorem dX16_lays_35 : decode cX16_lays 35 = .ok (.iload 6, 2) := by decide +kernel
theorem dX16_lays_37 : decode cX16_lays 37 = .ok (.ifCond .le 40, 3) := by decide +kernel
theorem dX16_lays_40 : decode cX16_lays 40 = .ok (.aload_n 0, 1) := by decide +kernel
theorem dX16_lays_41 : decode cX16_lays 41 = .ok (.getfield 196, 3) := by decide +kernel
theorem dX16_lays_44 : decode cX16_lays 44 = .ok (.iload 6, 2) := by decide +kernel
theorem dX16_lays_46 : decode cX16_lays 46 = .ok (.iconst 1, 1) := by decide +kernel
theorem dX16_lays_47 : decode cX16_lays 47 = .ok (.isub, 1) := by decide +kernel
theorem dX16_lays_48 : decode cX16_lays 48 = .ok (.laload, 1) := by decide +kernel
theorem dX16_lays_49 : decode cX16_lays 49 = .ok (.lload 4, 2) := by decide +kernel
theorem dX16_lays_51 : decode cX16_lays 51 = .ok (.lcmp, 1) := by decide +kernel
theorem dX16_lays_52 : decode cX16_lays 52 = .ok (.ifCond .le 25, 3) := by decide +kernel
theorem dX16_lays_55 : decode cX16_lays 55 = .ok (.aload_n 0, 1) := by decide +kernel
theorem dX16_lays_56 : decode cX16_lays 56 = .ok (.getfield 196, 3) := by decide +kernel
theorem dX16_lays_59 : decode cX16_lays 59 = .ok (.iload 6, 2) := by decide +kernel
theorem dX16_lays_61 : decode cX16_lays 61 = .ok (.aload_n 0, 1) := by decide +kernel
theorem dX16_lays_62 : decode cX16_lays 62 = .ok (.getfield 196, 3) := by decide +kernel
theorem dX16_lays_65 : decode cX16_lays 65 = .ok (.iload 6, 2) := by decide +kernel
theorem dX16_lays_67 : decode cX16_lays 67 = .ok (.iconst 1, 1) := by decide +kernel
theorem dX16_lays_68 : decode cX16_lays 68 = .ok (.isub, 1) := by decide +kernel
theorem dX16_lays_69 : decode cX16_lays 69 = .ok (.laload, 1) := by decide +kernel
theorem dX16_lays_70 : decode cX16_lays 70 = .ok (.lastore, 1) := by decide +kernel
theorem dX16_lays_71 : decode cX16_lays 71 = .ok (.iinc 6 (-1), 3) := by decide +kernel
theorem dX16_lays_74 : decode cX16_lays 74 = .ok (.goto (-39), 3) := by decide +kernel
theorem dX16_lays_77 : decode cX16_lays 77 = .ok (.aload_n 0, 1) := by decide +kernel
theorem dX16_lays_78 : decode cX16_lays 78 = .ok (.getfield 196, 3) := by decide +kernel
theorem dX16_lays_81 : decode cX16_lays 81 = .ok (.iload 6, 2) := by decide +kernel
theorem dX16_lays_83 : decode cX16_lays 83 = .ok (.lload 4, 2) := by decide +kernel
theorem dX16_lays_85 : decode cX16_lays 85 = .ok (.lastore, 1) := by decide +kernel
theorem dX16_lays_86 : decode cX16_lays 86 = .ok (.iinc 3 1, 3) := by decide +kernel
theorem dX16_lays_89 : decode cX16_lays 89 = .ok (.goto (-73), 3) := by decide +kernel
theorem dX16_lays_92 : decode cX16_lays 92 = .ok (.aload_n 1, 1) := by decide +kernel
theorem dX16_lays_93 : decode cX16_lays 93 = .ok (.getfield 226, 3) := by decide +kernel
theorem dX16_lays_96 : decode cX16_lays 96 = .ok (.iload_n 2, 1) := by decide +kernel
theorem dX16_lays_97 : decode cX16_lays 97 = .ok (.iaload, 1) := by decide +kernel
theorem dX16_lays_98 : decode cX16_lays 98 = .ok (.aload_n 0, 1) := by decide +kernel
theorem dX16_lays_99 : decode cX16_lays 99 = .ok (.getfield 223, 3) := by decide +kernel
theorem dX16_lays_102 : decode cX16_lays 102 = .ok (.if_icmp .eq 7, 3) := by decide +kernel
theorem dX16_lays_105 : decode cX16_lays 105 = .ok (.iconst 1, 1) := by decide +kernel
theorem dX16_lays_106 : decode cX16_lays 106 = .ok (.goto 4, 3) := by decide +kernel
theorem dX16_lays_109 : decode cX16_lays 109 = .ok (.iconst 0, 1) := by decide +kernel
theorem dX16_lays_110 : decode cX16_lays 110 = .ok (.istore_n 3, 1) := by decide +kernel
theorem dX16_lays_111 : decode cX16_lays 111 = .ok (.iconst 0, 1) := by decide +kernel
theorem dX16_lays_112 : decode cX16_lays 112 = .ok (.istore 4, 2) := by decide +kernel
theorem dX16_lays_114 : decode cX16_lays 114 = .ok (.iload 4, 2) := by decide +kernel
theorem dX16_lays_116 : decode cX16_lays 116 = .ok (.aload_n 0, 1) := by decide +kernel
theorem dX16_lays_117 : decode cX16_lays 117 = .ok (.getfield 223, 3) := by decide +kernel
theorem dX16_lays_120 : decode cX16_lays 120 = .ok (.if_icmp .ge 61, 3) := by decide +kernel
theorem dX16_lays_123 : decode cX16_lays 123 = .ok (.iload_n 3, 1) := by decide +kernel
theorem dX16_lays_124 : decode cX16_lays 124 = .ok (.ifCond .ne 26, 3) := by decide +kernel
theorem dX16_lays_127 : decode cX16_lays 127 = .ok (.aload_n 1, 1) := by decide +kernel
theorem dX16_lays_128 : decode cX16_lays 128 = .ok (.getfield 229, 3) := by decide +kernel
theorem dX16_lays_131 : decode cX16_lays 131 = .ok (.bipush 16, 2) := by decide +kernel
theorem dX16_lays_133 : decode cX16_lays 133 = .ok (.iload_n 2, 1) := by decide +kernel
theorem dX16_lays_134 : decode cX16_lays 134 = .ok (.imul, 1) := by decide +kernel
theorem dX16_lays_135 : decode cX16_lays 135 = .ok (.iload 4, 2) := by decide +kernel
theorem dX16_lays_137 : decode cX16_lays 137 = .ok (.iadd, 1) := by decide +kernel
theorem dX16_lays_138 : decode cX16_lays 138 = .ok (.laload, 1) := by decide +kernel
theorem dX16_lays_139 : decode cX16_lays 139 = .ok (.aload_n 0, 1) := by decide +kernel
theorem dX16_lays_140 : decode cX16_lays 140 = .ok (.getfield 196, 3) := by decide +kernel
theorem dX16_lays_143 : decode cX16_lays 143 = .ok (.iload 4, 2) := by decide +kernel
theorem dX16_lays_145 : decode cX16_lays 145 = .ok (.laload, 1) := by decide +kernel
theorem dX16_lays_146 : decode cX16_lays 146 = .ok (.lcmp, 1) := by decide +kernel
theorem dX16_lays_147 : decode cX16_lays 147 = .ok (.ifCond .eq 7, 3) := by decide +kernel
theorem dX16_lays_150 : decode cX16_lays 150 = .ok (.iconst 1, 1) := by decide +kernel
theorem dX16_lays_151 : decode cX16_lays 151 = .ok (.goto 4, 3) := by decide +kernel
theorem dX16_lays_154 : decode cX16_lays 154 = .ok (.iconst 0, 1) := by decide +kernel
theorem dX16_lays_155 : decode cX16_lays 155 = .ok (.istore_n 3, 1) := by decide +kernel
theorem dX16_lays_156 : decode cX16_lays 156 = .ok (.aload_n 1, 1) := by decide +kernel
theorem dX16_lays_157 : decode cX16_lays 157 = .ok (.getfield 229, 3) := by decide +kernel
theorem dX16_lays_160 : decode cX16_lays 160 = .ok (.bipush 16, 2) := by decide +kernel
theorem dX16_lays_162 : decode cX16_lays 162 = .ok (.iload_n 2, 1) := by decide +kernel
theorem dX16_lays_163 : decode cX16_lays 163 = .ok (.imul, 1) := by decide +kernel
theorem dX16_lays_164 : decode cX16_lays 164 = .ok (.iload 4, 2) := by decide +kernel
theorem dX16_lays_166 : decode cX16_lays 166 = .ok (.iadd, 1) := by decide +kernel
theorem dX16_lays_167 : decode cX16_lays 167 = .ok (.aload_n 0, 1) := by decide +kernel
theorem dX16_lays_168 : decode cX16_lays 168 = .ok (.getfield 196, 3) := by decide +kernel
theorem dX16_lays_171 : decode cX16_lays 171 = .ok (.iload 4, 2) := by decide +kernel
theorem dX16_lays_173 : decode cX16_lays 173 = .ok (.laload, 1) := by decide +kernel
theorem dX16_lays_174 : decode cX16_lays 174 = .ok (.lastore, 1) := by decide +kernel
theorem dX16_lays_175 : decode cX16_lays 175 = .ok (.iinc 4 1, 3) := by decide +kernel
theorem dX16_lays_178 : decode cX16_lays 178 = .ok (.goto (-64), 3) := by decide +kernel
theorem dX16_lays_181 : decode cX16_lays 181 = .ok (.aload_n 1, 1) := by decide +kernel
theorem dX16_lays_182 : decode cX16_lays 182 = .ok (.getfield 226, 3) := by decide +kernel
theorem dX16_lays_185 : decode cX16_lays 185 = .ok (.iload_n 2, 1) := by decide +kernel
theorem dX16_lays_186 : decode cX16_lays 186 = .ok (.aload_n 0, 1) := by decide +kernel
theorem dX16_lays_187 : decode cX16_lays 187 = .ok (.getfield 223, 3) := by decide +kernel
theorem dX16_lays_190 : decode cX16_lays 190 = .ok (.iastore, 1) := by decide +kernel
theorem dX16_lays_191 : decode cX16_lays 191 = .ok (.iload_n 3, 1) := by decide +kernel
theorem dX16_lays_192 : decode cX16_lays 192 = .ok (.ireturn, 1) := by decide +kernel
theorem dX16_adds_0 : decode cX16_adds 0 = .ok (.aload_n 1, 1) := by decide +kernel
theorem dX16_adds_1 : decode cX16_adds 1 = .ok (.getfield 35, 3) := by decide +kernel
theorem dX16_adds_4 : decode cX16_adds 4 = .ok (.bipush 32, 2) := by decide +kernel
theorem dX16_adds_6 : decode cX16_adds 6 = .ok (.if_icmp .ne 8, 3) := by decide +kernel
theorem dX16_adds_9 : decode cX16_adds 9 = .ok (.aload_n 0, 1) := by decide +kernel
theorem dX16_adds_10 : decode cX16_adds 10 = .ok (.getfield 184, 3) := by decide +kernel
theorem dX16_adds_13 : decode cX16_adds 13 = .ok (.athrow, 1) := by decide +kernel
theorem dX16_adds_14 : decode cX16_adds 14 = .ok (.aload_n 1, 1) := by decide +kernel
theorem dX16_adds_15 : decode cX16_adds 15 = .ok (.getfield 35, 3) := by decide +kernel
theorem dX16_adds_18 : decode cX16_adds 18 = .ok (.istore 4, 2) := by decide +kernel
theorem dX16_adds_20 : decode cX16_adds 20 = .ok (.aload_n 1, 1) := by decide +kernel
theorem dX16_adds_21 : decode cX16_adds 21 = .ok (.dup, 1) := by decide +kernel
theorem dX16_adds_22 : decode cX16_adds 22 = .ok (.getfield 35, 3) := by decide +kernel
theorem dX16_adds_25 : decode cX16_adds 25 = .ok (.iconst 1, 1) := by decide +kernel
theorem dX16_adds_26 : decode cX16_adds 26 = .ok (.iadd, 1) := by decide +kernel
theorem dX16_adds_27 : decode cX16_adds 27 = .ok (.putfield 35, 3) := by decide +kernel
theorem dX16_adds_30 : decode cX16_adds 30 = .ok (.iconst 0, 1) := by decide +kernel
theorem dX16_adds_31 : decode cX16_adds 31 = .ok (.istore 5, 2) := by decide +kernel
theorem dX16_adds_33 : decode cX16_adds 33 = .ok (.iload 5, 2) := by decide +kernel
theorem dX16_adds_35 : decode cX16_adds 35 = .ok (.aload_n 1, 1) := by decide +kernel
theorem dX16_adds_36 : decode cX16_adds 36 = .ok (.getfield 236, 3) := by decide +kernel
theorem dX16_adds_39 : decode cX16_adds 39 = .ok (.if_icmp .ge 28, 3) := by decide +kernel
theorem dX16_adds_42 : decode cX16_adds 42 = .ok (.aload_n 1, 1) := by decide +kernel
theorem dX16_adds_43 : decode cX16_adds 43 = .ok (.getfield 239, 3) := by decide +kernel
theorem dX16_adds_46 : decode cX16_adds 46 = .ok (.bipush 6, 2) := by decide +kernel
theorem dX16_adds_48 : decode cX16_adds 48 = .ok (.iload 4, 2) := by decide +kernel
theorem dX16_adds_50 : decode cX16_adds 50 = .ok (.imul, 1) := by decide +kernel
theorem dX16_adds_51 : decode cX16_adds 51 = .ok (.iload 5, 2) := by decide +kernel
theorem dX16_adds_53 : decode cX16_adds 53 = .ok (.iadd, 1) := by decide +kernel
theorem dX16_adds_54 : decode cX16_adds 54 = .ok (.aload_n 2, 1) := by decide +kernel
theorem dX16_adds_55 : decode cX16_adds 55 = .ok (.iload_n 3, 1) := by decide +kernel
theorem dX16_adds_56 : decode cX16_adds 56 = .ok (.iload 5, 2) := by decide +kernel
theorem dX16_adds_58 : decode cX16_adds 58 = .ok (.iadd, 1) := by decide +kernel
theorem dX16_adds_59 : decode cX16_adds 59 = .ok (.iaload, 1) := by decide +kernel
theorem dX16_adds_60 : decode cX16_adds 60 = .ok (.iastore, 1) := by decide +kernel
theorem dX16_adds_61 : decode cX16_adds 61 = .ok (.iinc 5 1, 3) := by decide +kernel
theorem dX16_adds_64 : decode cX16_adds 64 = .ok (.goto (-31), 3) := by decide +kernel
theorem dX16_adds_67 : decode cX16_adds 67 = .ok (.aload_n 1, 1) := by decide +kernel
theorem dX16_adds_68 : decode cX16_adds 68 = .ok (.getfield 226, 3) := by decide +kernel
theorem dX16_adds_71 : decode cX16_adds 71 = .ok (.iload 4, 2) := by decide +kernel
theorem dX16_adds_73 : decode cX16_adds 73 = .ok (.iconst 0, 1) := by decide +kernel
theorem dX16_adds_74 : decode cX16_adds 74 = .ok (.iastore, 1) := by decide +kernel
theorem dX16_adds_75 : decode cX16_adds 75 = .ok (.aload_n 1, 1) := by decide +kernel
theorem dX16_adds_76 : decode cX16_adds 76 = .ok (.getfield 242, 3) := by decide +kernel
theorem dX16_adds_79 : decode cX16_adds 79 = .ok (.iload 4, 2) := by decide +kernel
theorem dX16_adds_81 : decode cX16_adds 81 = .ok (.lconst 0, 1) := by decide +kernel
theorem dX16_adds_82 : decode cX16_adds 82 = .ok (.lastore, 1) := by decide +kernel
theorem dX16_adds_83 : decode cX16_adds 83 = .ok (.aload_n 1, 1) := by decide +kernel
theorem dX16_adds_84 : decode cX16_adds 84 = .ok (.getfield 245, 3) := by decide +kernel
theorem dX16_adds_87 : decode cX16_adds 87 = .ok (.iload 4, 2) := by decide +kernel
theorem dX16_adds_89 : decode cX16_adds 89 = .ok (.ldc 248, 2) := by decide +kernel
theorem dX16_adds_91 : decode cX16_adds 91 = .ok (.iastore, 1) := by decide +kernel
theorem dX16_adds_92 : decode cX16_adds 92 = .ok (.aload_n 1, 1) := by decide +kernel
theorem dX16_adds_93 : decode cX16_adds 93 = .ok (.getfield 249, 3) := by decide +kernel
theorem dX16_adds_96 : decode cX16_adds 96 = .ok (.iload 4, 2) := by decide +kernel
theorem dX16_adds_98 : decode cX16_adds 98 = .ok (.dconst 0, 1) := by decide +kernel
theorem dX16_adds_99 : decode cX16_adds 99 = .ok (.dastore, 1) := by decide +kernel
theorem dX16_adds_100 : decode cX16_adds 100 = .ok (.iload 4, 2) := by decide +kernel
theorem dX16_adds_102 : decode cX16_adds 102 = .ok (.ireturn, 1) := by decide +kernel
theorem dX16_weighs__0 : decode cX16_weighs_ 0 = .ok (.aload_n 0, 1) := by decide +kernel
theorem dX16_weighs__1 : decode cX16_weighs_ 1 = .ok (.getfield 242, 3) := by decide +kernel
theorem dX16_weighs__4 : decode cX16_weighs_ 4 = .ok (.iload_n 1, 1) := by decide +kernel
theorem dX16_weighs__5 : decode cX16_weighs_ 5 = .ok (.dup2, 1) := by decide +kernel
theorem dX16_weighs__6 : decode cX16_weighs_ 6 = .ok (.laload, 1) := by decide +kernel
theorem dX16_weighs__7 : decode cX16_weighs_ 7 = .ok (.lload_n 2, 1) := by decide +kernel
theorem dX16_weighs__8 : decode cX16_weighs_ 8 = .ok (.ladd, 1) := by decide +kernel
theorem dX16_weighs__9 : decode cX16_weighs_ 9 = .ok (.lastore, 1) := by decide +kernel
theorem dX16_weighs__10 : decode cX16_weighs_ 10 = .ok (.aload_n 0, 1) := by decide +kernel
theorem dX16_weighs__11 : decode cX16_weighs_ 11 = .ok (.getfield 245, 3) := by decide +kernel
theorem dX16_weighs__14 : decode cX16_weighs_ 14 = .ok (.iload_n 1, 1) := by decide +kernel
theorem dX16_weighs__15 : decode cX16_weighs_ 15 = .ok (.aload_n 0, 1) := by decide +kernel
theorem dX16_weighs__16 : decode cX16_weighs_ 16 = .ok (.getfield 245, 3) := by decide +kernel
theorem dX16_weighs__19 : decode cX16_weighs_ 19 = .ok (.iload_n 1, 1) := by decide +kernel
theorem dX16_weighs__20 : decode cX16_weighs_ 20 = .ok (.iaload, 1) := by decide +kernel
theorem dX16_weighs__21 : decode cX16_weighs_ 21 = .ok (.iload 4, 2) := by decide +kernel
theorem dX16_weighs__23 : decode cX16_weighs_ 23 = .ok (.invokestatic 252, 3) := by decide +kernel
theorem dX16_weighs__26 : decode cX16_weighs_ 26 = .ok (.iastore, 1) := by decide +kernel
theorem dX16_weighs__27 : decode cX16_weighs_ 27 = .ok (.aload_n 0, 1) := by decide +kernel
theorem dX16_weighs__28 : decode cX16_weighs_ 28 = .ok (.getfield 249, 3) := by decide +kernel
theorem dX16_weighs__31 : decode cX16_weighs_ 31 = .ok (.iload_n 1, 1) := by decide +kernel
theorem dX16_weighs__32 : decode cX16_weighs_ 32 = .ok (.aload_n 0, 1) := by decide +kernel
theorem dX16_weighs__33 : decode cX16_weighs_ 33 = .ok (.getfield 249, 3) := by decide +kernel
theorem dX16_weighs__36 : decode cX16_weighs_ 36 = .ok (.iload_n 1, 1) := by decide +kernel
theorem dX16_weighs__37 : decode cX16_weighs_ 37 = .ok (.daload, 1) := by decide +kernel
theorem dX16_weighs__38 : decode cX16_weighs_ 38 = .ok (.dload 5, 2) := by decide +kernel
theorem dX16_weighs__40 : decode cX16_weighs_ 40 = .ok (.invokestatic 258, 3) := by decide +kernel
theorem dX16_weighs__43 : decode cX16_weighs_ 43 = .ok (.dastore, 1) := by decide +kernel
theorem dX16_weighs__44 : decode cX16_weighs_ 44 = .ok (.return_, 1) := by decide +kernel
theorem dX16_sum_0 : decode cX16_sum 0 = .ok (.iload_n 0, 1) := by decide +kernel
theorem dX16_sum_1 : decode cX16_sum 1 = .ok (.iload_n 1, 1) := by decide +kernel
theorem dX16_sum_2 : decode cX16_sum 2 = .ok (.iadd, 1) := by decide +kernel
theorem dX16_sum_3 : decode cX16_sum 3 = .ok (.ldc 248, 2) := by decide +kernel
theorem dX16_sum_5 : decode cX16_sum 5 = .ok (.invokestatic 252, 3) := by decide +kernel
theorem dX16_sum_8 : decode cX16_sum 8 = .ok (.ireturn, 1) := by decide +kernel
theorem dX16_copies_0 : decode cX16_copies 0 = .ok (.aload_n 0, 1) := by decide +kernel
theorem dX16_copies_1 : decode cX16_copies 1 = .ok (.aload_n 3, 1) := by decide +kernel
theorem dX16_copies_2 : decode cX16_copies 2 = .ok (.aload_n 1, 1) := by decide +kernel
theorem dX16_copies_3 : decode cX16_copies 3 = .ok (.getfield 239, 3) := by decide +kernel
theorem dX16_copies_6 : decode cX16_copies 6 = .ok (.bipush 6, 2) := by decide +kernel
theorem dX16_copies_8 : decode cX16_copies 8 = .ok (.iload_n 2, 1) := by decide +kernel
theorem dX16_copies_9 : decode cX16_copies 9 = .ok (.imul, 1) := by decide +kernel
theorem dX16_copies_10 : decode cX16_copies 10 = .ok (.invokevirtual 262, 3) := by decide +kernel
theorem dX16_copies_13 : decode cX16_copies 13 = .ok (.istore 4, 2) := by decide +kernel
theorem dX16_copies_15 : decode cX16_copies 15 = .ok (.aload_n 0, 1) := by decide +kernel
theorem dX16_copies_16 : decode cX16_copies 16 = .ok (.iconst 0, 1) := by decide +kernel
theorem dX16_copies_17 : decode cX16_copies 17 = .ok (.putfield 223, 3) := by decide +kernel
theorem dX16_copies_20 : decode cX16_copies 20 = .ok (.aload_n 0, 1) := by decide +kernel
theorem dX16_copies_21 : decode cX16_copies 21 = .ok (.aload_n 1, 1) := by decide +kernel
theorem dX16_copies_22 : decode cX16_copies 22 = .ok (.iload_n 2, 1) := by decide +kernel
theorem dX16_copies_23 : decode cX16_copies 23 = .ok (.invokevirtual 266, 3) := by decide +kernel
theorem dX16_copies_26 : decode cX16_copies 26 = .ok (.aload_n 0, 1) := by decide +kernel
theorem dX16_copies_27 : decode cX16_copies 27 = .ok (.aload_n 3, 1) := by decide +kernel
theorem dX16_copies_28 : decode cX16_copies 28 = .ok (.iload 4, 2) := by decide +kernel
theorem dX16_copies_30 : decode cX16_copies 30 = .ok (.invokevirtual 270, 3) := by decide +kernel
theorem dX16_copies_33 : decode cX16_copies 33 = .ok (.istore 5, 2) := by decide +kernel
theorem dX16_copies_35 : decode cX16_copies 35 = .ok (.aload_n 3, 1) := by decide +kernel
theorem dX16_copies_36 : decode cX16_copies 36 = .ok (.iload 4, 2) := by decide +kernel
theorem dX16_copies_38 : decode cX16_copies 38 = .ok (.aload_n 1, 1) := by decide +kernel
theorem dX16_copies_39 : decode cX16_copies 39 = .ok (.getfield 242, 3) := by decide +kernel
theorem dX16_copies_42 : decode cX16_copies 42 = .ok (.iload_n 2, 1) := by decide +kernel
theorem dX16_copies_43 : decode cX16_copies 43 = .ok (.laload, 1) := by decide +kernel
theorem dX16_copies_44 : decode cX16_copies 44 = .ok (.aload_n 1, 1) := by decide +kernel
theorem dX16_copies_45 : decode cX16_copies 45 = .ok (.getfield 245, 3) := by decide +kernel
theorem dX16_copies_48 : decode cX16_copies 48 = .ok (.iload_n 2, 1) := by decide +kernel
theorem dX16_copies_49 : decode cX16_copies 49 = .ok (.iaload, 1) := by decide +kernel
theorem dX16_copies_50 : decode cX16_copies 50 = .ok (.aload_n 1, 1) := by decide +kernel
theorem dX16_copies_51 : decode cX16_copies 51 = .ok (.getfield 249, 3) := by decide +kernel
theorem dX16_copies_54 : decode cX16_copies 54 = .ok (.iload_n 2, 1) := by decide +kernel
theorem dX16_copies_55 : decode cX16_copies 55 = .ok (.daload, 1) := by decide +kernel
theorem dX16_copies_56 : decode cX16_copies 56 = .ok (.invokestatic 274, 3) := by decide +kernel
theorem dX16_copies_59 : decode cX16_copies 59 = .ok (.return_, 1) := by decide +kernel
theorem dX16_isTrue_0 : decode cX16_isTrue 0 = .ok (.iconst 0, 1) := by decide +kernel
theorem dX16_isTrue_1 : decode cX16_isTrue 1 = .ok (.istore_n 3, 1) := by decide +kernel
theorem dX16_isTrue_2 : decode cX16_isTrue 2 = .ok (.iconst 0, 1) := by decide +kernel
theorem dX16_isTrue_3 : decode cX16_isTrue 3 = .ok (.istore 4, 2) := by decide +kernel
theorem dX16_isTrue_5 : decode cX16_isTrue 5 = .ok (.iload 4, 2) := by decide +kernel
theorem dX16_isTrue_7 : decode cX16_isTrue 7 = .ok (.aload_n 1, 1) := by decide +kernel
theorem dX16_isTrue_8 : decode cX16_isTrue 8 = .ok (.getfield 226, 3) := by decide +kernel
theorem dX16_isTrue_11 : decode cX16_isTrue 11 = .ok (.iload_n 2, 1) := by decide +kernel
theorem dX16_isTrue_12 : decode cX16_isTrue 12 = .ok (.iaload, 1) := by decide +kernel
theorem dX16_isTrue_13 : decode cX16_isTrue 13 = .ok (.if_icmp .ge 30, 3) := by decide +kernel
theorem dX16_isTrue_16 : decode cX16_isTrue 16 = .ok (.iload_n 3, 1) := by decide +kernel
theorem dX16_isTrue_17 : decode cX16_isTrue 17 = .ok (.ifCond .ne 26, 3) := by decide +kernel
theorem dX16_isTrue_20 : decode cX16_isTrue 20 = .ok (.aload_n 0, 1) := by decide +kernel
theorem dX16_isTrue_21 : decode cX16_isTrue 21 = .ok (.aload_n 1, 1) := by decide +kernel
theorem dX16_isTrue_22 : decode cX16_isTrue 22 = .ok (.getfield 229, 3) := by decide +kernel
theorem dX16_isTrue_25 : decode cX16_isTrue 25 = .ok (.bipush 16, 2) := by decide +kernel
theorem dX16_isTrue_27 : decode cX16_isTrue 27 = .ok (.iload_n 2, 1) := by decide +kernel
theorem dX16_isTrue_28 : decode cX16_isTrue 28 = .ok (.imul, 1) := by decide +kernel
theorem dX16_isTrue_29 : decode cX16_isTrue 29 = .ok (.iload 4, 2) := by decide +kernel
theorem dX16_isTrue_31 : decode cX16_isTrue 31 = .ok (.iadd, 1) := by decide +kernel
theorem dX16_isTrue_32 : decode cX16_isTrue 32 = .ok (.laload, 1) := by decide +kernel
theorem dX16_isTrue_33 : decode cX16_isTrue 33 = .ok (.invokevirtual 277, 3) := by decide +kernel
theorem dX16_isTrue_36 : decode cX16_isTrue 36 = .ok (.istore_n 3, 1) := by decide +kernel
theorem dX16_isTrue_37 : decode cX16_isTrue 37 = .ok (.iinc 4 1, 3) := by decide +kernel
theorem dX16_isTrue_40 : decode cX16_isTrue 40 = .ok (.goto (-35), 3) := by decide +kernel
theorem dX16_isTrue_43 : decode cX16_isTrue 43 = .ok (.iload_n 3, 1) := by decide +kernel
theorem dX16_isTrue_44 : decode cX16_isTrue 44 = .ok (.ireturn, 1) := by decide +kernel
theorem dX16_isThere_0 : decode cX16_isThere 0 = .ok (.iconst 1, 1) := by decide +kernel
theorem dX16_isThere_1 : decode cX16_isThere 1 = .ok (.istore_n 3, 1) := by decide +kernel
theorem dX16_isThere_2 : decode cX16_isThere 2 = .ok (.iconst 0, 1) := by decide +kernel
theorem dX16_isThere_3 : decode cX16_isThere 3 = .ok (.istore 4, 2) := by decide +kernel
theorem dX16_isThere_5 : decode cX16_isThere 5 = .ok (.iload 4, 2) := by decide +kernel
theorem dX16_isThere_7 : decode cX16_isThere 7 = .ok (.aload_n 0, 1) := by decide +kernel
theorem dX16_isThere_8 : decode cX16_isThere 8 = .ok (.getfield 40, 3) := by decide +kernel
theorem dX16_isThere_11 : decode cX16_isThere 11 = .ok (.if_icmp .ge 40, 3) := by decide +kernel
theorem dX16_isThere_14 : decode cX16_isThere 14 = .ok (.iload_n 3, 1) := by decide +kernel
theorem dX16_isThere_15 : decode cX16_isThere 15 = .ok (.ifCond .eq 28, 3) := by decide +kernel
theorem dX16_isThere_18 : decode cX16_isThere 18 = .ok (.lload_n 1, 1) := by decide +kernel
theorem dX16_isThere_19 : decode cX16_isThere 19 = .ok (.iload 4, 2) := by decide +kernel
theorem dX16_isThere_21 : decode cX16_isThere 21 = .ok (.lshr, 1) := by decide +kernel
theorem dX16_isThere_22 : decode cX16_isThere 22 = .ok (.lconst 1, 1) := by decide +kernel
theorem dX16_isThere_23 : decode cX16_isThere 23 = .ok (.land, 1) := by decide +kernel
theorem dX16_isThere_24 : decode cX16_isThere 24 = .ok (.lconst 0, 1) := by decide +kernel
theorem dX16_isThere_25 : decode cX16_isThere 25 = .ok (.lcmp, 1) := by decide +kernel
theorem dX16_isThere_26 : decode cX16_isThere 26 = .ok (.ifCond .eq 13, 3) := by decide +kernel
theorem dX16_isThere_29 : decode cX16_isThere 29 = .ok (.aload_n 0, 1) := by decide +kernel
theorem dX16_isThere_30 : decode cX16_isThere 30 = .ok (.getfield 43, 3) := by decide +kernel
theorem dX16_isThere_33 : decode cX16_isThere 33 = .ok (.iload 4, 2) := by decide +kernel
theorem dX16_isThere_35 : decode cX16_isThere 35 = .ok (.baload, 1) := by decide +kernel
theorem dX16_isThere_36 : decode cX16_isThere 36 = .ok (.ifCond .ne 7, 3) := by decide +kernel
theorem dX16_isThere_39 : decode cX16_isThere 39 = .ok (.iconst 1, 1) := by decide +kernel
theorem dX16_isThere_40 : decode cX16_isThere 40 = .ok (.goto 4, 3) := by decide +kernel
theorem dX16_isThere_43 : decode cX16_isThere 43 = .ok (.iconst 0, 1) := by decide +kernel
theorem dX16_isThere_44 : decode cX16_isThere 44 = .ok (.istore_n 3, 1) := by decide +kernel
theorem dX16_isThere_45 : decode cX16_isThere 45 = .ok (.iinc 4 1, 3) := by decide +kernel
theorem dX16_isThere_48 : decode cX16_isThere 48 = .ok (.goto (-43), 3) := by decide +kernel
theorem dX16_isThere_51 : decode cX16_isThere 51 = .ok (.iload_n 3, 1) := by decide +kernel
theorem dX16_isThere_52 : decode cX16_isThere 52 = .ok (.ireturn, 1) := by decide +kernel
theorem dX16_works_0 : decode cX16_works 0 = .ok (.aload_n 0, 1) := by decide +kernel
theorem dX16_works_1 : decode cX16_works 1 = .ok (.getfield 188, 3) := by decide +kernel
theorem dX16_works_4 : decode cX16_works 4 = .ok (.iload_n 1, 1) := by decide +kernel
theorem dX16_works_5 : decode cX16_works 5 = .ok (.aaload, 1) := by decide +kernel
theorem dX16_works_6 : decode cX16_works 6 = .ok (.astore_n 2, 1) := by decide +kernel
theorem dX16_works_7 : decode cX16_works 7 = .ok (.aload_n 2, 1) := by decide +kernel
theorem dX16_works_8 : decode cX16_works 8 = .ok (.iconst 0, 1) := by decide +kernel
theorem dX16_works_9 : decode cX16_works 9 = .ok (.putfield 35, 3) := by decide +kernel
theorem dX16_works_12 : decode cX16_works 12 = .ok (.aload_n 2, 1) := by decide +kernel
theorem dX16_works_13 : decode cX16_works 13 = .ok (.aload_n 0, 1) := by decide +kernel
theorem dX16_works_14 : decode cX16_works 14 = .ok (.getfield 146, 3) := by decide +kernel
theorem dX16_works_17 : decode cX16_works 17 = .ok (.iload_n 1, 1) := by decide +kernel
theorem dX16_works_18 : decode cX16_works 18 = .ok (.iaload, 1) := by decide +kernel
theorem dX16_works_19 : decode cX16_works 19 = .ok (.putfield 236, 3) := by decide +kernel
theorem dX16_works_22 : decode cX16_works 22 = .ok (.aload_n 0, 1) := by decide +kernel
theorem dX16_works_23 : decode cX16_works 23 = .ok (.getfield 137, 3) := by decide +kernel
theorem dX16_works_26 : decode cX16_works 26 = .ok (.iload_n 1, 1) := by decide +kernel
theorem dX16_works_27 : decode cX16_works 27 = .ok (.iaload, 1) := by decide +kernel
theorem dX16_works_28 : decode cX16_works 28 = .ok (.tableswitch 158 0 6 #[44, 158, 158, 58, 78, 109, 139], 44) := by decide +kernel
theorem dX16_works_72 : decode cX16_works 72 = .ok (.aload_n 0, 1) := by decide +kernel
theorem dX16_works_73 : decode cX16_works 73 = .ok (.aload_n 2, 1) := by decide +kernel
theorem dX16_works_74 : decode cX16_works 74 = .ok (.aload_n 0, 1) := by decide +kernel
theorem dX16_works_75 : decode cX16_works 75 = .ok (.getfield 140, 3) := by decide +kernel
theorem dX16_works_78 : decode cX16_works 78 = .ok (.iload_n 1, 1) := by decide +kernel
theorem dX16_works_79 : decode cX16_works 79 = .ok (.iaload, 1) := by decide +kernel
theorem dX16_works_80 : decode cX16_works 80 = .ok (.invokevirtual 281, 3) := by decide +kernel
theorem dX16_works_83 : decode cX16_works 83 = .ok (.goto 120, 3) := by decide +kernel
theorem dX16_works_86 : decode cX16_works 86 = .ok (.aload_n 0, 1) := by decide +kernel
theorem dX16_works_87 : decode cX16_works 87 = .ok (.iload_n 1, 1) := by decide +kernel
theorem dX16_works_88 : decode cX16_works 88 = .ok (.aload_n 2, 1) := by decide +kernel
theorem dX16_works_89 : decode cX16_works 89 = .ok (.aload_n 0, 1) := by decide +kernel
theorem dX16_works_90 : decode cX16_works 90 = .ok (.getfield 188, 3) := by decide +kernel
theorem dX16_works_93 : decode cX16_works 93 = .ok (.aload_n 0, 1) := by decide +kernel
theorem dX16_works_94 : decode cX16_works 94 = .ok (.getfield 140, 3) := by decide +kernel
theorem dX16_works_97 : decode cX16_works 97 = .ok (.iload_n 1, 1) := by decide +kernel
theorem dX16_works_98 : decode cX16_works 98 = .ok (.iaload, 1) := by decide +kernel
theorem dX16_works_99 : decode cX16_works 99 = .ok (.aaload, 1) := by decide +kernel
theorem dX16_works_100 : decode cX16_works 100 = .ok (.invokevirtual 284, 3) := by decide +kernel
theorem dX16_works_103 : decode cX16_works 103 = .ok (.goto 100, 3) := by decide +kernel
theorem dX16_works_106 : decode cX16_works 106 = .ok (.aload_n 0, 1) := by decide +kernel
theorem dX16_works_107 : decode cX16_works 107 = .ok (.iload_n 1, 1) := by decide +kernel
theorem dX16_works_108 : decode cX16_works 108 = .ok (.aload_n 2, 1) := by decide +kernel
theorem dX16_works_109 : decode cX16_works 109 = .ok (.aload_n 0, 1) := by decide +kernel
theorem dX16_works_110 : decode cX16_works 110 = .ok (.getfield 188, 3) := by decide +kernel
theorem dX16_works_113 : decode cX16_works 113 = .ok (.aload_n 0, 1) := by decide +kernel
theorem dX16_works_114 : decode cX16_works 114 = .ok (.getfield 140, 3) := by decide +kernel
theorem dX16_works_117 : decode cX16_works 117 = .ok (.iload_n 1, 1) := by decide +kernel
theorem dX16_works_118 : decode cX16_works 118 = .ok (.iaload, 1) := by decide +kernel
theorem dX16_works_119 : decode cX16_works 119 = .ok (.aaload, 1) := by decide +kernel
theorem dX16_works_120 : decode cX16_works 120 = .ok (.aload_n 0, 1) := by decide +kernel
theorem dX16_works_121 : decode cX16_works 121 = .ok (.getfield 188, 3) := by decide +kernel
theorem dX16_works_124 : decode cX16_works 124 = .ok (.aload_n 0, 1) := by decide +kernel
theorem dX16_works_125 : decode cX16_works 125 = .ok (.getfield 143, 3) := by decide +kernel
theorem dX16_works_128 : decode cX16_works 128 = .ok (.iload_n 1, 1) := by decide +kernel
theorem dX16_works_129 : decode cX16_works 129 = .ok (.iaload, 1) := by decide +kernel
theorem dX16_works_130 : decode cX16_works 130 = .ok (.aaload, 1) := by decide +kernel
theorem dX16_works_131 : decode cX16_works 131 = .ok (.invokevirtual 288, 3) := by decide +kernel
theorem dX16_works_134 : decode cX16_works 134 = .ok (.goto 69, 3) := by decide +kernel
theorem dX16_works_137 : decode cX16_works 137 = .ok (.aload_n 0, 1) := by decide +kernel
theorem dX16_works_138 : decode cX16_works 138 = .ok (.aload_n 2, 1) := by decide +kernel
theorem dX16_works_139 : decode cX16_works 139 = .ok (.aload_n 0, 1) := by decide +kernel
theorem dX16_works_140 : decode cX16_works 140 = .ok (.getfield 188, 3) := by decide +kernel
theorem dX16_works_143 : decode cX16_works 143 = .ok (.aload_n 0, 1) := by decide +kernel
theorem dX16_works_144 : decode cX16_works 144 = .ok (.getfield 140, 3) := by decide +kernel
theorem dX16_works_147 : decode cX16_works 147 = .ok (.iload_n 1, 1) := by decide +kernel
theorem dX16_works_148 : decode cX16_works 148 = .ok (.iaload, 1) := by decide +kernel
theorem dX16_works_149 : decode cX16_works 149 = .ok (.aaload, 1) := by decide +kernel
theorem dX16_works_150 : decode cX16_works 150 = .ok (.aload_n 0, 1) := by decide +kernel
theorem dX16_works_151 : decode cX16_works 151 = .ok (.getfield 188, 3) := by decide +kernel
theorem dX16_works_154 : decode cX16_works 154 = .ok (.aload_n 0, 1) := by decide +kernel
theorem dX16_works_155 : decode cX16_works 155 = .ok (.getfield 143, 3) := by decide +kernel
theorem dX16_works_158 : decode cX16_works 158 = .ok (.iload_n 1, 1) := by decide +kernel
theorem dX16_works_159 : decode cX16_works 159 = .ok (.iaload, 1) := by decide +kernel
theorem dX16_works_160 : decode cX16_works 160 = .ok (.aaload, 1) := by decide +kernel
theorem dX16_works_161 : decode cX16_works 161 = .ok (.invokevirtual 292, 3) := by decide +kernel
theorem dX16_works_164 : decode cX16_works 164 = .ok (.goto 39, 3) := by decide +kernel
theorem dX16_works_167 : decode cX16_works 167 = .ok (.aload_n 0, 1) := by decide +kernel
theorem dX16_works_168 : decode cX16_works 168 = .ok (.aload_n 2, 1) := by decide +kernel
theorem dX16_works_169 : decode cX16_works 169 = .ok (.aload_n 0, 1) := by decide +kernel
theorem dX16_works_170 : decode cX16_works 170 = .ok (.getfield 188, 3) := by decide +kernel
theorem dX16_works_173 : decode cX16_works 173 = .ok (.aload_n 0, 1) := by decide +kernel
theorem dX16_works_174 : decode cX16_works 174 = .ok (.getfield 140, 3) := by decide +kernel
theorem dX16_works_177 : decode cX16_works 177 = .ok (.iload_n 1, 1) := by decide +kernel
theorem dX16_works_178 : decode cX16_works 178 = .ok (.iaload, 1) := by decide +kernel
theorem dX16_works_179 : decode cX16_works 179 = .ok (.aaload, 1) := by decide +kernel
theorem dX16_works_180 : decode cX16_works 180 = .ok (.invokevirtual 296, 3) := by decide +kernel
theorem dX16_works_183 : decode cX16_works 183 = .ok (.goto 20, 3) := by decide +kernel
theorem dX16_works_186 : decode cX16_works 186 = .ok (.aload_n 0, 1) := by decide +kernel
theorem dX16_works_187 : decode cX16_works 187 = .ok (.iload_n 1, 1) := by decide +kernel
theorem dX16_works_188 : decode cX16_works 188 = .ok (.aload_n 2, 1) := by decide +kernel
theorem dX16_works_189 : decode cX16_works 189 = .ok (.aload_n 0, 1) := by decide +kernel
theorem dX16_works_190 : decode cX16_works 190 = .ok (.getfield 188, 3) := by decide +kernel
theorem dX16_works_193 : decode cX16_works 193 = .ok (.aload_n 0, 1) := by decide +kernel
theorem dX16_works_194 : decode cX16_works 194 = .ok (.getfield 140, 3) := by decide +kernel
theorem dX16_works_197 : decode cX16_works 197 = .ok (.iload_n 1, 1) := by decide +kernel
theorem dX16_works_198 : decode cX16_works 198 = .ok (.iaload, 1) := by decide +kernel
theorem dX16_works_199 : decode cX16_works 199 = .ok (.aaload, 1) := by decide +kernel
theorem dX16_works_200 : decode cX16_works 200 = .ok (.invokevirtual 300, 3) := by decide +kernel
theorem dX16_works_203 : decode cX16_works 203 = .ok (.return_, 1) := by decide +kernel
theorem dX16_bases_0 : decode cX16_bases 0 = .ok (.iconst 0, 1) := by decide +kernel
theorem dX16_bases_1 : decode cX16_bases 1 = .ok (.istore_n 3, 1) := by decide +kernel
theorem dX16_bases_2 : decode cX16_bases 2 = .ok (.iload_n 3, 1) := by decide +kernel
theorem dX16_bases_3 : decode cX16_bases 3 = .ok (.aload_n 0, 1) := by decide +kernel
theorem dX16_bases_4 : decode cX16_bases 4 = .ok (.getfield 40, 3) := by decide +kernel
theorem dX16_bases_7 : decode cX16_bases 7 = .ok (.if_icmp .ge 108, 3) := by decide +kernel
theorem dX16_bases_10 : decode cX16_bases 10 = .ok (.aload_n 0, 1) := by decide +kernel
theorem dX16_bases_11 : decode cX16_bases 11 = .ok (.getfield 91, 3) := by decide +kernel
theorem dX16_bases_14 : decode cX16_bases 14 = .ok (.iload_n 3, 1) := by decide +kernel
theorem dX16_bases_15 : decode cX16_bases 15 = .ok (.iaload, 1) := by decide +kernel
theorem dX16_bases_16 : decode cX16_bases 16 = .ok (.iload_n 2, 1) := by decide +kernel
theorem dX16_bases_17 : decode cX16_bases 17 = .ok (.if_icmp .eq 6, 3) := by decide +kernel
theorem dX16_bases_20 : decode cX16_bases 20 = .ok (.goto 89, 3) := by decide +kernel
theorem dX16_bases_23 : decode cX16_bases 23 = .ok (.aload_n 1, 1) := by decide +kernel
theorem dX16_bases_24 : decode cX16_bases 24 = .ok (.aload_n 0, 1) := by decide +kernel
theorem dX16_bases_25 : decode cX16_bases 25 = .ok (.getfield 94, 3) := by decide +kernel
theorem dX16_bases_28 : decode cX16_bases 28 = .ok (.iconst 4, 1) := by decide +kernel
theorem dX16_bases_29 : decode cX16_bases 29 = .ok (.iload_n 3, 1) := by decide +kernel
theorem dX16_bases_30 : decode cX16_bases 30 = .ok (.imul, 1) := by decide +kernel
theorem dX16_bases_31 : decode cX16_bases 31 = .ok (.invokevirtual 303, 3) := by decide +kernel
theorem dX16_bases_34 : decode cX16_bases 34 = .ok (.istore 4, 2) := by decide +kernel
theorem dX16_bases_36 : decode cX16_bases 36 = .ok (.iload 4, 2) := by decide +kernel
theorem dX16_bases_38 : decode cX16_bases 38 = .ok (.iconst (-1), 1) := by decide +kernel
theorem dX16_bases_39 : decode cX16_bases 39 = .ok (.if_icmp .ne 17, 3) := by decide +kernel
theorem dX16_bases_42 : decode cX16_bases 42 = .ok (.aload_n 0, 1) := by decide +kernel
theorem dX16_bases_43 : decode cX16_bases 43 = .ok (.aload_n 1, 1) := by decide +kernel
theorem dX16_bases_44 : decode cX16_bases 44 = .ok (.aload_n 0, 1) := by decide +kernel
theorem dX16_bases_45 : decode cX16_bases 45 = .ok (.getfield 94, 3) := by decide +kernel
theorem dX16_bases_48 : decode cX16_bases 48 = .ok (.iconst 4, 1) := by decide +kernel
theorem dX16_bases_49 : decode cX16_bases 49 = .ok (.iload_n 3, 1) := by decide +kernel
theorem dX16_bases_50 : decode cX16_bases 50 = .ok (.imul, 1) := by decide +kernel
theorem dX16_bases_51 : decode cX16_bases 51 = .ok (.invokevirtual 262, 3) := by decide +kernel
theorem dX16_bases_54 : decode cX16_bases 54 = .ok (.istore 4, 2) := by decide +kernel
theorem dX16_bases_56 : decode cX16_bases 56 = .ok (.aload_n 0, 1) := by decide +kernel
theorem dX16_bases_57 : decode cX16_bases 57 = .ok (.iconst 0, 1) := by decide +kernel
theorem dX16_bases_58 : decode cX16_bases 58 = .ok (.putfield 223, 3) := by decide +kernel
theorem dX16_bases_61 : decode cX16_bases 61 = .ok (.aload_n 0, 1) := by decide +kernel
theorem dX16_bases_62 : decode cX16_bases 62 = .ok (.aload_n 1, 1) := by decide +kernel
theorem dX16_bases_63 : decode cX16_bases 63 = .ok (.iload 4, 2) := by decide +kernel
theorem dX16_bases_65 : decode cX16_bases 65 = .ok (.invokevirtual 266, 3) := by decide +kernel
theorem dX16_bases_68 : decode cX16_bases 68 = .ok (.aload_n 0, 1) := by decide +kernel
theorem dX16_bases_69 : decode cX16_bases 69 = .ok (.lconst 1, 1) := by decide +kernel
theorem dX16_bases_70 : decode cX16_bases 70 = .ok (.iload_n 3, 1) := by decide +kernel
theorem dX16_bases_71 : decode cX16_bases 71 = .ok (.lshl, 1) := by decide +kernel
theorem dX16_bases_72 : decode cX16_bases 72 = .ok (.invokevirtual 232, 3) := by decide +kernel
theorem dX16_bases_75 : decode cX16_bases 75 = .ok (.aload_n 0, 1) := by decide +kernel
theorem dX16_bases_76 : decode cX16_bases 76 = .ok (.aload_n 1, 1) := by decide +kernel
theorem dX16_bases_77 : decode cX16_bases 77 = .ok (.iload 4, 2) := by decide +kernel
theorem dX16_bases_79 : decode cX16_bases 79 = .ok (.invokevirtual 270, 3) := by decide +kernel
theorem dX16_bases_82 : decode cX16_bases 82 = .ok (.istore 5, 2) := by decide +kernel
theorem dX16_bases_84 : decode cX16_bases 84 = .ok (.aload_n 1, 1) := by decide +kernel
theorem dX16_bases_85 : decode cX16_bases 85 = .ok (.iload 4, 2) := by decide +kernel
theorem dX16_bases_87 : decode cX16_bases 87 = .ok (.aload_n 0, 1) := by decide +kernel
theorem dX16_bases_88 : decode cX16_bases 88 = .ok (.getfield 97, 3) := by decide +kernel
theorem dX16_bases_91 : decode cX16_bases 91 = .ok (.iload_n 3, 1) := by decide +kernel
theorem dX16_bases_92 : decode cX16_bases 92 = .ok (.iaload, 1) := by decide +kernel
theorem dX16_bases_93 : decode cX16_bases 93 = .ok (.i2l, 1) := by decide +kernel
theorem dX16_bases_94 : decode cX16_bases 94 = .ok (.aload_n 0, 1) := by decide +kernel
theorem dX16_bases_95 : decode cX16_bases 95 = .ok (.getfield 100, 3) := by decide +kernel
theorem dX16_bases_98 : decode cX16_bases 98 = .ok (.iload_n 3, 1) := by decide +kernel
theorem dX16_bases_99 : decode cX16_bases 99 = .ok (.iaload, 1) := by decide +kernel
theorem dX16_bases_100 : decode cX16_bases 100 = .ok (.aload_n 0, 1) := by decide +kernel
theorem dX16_bases_101 : decode cX16_bases 101 = .ok (.getfield 103, 3) := by decide +kernel
theorem dX16_bases_104 : decode cX16_bases 104 = .ok (.iload_n 3, 1) := by decide +kernel
theorem dX16_bases_105 : decode cX16_bases 105 = .ok (.daload, 1) := by decide +kernel
theorem dX16_bases_106 : decode cX16_bases 106 = .ok (.invokestatic 274, 3) := by decide +kernel
theorem dX16_bases_109 : decode cX16_bases 109 = .ok (.iinc 3 1, 3) := by decide +kernel
theorem dX16_bases_112 : decode cX16_bases 112 = .ok (.goto (-110), 3) := by decide +kernel
theorem dX16_bases_115 : decode cX16_bases 115 = .ok (.return_, 1) := by decide +kernel
theorem dX16_picks_0 : decode cX16_picks 0 = .ok (.iconst 0, 1) := by decide +kernel
theorem dX16_picks_1 : decode cX16_picks 1 = .ok (.istore 4, 2) := by decide +kernel
theorem dX16_picks_3 : decode cX16_picks 3 = .ok (.iload 4, 2) := by decide +kernel
theorem dX16_picks_5 : decode cX16_picks 5 = .ok (.aload_n 3, 1) := by decide +kernel
theorem dX16_picks_6 : decode cX16_picks 6 = .ok (.getfield 35, 3) := by decide +kernel
theorem dX16_picks_9 : decode cX16_picks 9 = .ok (.if_icmp .ge 178, 3) := by decide +kernel
theorem dX16_picks_12 : decode cX16_picks 12 = .ok (.bipush 6, 2) := by decide +kernel
theorem dX16_picks_14 : decode cX16_picks 14 = .ok (.iload 4, 2) := by decide +kernel
theorem dX16_picks_16 : decode cX16_picks 16 = .ok (.imul, 1) := by decide +kernel
theorem dX16_picks_17 : decode cX16_picks 17 = .ok (.istore 5, 2) := by decide +kernel
theorem dX16_picks_19 : decode cX16_picks 19 = .ok (.aload_n 0, 1) := by decide +kernel
theorem dX16_picks_20 : decode cX16_picks 20 = .ok (.getfield 137, 3) := by decide +kernel
theorem dX16_picks_23 : decode cX16_picks 23 = .ok (.iload_n 1, 1) := by decide +kernel
theorem dX16_picks_24 : decode cX16_picks 24 = .ok (.iaload, 1) := by decide +kernel
theorem dX16_picks_25 : decode cX16_picks 25 = .ok (.iconst 1, 1) := by decide +kernel
theorem dX16_picks_26 : decode cX16_picks 26 = .ok (.if_icmp .ne 36, 3) := by decide +kernel
theorem dX16_picks_29 : decode cX16_picks 29 = .ok (.aload_n 3, 1) := by decide +kernel
theorem dX16_picks_30 : decode cX16_picks 30 = .ok (.getfield 239, 3) := by decide +kernel
theorem dX16_picks_33 : decode cX16_picks 33 = .ok (.iload 5, 2) := by decide +kernel
theorem dX16_picks_35 : decode cX16_picks 35 = .ok (.aload_n 0, 1) := by decide +kernel
theorem dX16_picks_36 : decode cX16_picks 36 = .ok (.getfield 149, 3) := by decide +kernel
theorem dX16_picks_39 : decode cX16_picks 39 = .ok (.iload_n 1, 1) := by decide +kernel
theorem dX16_picks_40 : decode cX16_picks 40 = .ok (.iaload, 1) := by decide +kernel
theorem dX16_picks_41 : decode cX16_picks 41 = .ok (.iadd, 1) := by decide +kernel
theorem dX16_picks_42 : decode cX16_picks 42 = .ok (.iaload, 1) := by decide +kernel
theorem dX16_picks_43 : decode cX16_picks 43 = .ok (.aload_n 0, 1) := by decide +kernel
theorem dX16_picks_44 : decode cX16_picks 44 = .ok (.getfield 152, 3) := by decide +kernel
theorem dX16_picks_47 : decode cX16_picks 47 = .ok (.iload_n 1, 1) := by decide +kernel
theorem dX16_picks_48 : decode cX16_picks 48 = .ok (.iaload, 1) := by decide +kernel
theorem dX16_picks_49 : decode cX16_picks 49 = .ok (.if_icmp .ne 7, 3) := by decide +kernel
theorem dX16_picks_52 : decode cX16_picks 52 = .ok (.iconst 1, 1) := by decide +kernel
theorem dX16_picks_53 : decode cX16_picks 53 = .ok (.goto 4, 3) := by decide +kernel
theorem dX16_picks_56 : decode cX16_picks 56 = .ok (.iconst 0, 1) := by decide +kernel
theorem dX16_picks_57 : decode cX16_picks 57 = .ok (.istore 6, 2) := by decide +kernel
theorem dX16_picks_59 : decode cX16_picks 59 = .ok (.goto 109, 3) := by decide +kernel
theorem dX16_picks_62 : decode cX16_picks 62 = .ok (.aload_n 0, 1) := by decide +kernel
theorem dX16_picks_63 : decode cX16_picks 63 = .ok (.getfield 137, 3) := by decide +kernel
theorem dX16_picks_66 : decode cX16_picks 66 = .ok (.iload_n 1, 1) := by decide +kernel
theorem dX16_picks_67 : decode cX16_picks 67 = .ok (.iaload, 1) := by decide +kernel
theorem dX16_picks_68 : decode cX16_picks 68 = .ok (.iconst 2, 1) := by decide +kernel
theorem dX16_picks_69 : decode cX16_picks 69 = .ok (.if_icmp .ne 44, 3) := by decide +kernel
theorem dX16_picks_72 : decode cX16_picks 72 = .ok (.aload_n 3, 1) := by decide +kernel
theorem dX16_picks_73 : decode cX16_picks 73 = .ok (.getfield 239, 3) := by decide +kernel
theorem dX16_picks_76 : decode cX16_picks 76 = .ok (.iload 5, 2) := by decide +kernel
theorem dX16_picks_78 : decode cX16_picks 78 = .ok (.aload_n 0, 1) := by decide +kernel
theorem dX16_picks_79 : decode cX16_picks 79 = .ok (.getfield 149, 3) := by decide +kernel
theorem dX16_picks_82 : decode cX16_picks 82 = .ok (.iload_n 1, 1) := by decide +kernel
theorem dX16_picks_83 : decode cX16_picks 83 = .ok (.iaload, 1) := by decide +kernel
theorem dX16_picks_84 : decode cX16_picks 84 = .ok (.iadd, 1) := by decide +kernel
theorem dX16_picks_85 : decode cX16_picks 85 = .ok (.iaload, 1) := by decide +kernel
theorem dX16_picks_86 : decode cX16_picks 86 = .ok (.aload_n 3, 1) := by decide +kernel
theorem dX16_picks_87 : decode cX16_picks 87 = .ok (.getfield 239, 3) := by decide +kernel
theorem dX16_picks_90 : decode cX16_picks 90 = .ok (.iload 5, 2) := by decide +kernel
theorem dX16_picks_92 : decode cX16_picks 92 = .ok (.aload_n 0, 1) := by decide +kernel
theorem dX16_picks_93 : decode cX16_picks 93 = .ok (.getfield 152, 3) := by decide +kernel
theorem dX16_picks_96 : decode cX16_picks 96 = .ok (.iload_n 1, 1) := by decide +kernel
theorem dX16_picks_97 : decode cX16_picks 97 = .ok (.iaload, 1) := by decide +kernel
theorem dX16_picks_98 : decode cX16_picks 98 = .ok (.iadd, 1) := by decide +kernel
theorem dX16_picks_99 : decode cX16_picks 99 = .ok (.iaload, 1) := by decide +kernel
theorem dX16_picks_100 : decode cX16_picks 100 = .ok (.if_icmp .ne 7, 3) := by decide +kernel
theorem dX16_picks_103 : decode cX16_picks 103 = .ok (.iconst 1, 1) := by decide +kernel
theorem dX16_picks_104 : decode cX16_picks 104 = .ok (.goto 4, 3) := by decide +kernel
theorem dX16_picks_107 : decode cX16_picks 107 = .ok (.iconst 0, 1) := by decide +kernel
theorem dX16_picks_108 : decode cX16_picks 108 = .ok (.istore 6, 2) := by decide +kernel
theorem dX16_picks_110 : decode cX16_picks 110 = .ok (.goto 58, 3) := by decide +kernel
theorem dX16_picks_113 : decode cX16_picks 113 = .ok (.aload_n 0, 1) := by decide +kernel
theorem dX16_picks_114 : decode cX16_picks 114 = .ok (.getfield 188, 3) := by decide +kernel
theorem dX16_picks_117 : decode cX16_picks 117 = .ok (.aload_n 0, 1) := by decide +kernel
theorem dX16_picks_118 : decode cX16_picks 118 = .ok (.getfield 143, 3) := by decide +kernel
theorem dX16_picks_121 : decode cX16_picks 121 = .ok (.iload_n 1, 1) := by decide +kernel
theorem dX16_picks_122 : decode cX16_picks 122 = .ok (.iaload, 1) := by decide +kernel
theorem dX16_picks_123 : decode cX16_picks 123 = .ok (.aaload, 1) := by decide +kernel
theorem dX16_picks_124 : decode cX16_picks 124 = .ok (.aload_n 3, 1) := by decide +kernel
theorem dX16_picks_125 : decode cX16_picks 125 = .ok (.getfield 239, 3) := by decide +kernel
theorem dX16_picks_128 : decode cX16_picks 128 = .ok (.iload 5, 2) := by decide +kernel
theorem dX16_picks_130 : decode cX16_picks 130 = .ok (.invokevirtual 303, 3) := by decide +kernel
theorem dX16_picks_133 : decode cX16_picks 133 = .ok (.istore 7, 2) := by decide +kernel
theorem dX16_picks_135 : decode cX16_picks 135 = .ok (.iload 7, 2) := by decide +kernel
theorem dX16_picks_137 : decode cX16_picks 137 = .ok (.iconst (-1), 1) := by decide +kernel
theorem dX16_picks_138 : decode cX16_picks 138 = .ok (.if_icmp .eq 23, 3) := by decide +kernel
theorem dX16_picks_141 : decode cX16_picks 141 = .ok (.aload_n 0, 1) := by decide +kernel
theorem dX16_picks_142 : decode cX16_picks 142 = .ok (.aload_n 0, 1) := by decide +kernel
theorem dX16_picks_143 : decode cX16_picks 143 = .ok (.getfield 188, 3) := by decide +kernel
theorem dX16_picks_146 : decode cX16_picks 146 = .ok (.aload_n 0, 1) := by decide +kernel
theorem dX16_picks_147 : decode cX16_picks 147 = .ok (.getfield 143, 3) := by decide +kernel
theorem dX16_picks_150 : decode cX16_picks 150 = .ok (.iload_n 1, 1) := by decide +kernel
theorem dX16_picks_151 : decode cX16_picks 151 = .ok (.iaload, 1) := by decide +kernel
theorem dX16_picks_152 : decode cX16_picks 152 = .ok (.aaload, 1) := by decide +kernel
theorem dX16_picks_153 : decode cX16_picks 153 = .ok (.iload 7, 2) := by decide +kernel
theorem dX16_picks_155 : decode cX16_picks 155 = .ok (.invokevirtual 307, 3) := by decide +kernel
theorem dX16_picks_158 : decode cX16_picks 158 = .ok (.ifCond .ne 7, 3) := by decide +kernel
theorem dX16_picks_161 : decode cX16_picks 161 = .ok (.iconst 1, 1) := by decide +kernel
theorem dX16_picks_162 : decode cX16_picks 162 = .ok (.goto 4, 3) := by decide +kernel
theorem dX16_picks_165 : decode cX16_picks 165 = .ok (.iconst 0, 1) := by decide +kernel
theorem dX16_picks_166 : decode cX16_picks 166 = .ok (.istore 6, 2) := by decide +kernel
theorem dX16_picks_168 : decode cX16_picks 168 = .ok (.iload 6, 2) := by decide +kernel
theorem dX16_picks_170 : decode cX16_picks 170 = .ok (.ifCond .eq 11, 3) := by decide +kernel
theorem dX16_picks_173 : decode cX16_picks 173 = .ok (.aload_n 0, 1) := by decide +kernel
theorem dX16_picks_174 : decode cX16_picks 174 = .ok (.aload_n 3, 1) := by decide +kernel
theorem dX16_picks_175 : decode cX16_picks 175 = .ok (.iload 4, 2) := by decide +kernel
theorem dX16_picks_177 : decode cX16_picks 177 = .ok (.aload_n 2, 1) := by decide +kernel
theorem dX16_picks_178 : decode cX16_picks 178 = .ok (.invokevirtual 310, 3) := by decide +kernel
theorem dX16_picks_181 : decode cX16_picks 181 = .ok (.iinc 4 1, 3) := by decide +kernel
theorem dX16_picks_184 : decode cX16_picks 184 = .ok (.goto (-181), 3) := by decide +kernel
theorem dX16_picks_187 : decode cX16_picks 187 = .ok (.return_, 1) := by decide +kernel
theorem dX16_cuts_0 : decode cX16_cuts 0 = .ok (.iconst 0, 1) := by decide +kernel
theorem dX16_cuts_1 : decode cX16_cuts 1 = .ok (.istore 4, 2) := by decide +kernel
theorem dX16_cuts_3 : decode cX16_cuts 3 = .ok (.iload 4, 2) := by decide +kernel
theorem dX16_cuts_5 : decode cX16_cuts 5 = .ok (.aload_n 3, 1) := by decide +kernel
theorem dX16_cuts_6 : decode cX16_cuts 6 = .ok (.getfield 35, 3) := by decide +kernel
theorem dX16_cuts_9 : decode cX16_cuts 9 = .ok (.if_icmp .ge 160, 3) := by decide +kernel
theorem dX16_cuts_12 : decode cX16_cuts 12 = .ok (.iconst 0, 1) := by decide +kernel
theorem dX16_cuts_13 : decode cX16_cuts 13 = .ok (.istore 5, 2) := by decide +kernel
theorem dX16_cuts_15 : decode cX16_cuts 15 = .ok (.iload 5, 2) := by decide +kernel
theorem dX16_cuts_17 : decode cX16_cuts 17 = .ok (.aload_n 2, 1) := by decide +kernel
theorem dX16_cuts_18 : decode cX16_cuts 18 = .ok (.getfield 236, 3) := by decide +kernel
theorem dX16_cuts_21 : decode cX16_cuts 21 = .ok (.if_icmp .ge 77, 3) := by decide +kernel
theorem dX16_cuts_24 : decode cX16_cuts 24 = .ok (.aload_n 0, 1) := by decide +kernel
theorem dX16_cuts_25 : decode cX16_cuts 25 = .ok (.getfield 200, 3) := by decide +kernel
theorem dX16_cuts_28 : decode cX16_cuts 28 = .ok (.iload 5, 2) := by decide +kernel
theorem dX16_cuts_30 : decode cX16_cuts 30 = .ok (.aload_n 3, 1) := by decide +kernel
theorem dX16_cuts_31 : decode cX16_cuts 31 = .ok (.getfield 239, 3) := by decide +kernel
theorem dX16_cuts_34 : decode cX16_cuts 34 = .ok (.bipush 6, 2) := by decide +kernel
theorem dX16_cuts_36 : decode cX16_cuts 36 = .ok (.iload 4, 2) := by decide +kernel
theorem dX16_cuts_38 : decode cX16_cuts 38 = .ok (.imul, 1) := by decide +kernel
theorem dX16_cuts_39 : decode cX16_cuts 39 = .ok (.iload 5, 2) := by decide +kernel
theorem dX16_cuts_41 : decode cX16_cuts 41 = .ok (.ifCond .ne 12, 3) := by decide +kernel
theorem dX16_cuts_44 : decode cX16_cuts 44 = .ok (.aload_n 0, 1) := by decide +kernel
theorem dX16_cuts_45 : decode cX16_cuts 45 = .ok (.getfield 149, 3) := by decide +kernel
theorem dX16_cuts_48 : decode cX16_cuts 48 = .ok (.iload_n 1, 1) := by decide +kernel
theorem dX16_cuts_49 : decode cX16_cuts 49 = .ok (.iaload, 1) := by decide +kernel
theorem dX16_cuts_50 : decode cX16_cuts 50 = .ok (.goto 39, 3) := by decide +kernel
theorem dX16_cuts_53 : decode cX16_cuts 53 = .ok (.iload 5, 2) := by decide +kernel
theorem dX16_cuts_55 : decode cX16_cuts 55 = .ok (.iconst 1, 1) := by decide +kernel
theorem dX16_cuts_56 : decode cX16_cuts 56 = .ok (.if_icmp .ne 12, 3) := by decide +kernel
theorem dX16_cuts_59 : decode cX16_cuts 59 = .ok (.aload_n 0, 1) := by decide +kernel
theorem dX16_cuts_60 : decode cX16_cuts 60 = .ok (.getfield 152, 3) := by decide +kernel
theorem dX16_cuts_63 : decode cX16_cuts 63 = .ok (.iload_n 1, 1) := by decide +kernel
theorem dX16_cuts_64 : decode cX16_cuts 64 = .ok (.iaload, 1) := by decide +kernel
theorem dX16_cuts_65 : decode cX16_cuts 65 = .ok (.goto 24, 3) := by decide +kernel
theorem dX16_cuts_68 : decode cX16_cuts 68 = .ok (.iload 5, 2) := by decide +kernel
theorem dX16_cuts_70 : decode cX16_cuts 70 = .ok (.iconst 2, 1) := by decide +kernel
theorem dX16_cuts_71 : decode cX16_cuts 71 = .ok (.if_icmp .ne 12, 3) := by decide +kernel
theorem dX16_cuts_74 : decode cX16_cuts 74 = .ok (.aload_n 0, 1) := by decide +kernel
theorem dX16_cuts_75 : decode cX16_cuts 75 = .ok (.getfield 155, 3) := by decide +kernel
theorem dX16_cuts_78 : decode cX16_cuts 78 = .ok (.iload_n 1, 1) := by decide +kernel
theorem dX16_cuts_79 : decode cX16_cuts 79 = .ok (.iaload, 1) := by decide +kernel
theorem dX16_cuts_80 : decode cX16_cuts 80 = .ok (.goto 9, 3) := by decide +kernel
theorem dX16_cuts_83 : decode cX16_cuts 83 = .ok (.aload_n 0, 1) := by decide +kernel
theorem dX16_cuts_84 : decode cX16_cuts 84 = .ok (.getfield 158, 3) := by decide +kernel
theorem dX16_cuts_87 : decode cX16_cuts 87 = .ok (.iload_n 1, 1) := by decide +kernel
theorem dX16_cuts_88 : decode cX16_cuts 88 = .ok (.iaload, 1) := by decide +kernel
theorem dX16_cuts_89 : decode cX16_cuts 89 = .ok (.iadd, 1) := by decide +kernel
theorem dX16_cuts_90 : decode cX16_cuts 90 = .ok (.iaload, 1) := by decide +kernel
theorem dX16_cuts_91 : decode cX16_cuts 91 = .ok (.iastore, 1) := by decide +kernel
theorem dX16_cuts_92 : decode cX16_cuts 92 = .ok (.iinc 5 1, 3) := by decide +kernel
theorem dX16_cuts_95 : decode cX16_cuts 95 = .ok (.goto (-80), 3) := by decide +kernel
theorem dX16_cuts_98 : decode cX16_cuts 98 = .ok (.aload_n 2, 1) := by decide +kernel
theorem dX16_cuts_99 : decode cX16_cuts 99 = .ok (.aload_n 0, 1) := by decide +kernel
theorem dX16_cuts_100 : decode cX16_cuts 100 = .ok (.getfield 200, 3) := by decide +kernel
theorem dX16_cuts_103 : decode cX16_cuts 103 = .ok (.iconst 0, 1) := by decide +kernel
theorem dX16_cuts_104 : decode cX16_cuts 104 = .ok (.invokevirtual 303, 3) := by decide +kernel
theorem dX16_cuts_107 : decode cX16_cuts 107 = .ok (.istore 5, 2) := by decide +kernel
theorem dX16_cuts_109 : decode cX16_cuts 109 = .ok (.iload 5, 2) := by decide +kernel
theorem dX16_cuts_111 : decode cX16_cuts 111 = .ok (.iconst (-1), 1) := by decide +kernel
theorem dX16_cuts_112 : decode cX16_cuts 112 = .ok (.if_icmp .ne 15, 3) := by decide +kernel
theorem dX16_cuts_115 : decode cX16_cuts 115 = .ok (.aload_n 0, 1) := by decide +kernel
theorem dX16_cuts_116 : decode cX16_cuts 116 = .ok (.aload_n 2, 1) := by decide +kernel
theorem dX16_cuts_117 : decode cX16_cuts 117 = .ok (.aload_n 0, 1) := by decide +kernel
theorem dX16_cuts_118 : decode cX16_cuts 118 = .ok (.getfield 200, 3) := by decide +kernel
theorem dX16_cuts_121 : decode cX16_cuts 121 = .ok (.iconst 0, 1) := by decide +kernel
theorem dX16_cuts_122 : decode cX16_cuts 122 = .ok (.invokevirtual 262, 3) := by decide +kernel
theorem dX16_cuts_125 : decode cX16_cuts 125 = .ok (.istore 5, 2) := by decide +kernel
theorem dX16_cuts_127 : decode cX16_cuts 127 = .ok (.aload_n 0, 1) := by decide +kernel
theorem dX16_cuts_128 : decode cX16_cuts 128 = .ok (.getfield 203, 3) := by decide +kernel
theorem dX16_cuts_131 : decode cX16_cuts 131 = .ok (.iload 4, 2) := by decide +kernel
theorem dX16_cuts_133 : decode cX16_cuts 133 = .ok (.iload 5, 2) := by decide +kernel
theorem dX16_cuts_135 : decode cX16_cuts 135 = .ok (.iastore, 1) := by decide +kernel
theorem dX16_cuts_136 : decode cX16_cuts 136 = .ok (.aload_n 2, 1) := by decide +kernel
theorem dX16_cuts_137 : decode cX16_cuts 137 = .ok (.iload 5, 2) := by decide +kernel
theorem dX16_cuts_139 : decode cX16_cuts 139 = .ok (.aload_n 3, 1) := by decide +kernel
theorem dX16_cuts_140 : decode cX16_cuts 140 = .ok (.getfield 242, 3) := by decide +kernel
theorem dX16_cuts_143 : decode cX16_cuts 143 = .ok (.iload 4, 2) := by decide +kernel
theorem dX16_cuts_145 : decode cX16_cuts 145 = .ok (.laload, 1) := by decide +kernel
theorem dX16_cuts_146 : decode cX16_cuts 146 = .ok (.aload_n 3, 1) := by decide +kernel
theorem dX16_cuts_147 : decode cX16_cuts 147 = .ok (.getfield 245, 3) := by decide +kernel
theorem dX16_cuts_150 : decode cX16_cuts 150 = .ok (.iload 4, 2) := by decide +kernel
theorem dX16_cuts_152 : decode cX16_cuts 152 = .ok (.iaload, 1) := by decide +kernel
theorem dX16_cuts_153 : decode cX16_cuts 153 = .ok (.aload_n 3, 1) := by decide +kernel
theorem dX16_cuts_154 : decode cX16_cuts 154 = .ok (.getfield 249, 3) := by decide +kernel
theorem dX16_cuts_157 : decode cX16_cuts 157 = .ok (.iload 4, 2) := by decide +kernel
theorem dX16_cuts_159 : decode cX16_cuts 159 = .ok (.daload, 1) := by decide +kernel
theorem dX16_cuts_160 : decode cX16_cuts 160 = .ok (.invokestatic 274, 3) := by decide +kernel
theorem dX16_cuts_163 : decode cX16_cuts 163 = .ok (.iinc 4 1, 3) := by decide +kernel
theorem dX16_cuts_166 : decode cX16_cuts 166 = .ok (.goto (-163), 3) := by decide +kernel
theorem dX16_cuts_169 : decode cX16_cuts 169 = .ok (.iconst 0, 1) := by decide +kernel
theorem dX16_cuts_170 : decode cX16_cuts 170 = .ok (.istore 4, 2) := by decide +kernel
theorem dX16_cuts_172 : decode cX16_cuts 172 = .ok (.iload 4, 2) := by decide +kernel
theorem dX16_cuts_174 : decode cX16_cuts 174 = .ok (.aload_n 2, 1) := by decide +kernel
theorem dX16_cuts_175 : decode cX16_cuts 175 = .ok (.getfield 35, 3) := by decide +kernel
theorem dX16_cuts_178 : decode cX16_cuts 178 = .ok (.if_icmp .ge 60, 3) := by decide +kernel
theorem dX16_cuts_181 : decode cX16_cuts 181 = .ok (.aload_n 0, 1) := by decide +kernel
theorem dX16_cuts_182 : decode cX16_cuts 182 = .ok (.iconst 0, 1) := by decide +kernel
theorem dX16_cuts_183 : decode cX16_cuts 183 = .ok (.putfield 223, 3) := by decide +kernel
theorem dX16_cuts_186 : decode cX16_cuts 186 = .ok (.iconst 0, 1) := by decide +kernel
theorem dX16_cuts_187 : decode cX16_cuts 187 = .ok (.istore 5, 2) := by decide +kernel
theorem dX16_cuts_189 : decode cX16_cuts 189 = .ok (.iload 5, 2) := by decide +kernel
theorem dX16_cuts_191 : decode cX16_cuts 191 = .ok (.aload_n 3, 1) := by decide +kernel
theorem dX16_cuts_192 : decode cX16_cuts 192 = .ok (.getfield 35, 3) := by decide +kernel
theorem dX16_cuts_195 : decode cX16_cuts 195 = .ok (.if_icmp .ge 28, 3) := by decide +kernel
theorem dX16_cuts_198 : decode cX16_cuts 198 = .ok (.aload_n 0, 1) := by decide +kernel
theorem dX16_cuts_199 : decode cX16_cuts 199 = .ok (.getfield 203, 3) := by decide +kernel
theorem dX16_cuts_202 : decode cX16_cuts 202 = .ok (.iload 5, 2) := by decide +kernel
theorem dX16_cuts_204 : decode cX16_cuts 204 = .ok (.iaload, 1) := by decide +kernel
theorem dX16_cuts_205 : decode cX16_cuts 205 = .ok (.iload 4, 2) := by decide +kernel
theorem dX16_cuts_207 : decode cX16_cuts 207 = .ok (.if_icmp .ne 10, 3) := by decide +kernel
theorem dX16_cuts_210 : decode cX16_cuts 210 = .ok (.aload_n 0, 1) := by decide +kernel
theorem dX16_cuts_211 : decode cX16_cuts 211 = .ok (.aload_n 3, 1) := by decide +kernel
theorem dX16_cuts_212 : decode cX16_cuts 212 = .ok (.iload 5, 2) := by decide +kernel
theorem dX16_cuts_214 : decode cX16_cuts 214 = .ok (.invokevirtual 266, 3) := by decide +kernel
theorem dX16_cuts_217 : decode cX16_cuts 217 = .ok (.iinc 5 1, 3) := by decide +kernel
theorem dX16_cuts_220 : decode cX16_cuts 220 = .ok (.goto (-31), 3) := by decide +kernel
theorem dX16_cuts_223 : decode cX16_cuts 223 = .ok (.aload_n 0, 1) := by decide +kernel
theorem dX16_cuts_224 : decode cX16_cuts 224 = .ok (.aload_n 2, 1) := by decide +kernel
theorem dX16_cuts_225 : decode cX16_cuts 225 = .ok (.iload 4, 2) := by decide +kernel
theorem dX16_cuts_227 : decode cX16_cuts 227 = .ok (.invokevirtual 270, 3) := by decide +kernel
theorem dX16_cuts_230 : decode cX16_cuts 230 = .ok (.istore 5, 2) := by decide +kernel
theorem dX16_cuts_232 : decode cX16_cuts 232 = .ok (.iinc 4 1, 3) := by decide +kernel
theorem dX16_cuts_235 : decode cX16_cuts 235 = .ok (.goto (-63), 3) := by decide +kernel
theorem dX16_cuts_238 : decode cX16_cuts 238 = .ok (.return_, 1) := by decide +kernel
theorem dX16_pairs_0 : decode cX16_pairs 0 = .ok (.iconst 0, 1) := by decide +kernel
theorem dX16_pairs_1 : decode cX16_pairs 1 = .ok (.istore 5, 2) := by decide +kernel
theorem dX16_pairs_3 : decode cX16_pairs 3 = .ok (.iload 5, 2) := by decide +kernel
theorem dX16_pairs_5 : decode cX16_pairs 5 = .ok (.aload_n 3, 1) := by decide +kernel
theorem dX16_pairs_6 : decode cX16_pairs 6 = .ok (.getfield 35, 3) := by decide +kernel
theorem dX16_pairs_9 : decode cX16_pairs 9 = .ok (.if_icmp .ge 233, 3) := by decide +kernel
theorem dX16_pairs_12 : decode cX16_pairs 12 = .ok (.iconst 0, 1) := by decide +kernel
theorem dX16_pairs_13 : decode cX16_pairs 13 = .ok (.istore 6, 2) := by decide +kernel
theorem dX16_pairs_15 : decode cX16_pairs 15 = .ok (.iload 6, 2) := by decide +kernel
theorem dX16_pairs_17 : decode cX16_pairs 17 = .ok (.aload 4, 2) := by decide +kernel
theorem dX16_pairs_19 : decode cX16_pairs 19 = .ok (.getfield 35, 3) := by decide +kernel
theorem dX16_pairs_22 : decode cX16_pairs 22 = .ok (.if_icmp .ge 214, 3) := by decide +kernel
theorem dX16_pairs_25 : decode cX16_pairs 25 = .ok (.aload_n 3, 1) := by decide +kernel
theorem dX16_pairs_26 : decode cX16_pairs 26 = .ok (.getfield 239, 3) := by decide +kernel
theorem dX16_pairs_29 : decode cX16_pairs 29 = .ok (.bipush 6, 2) := by decide +kernel
theorem dX16_pairs_31 : decode cX16_pairs 31 = .ok (.iload 5, 2) := by decide +kernel
theorem dX16_pairs_33 : decode cX16_pairs 33 = .ok (.imul, 1) := by decide +kernel
theorem dX16_pairs_34 : decode cX16_pairs 34 = .ok (.aload_n 0, 1) := by decide +kernel
theorem dX16_pairs_35 : decode cX16_pairs 35 = .ok (.getfield 149, 3) := by decide +kernel
theorem dX16_pairs_38 : decode cX16_pairs 38 = .ok (.iload_n 1, 1) := by decide +kernel
theorem dX16_pairs_39 : decode cX16_pairs 39 = .ok (.iaload, 1) := by decide +kernel
theorem dX16_pairs_40 : decode cX16_pairs 40 = .ok (.iadd, 1) := by decide +kernel
theorem dX16_pairs_41 : decode cX16_pairs 41 = .ok (.iaload, 1) := by decide +kernel
theorem dX16_pairs_42 : decode cX16_pairs 42 = .ok (.aload 4, 2) := by decide +kernel
theorem dX16_pairs_44 : decode cX16_pairs 44 = .ok (.getfield 239, 3) := by decide +kernel
theorem dX16_pairs_47 : decode cX16_pairs 47 = .ok (.bipush 6, 2) := by decide +kernel
theorem dX16_pairs_49 : decode cX16_pairs 49 = .ok (.iload 6, 2) := by decide +kernel
theorem dX16_pairs_51 : decode cX16_pairs 51 = .ok (.imul, 1) := by decide +kernel
theorem dX16_pairs_52 : decode cX16_pairs 52 = .ok (.aload_n 0, 1) := by decide +kernel
theorem dX16_pairs_53 : decode cX16_pairs 53 = .ok (.getfield 152, 3) := by decide +kernel
theorem dX16_pairs_56 : decode cX16_pairs 56 = .ok (.iload_n 1, 1) := by decide +kernel
theorem dX16_pairs_57 : decode cX16_pairs 57 = .ok (.iaload, 1) := by decide +kernel
theorem dX16_pairs_58 : decode cX16_pairs 58 = .ok (.iadd, 1) := by decide +kernel
theorem dX16_pairs_59 : decode cX16_pairs 59 = .ok (.iaload, 1) := by decide +kernel
theorem dX16_pairs_60 : decode cX16_pairs 60 = .ok (.if_icmp .eq 6, 3) := by decide +kernel
theorem dX16_pairs_63 : decode cX16_pairs 63 = .ok (.goto 167, 3) := by decide +kernel
theorem dX16_pairs_66 : decode cX16_pairs 66 = .ok (.iconst 0, 1) := by decide +kernel
theorem dX16_pairs_67 : decode cX16_pairs 67 = .ok (.istore 7, 2) := by decide +kernel
theorem dX16_pairs_69 : decode cX16_pairs 69 = .ok (.iload 7, 2) := by decide +kernel
theorem dX16_pairs_71 : decode cX16_pairs 71 = .ok (.aload_n 2, 1) := by decide +kernel
theorem dX16_pairs_72 : decode cX16_pairs 72 = .ok (.getfield 236, 3) := by decide +kernel
theorem dX16_pairs_75 : decode cX16_pairs 75 = .ok (.if_icmp .ge 60, 3) := by decide +kernel
theorem dX16_pairs_78 : decode cX16_pairs 78 = .ok (.aload_n 0, 1) := by decide +kernel
theorem dX16_pairs_79 : decode cX16_pairs 79 = .ok (.getfield 200, 3) := by decide +kernel
theorem dX16_pairs_82 : decode cX16_pairs 82 = .ok (.iload 7, 2) := by decide +kernel
theorem dX16_pairs_84 : decode cX16_pairs 84 = .ok (.iload 7, 2) := by decide +kernel
theorem dX16_pairs_86 : decode cX16_pairs 86 = .ok (.aload_n 3, 1) := by decide +kernel
theorem dX16_pairs_87 : decode cX16_pairs 87 = .ok (.getfield 236, 3) := by decide +kernel
theorem dX16_pairs_90 : decode cX16_pairs 90 = .ok (.if_icmp .ge 19, 3) := by decide +kernel
theorem dX16_pairs_93 : decode cX16_pairs 93 = .ok (.aload_n 3, 1) := by decide +kernel
theorem dX16_pairs_94 : decode cX16_pairs 94 = .ok (.getfield 239, 3) := by decide +kernel
theorem dX16_pairs_97 : decode cX16_pairs 97 = .ok (.bipush 6, 2) := by decide +kernel
theorem dX16_pairs_99 : decode cX16_pairs 99 = .ok (.iload 5, 2) := by decide +kernel
theorem dX16_pairs_101 : decode cX16_pairs 101 = .ok (.imul, 1) := by decide +kernel
theorem dX16_pairs_102 : decode cX16_pairs 102 = .ok (.iload 7, 2) := by decide +kernel
theorem dX16_pairs_104 : decode cX16_pairs 104 = .ok (.iadd, 1) := by decide +kernel
theorem dX16_pairs_105 : decode cX16_pairs 105 = .ok (.iaload, 1) := by decide +kernel
theorem dX16_pairs_106 : decode cX16_pairs 106 = .ok (.goto 22, 3) := by decide +kernel
theorem dX16_pairs_109 : decode cX16_pairs 109 = .ok (.aload 4, 2) := by decide +kernel
theorem dX16_pairs_111 : decode cX16_pairs 111 = .ok (.getfield 239, 3) := by decide +kernel
theorem dX16_pairs_114 : decode cX16_pairs 114 = .ok (.bipush 6, 2) := by decide +kernel
theorem dX16_pairs_116 : decode cX16_pairs 116 = .ok (.iload 6, 2) := by decide +kernel
theorem dX16_pairs_118 : decode cX16_pairs 118 = .ok (.imul, 1) := by decide +kernel
theorem dX16_pairs_119 : decode cX16_pairs 119 = .ok (.iload 7, 2) := by decide +kernel
theorem dX16_pairs_121 : decode cX16_pairs 121 = .ok (.iadd, 1) := by decide +kernel
theorem dX16_pairs_122 : decode cX16_pairs 122 = .ok (.aload_n 3, 1) := by decide +kernel
theorem dX16_pairs_123 : decode cX16_pairs 123 = .ok (.getfield 236, 3) := by decide +kernel
theorem dX16_pairs_126 : decode cX16_pairs 126 = .ok (.isub, 1) := by decide +kernel
theorem dX16_pairs_127 : decode cX16_pairs 127 = .ok (.iaload, 1) := by decide +kernel
theorem dX16_pairs_128 : decode cX16_pairs 128 = .ok (.iastore, 1) := by decide +kernel
theorem dX16_pairs_129 : decode cX16_pairs 129 = .ok (.iinc 7 1, 3) := by decide +kernel
theorem dX16_pairs_132 : decode cX16_pairs 132 = .ok (.goto (-63), 3) := by decide +kernel
theorem dX16_pairs_135 : decode cX16_pairs 135 = .ok (.aload_n 0, 1) := by decide +kernel
theorem dX16_pairs_136 : decode cX16_pairs 136 = .ok (.aload_n 2, 1) := by decide +kernel
theorem dX16_pairs_137 : decode cX16_pairs 137 = .ok (.aload_n 0, 1) := by decide +kernel
theorem dX16_pairs_138 : decode cX16_pairs 138 = .ok (.getfield 200, 3) := by decide +kernel
theorem dX16_pairs_141 : decode cX16_pairs 141 = .ok (.iconst 0, 1) := by decide +kernel
theorem dX16_pairs_142 : decode cX16_pairs 142 = .ok (.invokevirtual 262, 3) := by decide +kernel
theorem dX16_pairs_145 : decode cX16_pairs 145 = .ok (.istore 7, 2) := by decide +kernel
theorem dX16_pairs_147 : decode cX16_pairs 147 = .ok (.aload_n 0, 1) := by decide +kernel
theorem dX16_pairs_148 : decode cX16_pairs 148 = .ok (.iconst 0, 1) := by decide +kernel
theorem dX16_pairs_149 : decode cX16_pairs 149 = .ok (.putfield 223, 3) := by decide +kernel
theorem dX16_pairs_152 : decode cX16_pairs 152 = .ok (.aload_n 0, 1) := by decide +kernel
theorem dX16_pairs_153 : decode cX16_pairs 153 = .ok (.aload_n 3, 1) := by decide +kernel
theorem dX16_pairs_154 : decode cX16_pairs 154 = .ok (.iload 5, 2) := by decide +kernel
theorem dX16_pairs_156 : decode cX16_pairs 156 = .ok (.aload 4, 2) := by decide +kernel
theorem dX16_pairs_158 : decode cX16_pairs 158 = .ok (.iload 6, 2) := by decide +kernel
theorem dX16_pairs_160 : decode cX16_pairs 160 = .ok (.invokevirtual 314, 3) := by decide +kernel
theorem dX16_pairs_163 : decode cX16_pairs 163 = .ok (.aload_n 0, 1) := by decide +kernel
theorem dX16_pairs_164 : decode cX16_pairs 164 = .ok (.aload_n 2, 1) := by decide +kernel
theorem dX16_pairs_165 : decode cX16_pairs 165 = .ok (.iload 7, 2) := by decide +kernel
theorem dX16_pairs_167 : decode cX16_pairs 167 = .ok (.invokevirtual 270, 3) := by decide +kernel
theorem dX16_pairs_170 : decode cX16_pairs 170 = .ok (.istore 8, 2) := by decide +kernel
theorem dX16_pairs_172 : decode cX16_pairs 172 = .ok (.aload_n 2, 1) := by decide +kernel
theorem dX16_pairs_173 : decode cX16_pairs 173 = .ok (.iload 7, 2) := by decide +kernel
theorem dX16_pairs_175 : decode cX16_pairs 175 = .ok (.aload_n 3, 1) := by decide +kernel
theorem dX16_pairs_176 : decode cX16_pairs 176 = .ok (.getfield 242, 3) := by decide +kernel
theorem dX16_pairs_179 : decode cX16_pairs 179 = .ok (.iload 5, 2) := by decide +kernel
theorem dX16_pairs_181 : decode cX16_pairs 181 = .ok (.laload, 1) := by decide +kernel
theorem dX16_pairs_182 : decode cX16_pairs 182 = .ok (.aload 4, 2) := by decide +kernel
theorem dX16_pairs_184 : decode cX16_pairs 184 = .ok (.getfield 242, 3) := by decide +kernel
theorem dX16_pairs_187 : decode cX16_pairs 187 = .ok (.iload 6, 2) := by decide +kernel
theorem dX16_pairs_189 : decode cX16_pairs 189 = .ok (.laload, 1) := by decide +kernel
theorem dX16_pairs_190 : decode cX16_pairs 190 = .ok (.lmul, 1) := by decide +kernel
theorem dX16_pairs_191 : decode cX16_pairs 191 = .ok (.aload_n 3, 1) := by decide +kernel
theorem dX16_pairs_192 : decode cX16_pairs 192 = .ok (.getfield 245, 3) := by decide +kernel
theorem dX16_pairs_195 : decode cX16_pairs 195 = .ok (.iload 5, 2) := by decide +kernel
theorem dX16_pairs_197 : decode cX16_pairs 197 = .ok (.iaload, 1) := by decide +kernel
theorem dX16_pairs_198 : decode cX16_pairs 198 = .ok (.aload 4, 2) := by decide +kernel
theorem dX16_pairs_200 : decode cX16_pairs 200 = .ok (.getfield 245, 3) := by decide +kernel
theorem dX16_pairs_203 : decode cX16_pairs 203 = .ok (.iload 6, 2) := by decide +kernel
theorem dX16_pairs_205 : decode cX16_pairs 205 = .ok (.iaload, 1) := by decide +kernel
theorem dX16_pairs_206 : decode cX16_pairs 206 = .ok (.invokestatic 318, 3) := by decide +kernel
theorem dX16_pairs_209 : decode cX16_pairs 209 = .ok (.aload_n 3, 1) := by decide +kernel
theorem dX16_pairs_210 : decode cX16_pairs 210 = .ok (.getfield 249, 3) := by decide +kernel
theorem dX16_pairs_213 : decode cX16_pairs 213 = .ok (.iload 5, 2) := by decide +kernel
theorem dX16_pairs_215 : decode cX16_pairs 215 = .ok (.daload, 1) := by decide +kernel
theorem dX16_pairs_216 : decode cX16_pairs 216 = .ok (.aload 4, 2) := by decide +kernel
theorem dX16_pairs_218 : decode cX16_pairs 218 = .ok (.getfield 249, 3) := by decide +kernel
theorem dX16_pairs_221 : decode cX16_pairs 221 = .ok (.iload 6, 2) := by decide +kernel
theorem dX16_pairs_223 : decode cX16_pairs 223 = .ok (.daload, 1) := by decide +kernel
theorem dX16_pairs_224 : decode cX16_pairs 224 = .ok (.invokestatic 321, 3) := by decide +kernel
theorem dX16_pairs_227 : decode cX16_pairs 227 = .ok (.invokestatic 274, 3) := by decide +kernel
theorem dX16_pairs_230 : decode cX16_pairs 230 = .ok (.iinc 6 1, 3) := by decide +kernel
theorem dX16_pairs_233 : decode cX16_pairs 233 = .ok (.goto (-218), 3) := by decide +kernel
theorem dX16_pairs_236 : decode cX16_pairs 236 = .ok (.iinc 5 1, 3) := by decide +kernel
theorem dX16_pairs_239 : decode cX16_pairs 239 = .ok (.goto (-236), 3) := by decide +kernel
theorem dX16_pairs_242 : decode cX16_pairs 242 = .ok (.return_, 1) := by decide +kernel
theorem dX16_eithers_0 : decode cX16_eithers 0 = .ok (.iconst 0, 1) := by decide +kernel
theorem dX16_eithers_1 : decode cX16_eithers 1 = .ok (.istore 4, 2) := by decide +kernel
theorem dX16_eithers_3 : decode cX16_eithers 3 = .ok (.iload 4, 2) := by decide +kernel
theorem dX16_eithers_5 : decode cX16_eithers 5 = .ok (.aload_n 2, 1) := by decide +kernel
theorem dX16_eithers_6 : decode cX16_eithers 6 = .ok (.getfield 35, 3) := by decide +kernel
theorem dX16_eithers_9 : decode cX16_eithers 9 = .ok (.if_icmp .ge 128, 3) := by decide +kernel
theorem dX16_eithers_12 : decode cX16_eithers 12 = .ok (.aload_n 3, 1) := by decide +kernel
theorem dX16_eithers_13 : decode cX16_eithers 13 = .ok (.aload_n 2, 1) := by decide +kernel
theorem dX16_eithers_14 : decode cX16_eithers 14 = .ok (.getfield 239, 3) := by decide +kernel
theorem dX16_eithers_17 : decode cX16_eithers 17 = .ok (.bipush 6, 2) := by decide +kernel
theorem dX16_eithers_19 : decode cX16_eithers 19 = .ok (.iload 4, 2) := by decide +kernel
theorem dX16_eithers_21 : decode cX16_eithers 21 = .ok (.imul, 1) := by decide +kernel
theorem dX16_eithers_22 : decode cX16_eithers 22 = .ok (.invokevirtual 303, 3) := by decide +kernel
theorem dX16_eithers_25 : decode cX16_eithers 25 = .ok (.istore 5, 2) := by decide +kernel
theorem dX16_eithers_27 : decode cX16_eithers 27 = .ok (.aload_n 0, 1) := by decide +kernel
theorem dX16_eithers_28 : decode cX16_eithers 28 = .ok (.aload_n 1, 1) := by decide +kernel
theorem dX16_eithers_29 : decode cX16_eithers 29 = .ok (.aload_n 2, 1) := by decide +kernel
theorem dX16_eithers_30 : decode cX16_eithers 30 = .ok (.getfield 239, 3) := by decide +kernel
theorem dX16_eithers_33 : decode cX16_eithers 33 = .ok (.bipush 6, 2) := by decide +kernel
theorem dX16_eithers_35 : decode cX16_eithers 35 = .ok (.iload 4, 2) := by decide +kernel
theorem dX16_eithers_37 : decode cX16_eithers 37 = .ok (.imul, 1) := by decide +kernel
theorem dX16_eithers_38 : decode cX16_eithers 38 = .ok (.invokevirtual 262, 3) := by decide +kernel
theorem dX16_eithers_41 : decode cX16_eithers 41 = .ok (.istore 6, 2) := by decide +kernel
theorem dX16_eithers_43 : decode cX16_eithers 43 = .ok (.aload_n 0, 1) := by decide +kernel
theorem dX16_eithers_44 : decode cX16_eithers 44 = .ok (.iconst 0, 1) := by decide +kernel
theorem dX16_eithers_45 : decode cX16_eithers 45 = .ok (.putfield 223, 3) := by decide +kernel
theorem dX16_eithers_48 : decode cX16_eithers 48 = .ok (.aload_n 0, 1) := by decide +kernel
theorem dX16_eithers_49 : decode cX16_eithers 49 = .ok (.aload_n 2, 1) := by decide +kernel
theorem dX16_eithers_50 : decode cX16_eithers 50 = .ok (.iload 4, 2) := by decide +kernel
theorem dX16_eithers_52 : decode cX16_eithers 52 = .ok (.invokevirtual 266, 3) := by decide +kernel
theorem dX16_eithers_55 : decode cX16_eithers 55 = .ok (.aload_n 1, 1) := by decide +kernel
theorem dX16_eithers_56 : decode cX16_eithers 56 = .ok (.iload 6, 2) := by decide +kernel
theorem dX16_eithers_58 : decode cX16_eithers 58 = .ok (.aload_n 2, 1) := by decide +kernel
theorem dX16_eithers_59 : decode cX16_eithers 59 = .ok (.getfield 242, 3) := by decide +kernel
theorem dX16_eithers_62 : decode cX16_eithers 62 = .ok (.iload 4, 2) := by decide +kernel
theorem dX16_eithers_64 : decode cX16_eithers 64 = .ok (.laload, 1) := by decide +kernel
theorem dX16_eithers_65 : decode cX16_eithers 65 = .ok (.aload_n 2, 1) := by decide +kernel
theorem dX16_eithers_66 : decode cX16_eithers 66 = .ok (.getfield 245, 3) := by decide +kernel
theorem dX16_eithers_69 : decode cX16_eithers 69 = .ok (.iload 4, 2) := by decide +kernel
theorem dX16_eithers_71 : decode cX16_eithers 71 = .ok (.iaload, 1) := by decide +kernel
theorem dX16_eithers_72 : decode cX16_eithers 72 = .ok (.aload_n 2, 1) := by decide +kernel
theorem dX16_eithers_73 : decode cX16_eithers 73 = .ok (.getfield 249, 3) := by decide +kernel
theorem dX16_eithers_76 : decode cX16_eithers 76 = .ok (.iload 4, 2) := by decide +kernel
theorem dX16_eithers_78 : decode cX16_eithers 78 = .ok (.daload, 1) := by decide +kernel
theorem dX16_eithers_79 : decode cX16_eithers 79 = .ok (.invokestatic 274, 3) := by decide +kernel
theorem dX16_eithers_82 : decode cX16_eithers 82 = .ok (.iload 5, 2) := by decide +kernel
theorem dX16_eithers_84 : decode cX16_eithers 84 = .ok (.iconst (-1), 1) := by decide +kernel
theorem dX16_eithers_85 : decode cX16_eithers 85 = .ok (.if_icmp .eq 37, 3) := by decide +kernel
theorem dX16_eithers_88 : decode cX16_eithers 88 = .ok (.aload_n 0, 1) := by decide +kernel
theorem dX16_eithers_89 : decode cX16_eithers 89 = .ok (.aload_n 3, 1) := by decide +kernel
theorem dX16_eithers_90 : decode cX16_eithers 90 = .ok (.iload 5, 2) := by decide +kernel
theorem dX16_eithers_92 : decode cX16_eithers 92 = .ok (.invokevirtual 266, 3) := by decide +kernel
theorem dX16_eithers_95 : decode cX16_eithers 95 = .ok (.aload_n 1, 1) := by decide +kernel
theorem dX16_eithers_96 : decode cX16_eithers 96 = .ok (.iload 6, 2) := by decide +kernel
theorem dX16_eithers_98 : decode cX16_eithers 98 = .ok (.aload_n 3, 1) := by decide +kernel
theorem dX16_eithers_99 : decode cX16_eithers 99 = .ok (.getfield 242, 3) := by decide +kernel
theorem dX16_eithers_102 : decode cX16_eithers 102 = .ok (.iload 5, 2) := by decide +kernel
theorem dX16_eithers_104 : decode cX16_eithers 104 = .ok (.laload, 1) := by decide +kernel
theorem dX16_eithers_105 : decode cX16_eithers 105 = .ok (.aload_n 3, 1) := by decide +kernel
theorem dX16_eithers_106 : decode cX16_eithers 106 = .ok (.getfield 245, 3) := by decide +kernel
theorem dX16_eithers_109 : decode cX16_eithers 109 = .ok (.iload 5, 2) := by decide +kernel
theorem dX16_eithers_111 : decode cX16_eithers 111 = .ok (.iaload, 1) := by decide +kernel
theorem dX16_eithers_112 : decode cX16_eithers 112 = .ok (.aload_n 3, 1) := by decide +kernel
theorem dX16_eithers_113 : decode cX16_eithers 113 = .ok (.getfield 249, 3) := by decide +kernel
theorem dX16_eithers_116 : decode cX16_eithers 116 = .ok (.iload 5, 2) := by decide +kernel
theorem dX16_eithers_118 : decode cX16_eithers 118 = .ok (.daload, 1) := by decide +kernel
theorem dX16_eithers_119 : decode cX16_eithers 119 = .ok (.invokestatic 274, 3) := by decide +kernel
theorem dX16_eithers_122 : decode cX16_eithers 122 = .ok (.aload_n 0, 1) := by decide +kernel
theorem dX16_eithers_123 : decode cX16_eithers 123 = .ok (.aload_n 1, 1) := by decide +kernel
theorem dX16_eithers_124 : decode cX16_eithers 124 = .ok (.iload 6, 2) := by decide +kernel
theorem dX16_eithers_126 : decode cX16_eithers 126 = .ok (.invokevirtual 270, 3) := by decide +kernel
theorem dX16_eithers_129 : decode cX16_eithers 129 = .ok (.istore 7, 2) := by decide +kernel
theorem dX16_eithers_131 : decode cX16_eithers 131 = .ok (.iinc 4 1, 3) := by decide +kernel
theorem dX16_eithers_134 : decode cX16_eithers 134 = .ok (.goto (-131), 3) := by decide +kernel
theorem dX16_eithers_137 : decode cX16_eithers 137 = .ok (.iconst 0, 1) := by decide +kernel
theorem dX16_eithers_138 : decode cX16_eithers 138 = .ok (.istore 4, 2) := by decide +kernel
theorem dX16_eithers_140 : decode cX16_eithers 140 = .ok (.iload 4, 2) := by decide +kernel
theorem dX16_eithers_142 : decode cX16_eithers 142 = .ok (.aload_n 3, 1) := by decide +kernel
theorem dX16_eithers_143 : decode cX16_eithers 143 = .ok (.getfield 35, 3) := by decide +kernel
theorem dX16_eithers_146 : decode cX16_eithers 146 = .ok (.if_icmp .ge 34, 3) := by decide +kernel
theorem dX16_eithers_149 : decode cX16_eithers 149 = .ok (.aload_n 2, 1) := by decide +kernel
theorem dX16_eithers_150 : decode cX16_eithers 150 = .ok (.aload_n 3, 1) := by decide +kernel
theorem dX16_eithers_151 : decode cX16_eithers 151 = .ok (.getfield 239, 3) := by decide +kernel
theorem dX16_eithers_154 : decode cX16_eithers 154 = .ok (.bipush 6, 2) := by decide +kernel
theorem dX16_eithers_156 : decode cX16_eithers 156 = .ok (.iload 4, 2) := by decide +kernel
theorem dX16_eithers_158 : decode cX16_eithers 158 = .ok (.imul, 1) := by decide +kernel
theorem dX16_eithers_159 : decode cX16_eithers 159 = .ok (.invokevirtual 303, 3) := by decide +kernel
theorem dX16_eithers_162 : decode cX16_eithers 162 = .ok (.iconst (-1), 1) := by decide +kernel
theorem dX16_eithers_163 : decode cX16_eithers 163 = .ok (.if_icmp .ne 11, 3) := by decide +kernel
theorem dX16_eithers_166 : decode cX16_eithers 166 = .ok (.aload_n 0, 1) := by decide +kernel
theorem dX16_eithers_167 : decode cX16_eithers 167 = .ok (.aload_n 3, 1) := by decide +kernel
theorem dX16_eithers_168 : decode cX16_eithers 168 = .ok (.iload 4, 2) := by decide +kernel
theorem dX16_eithers_170 : decode cX16_eithers 170 = .ok (.aload_n 1, 1) := by decide +kernel
theorem dX16_eithers_171 : decode cX16_eithers 171 = .ok (.invokevirtual 310, 3) := by decide +kernel
theorem dX16_eithers_174 : decode cX16_eithers 174 = .ok (.iinc 4 1, 3) := by decide +kernel
theorem dX16_eithers_177 : decode cX16_eithers 177 = .ok (.goto (-37), 3) := by decide +kernel
theorem dX16_eithers_180 : decode cX16_eithers 180 = .ok (.return_, 1) := by decide +kernel
theorem dX16_becomes_0 : decode cX16_becomes 0 = .ok (.aload_n 0, 1) := by decide +kernel
theorem dX16_becomes_1 : decode cX16_becomes 1 = .ok (.aload_n 1, 1) := by decide +kernel
theorem dX16_becomes_2 : decode cX16_becomes 2 = .ok (.getfield 35, 3) := by decide +kernel
theorem dX16_becomes_5 : decode cX16_becomes 5 = .ok (.putfield 35, 3) := by decide +kernel
theorem dX16_becomes_8 : decode cX16_becomes 8 = .ok (.aload_n 0, 1) := by decide +kernel
theorem dX16_becomes_9 : decode cX16_becomes 9 = .ok (.aload_n 1, 1) := by decide +kernel
theorem dX16_becomes_10 : decode cX16_becomes 10 = .ok (.getfield 236, 3) := by decide +kernel
theorem dX16_becomes_13 : decode cX16_becomes 13 = .ok (.putfield 236, 3) := by decide +kernel
theorem dX16_becomes_16 : decode cX16_becomes 16 = .ok (.iconst 0, 1) := by decide +kernel
theorem dX16_becomes_17 : decode cX16_becomes 17 = .ok (.istore_n 2, 1) := by decide +kernel
theorem dX16_becomes_18 : decode cX16_becomes 18 = .ok (.iload_n 2, 1) := by decide +kernel
theorem dX16_becomes_19 : decode cX16_becomes 19 = .ok (.sipush 192, 3) := by decide +kernel
theorem dX16_becomes_22 : decode cX16_becomes 22 = .ok (.if_icmp .ge 21, 3) := by decide +kernel
theorem dX16_becomes_25 : decode cX16_becomes 25 = .ok (.aload_n 0, 1) := by decide +kernel
theorem dX16_becomes_26 : decode cX16_becomes 26 = .ok (.getfield 239, 3) := by decide +kernel
theorem dX16_becomes_29 : decode cX16_becomes 29 = .ok (.iload_n 2, 1) := by decide +kernel
theorem dX16_becomes_30 : decode cX16_becomes 30 = .ok (.aload_n 1, 1) := by decide +kernel
theorem dX16_becomes_31 : decode cX16_becomes 31 = .ok (.getfield 239, 3) := by decide +kernel
theorem dX16_becomes_34 : decode cX16_becomes 34 = .ok (.iload_n 2, 1) := by decide +kernel
theorem dX16_becomes_35 : decode cX16_becomes 35 = .ok (.iaload, 1) := by decide +kernel
theorem dX16_becomes_36 : decode cX16_becomes 36 = .ok (.iastore, 1) := by decide +kernel
theorem dX16_becomes_37 : decode cX16_becomes 37 = .ok (.iinc 2 1, 3) := by decide +kernel
theorem dX16_becomes_40 : decode cX16_becomes 40 = .ok (.goto (-22), 3) := by decide +kernel
theorem dX16_becomes_43 : decode cX16_becomes 43 = .ok (.iconst 0, 1) := by decide +kernel
theorem dX16_becomes_44 : decode cX16_becomes 44 = .ok (.istore_n 2, 1) := by decide +kernel
theorem dX16_becomes_45 : decode cX16_becomes 45 = .ok (.iload_n 2, 1) := by decide +kernel
theorem dX16_becomes_46 : decode cX16_becomes 46 = .ok (.sipush 512, 3) := by decide +kernel
theorem dX16_becomes_49 : decode cX16_becomes 49 = .ok (.if_icmp .ge 21, 3) := by decide +kernel
theorem dX16_becomes_52 : decode cX16_becomes 52 = .ok (.aload_n 0, 1) := by decide +kernel
theorem dX16_becomes_53 : decode cX16_becomes 53 = .ok (.getfield 229, 3) := by decide +kernel
theorem dX16_becomes_56 : decode cX16_becomes 56 = .ok (.iload_n 2, 1) := by decide +kernel
theorem dX16_becomes_57 : decode cX16_becomes 57 = .ok (.aload_n 1, 1) := by decide +kernel
theorem dX16_becomes_58 : decode cX16_becomes 58 = .ok (.getfield 229, 3) := by decide +kernel
theorem dX16_becomes_61 : decode cX16_becomes 61 = .ok (.iload_n 2, 1) := by decide +kernel
theorem dX16_becomes_62 : decode cX16_becomes 62 = .ok (.laload, 1) := by decide +kernel
theorem dX16_becomes_63 : decode cX16_becomes 63 = .ok (.lastore, 1) := by decide +kernel
theorem dX16_becomes_64 : decode cX16_becomes 64 = .ok (.iinc 2 1, 3) := by decide +kernel
theorem dX16_becomes_67 : decode cX16_becomes 67 = .ok (.goto (-22), 3) := by decide +kernel
theorem dX16_becomes_70 : decode cX16_becomes 70 = .ok (.iconst 0, 1) := by decide +kernel
theorem dX16_becomes_71 : decode cX16_becomes 71 = .ok (.istore_n 2, 1) := by decide +kernel
theorem dX16_becomes_72 : decode cX16_becomes 72 = .ok (.iload_n 2, 1) := by decide +kernel
theorem dX16_becomes_73 : decode cX16_becomes 73 = .ok (.bipush 32, 2) := by decide +kernel
theorem dX16_becomes_75 : decode cX16_becomes 75 = .ok (.if_icmp .ge 57, 3) := by decide +kernel
theorem dX16_becomes_78 : decode cX16_becomes 78 = .ok (.aload_n 0, 1) := by decide +kernel
theorem dX16_becomes_79 : decode cX16_becomes 79 = .ok (.getfield 226, 3) := by decide +kernel
theorem dX16_becomes_82 : decode cX16_becomes 82 = .ok (.iload_n 2, 1) := by decide +kernel
theorem dX16_becomes_83 : decode cX16_becomes 83 = .ok (.aload_n 1, 1) := by decide +kernel
theorem dX16_becomes_84 : decode cX16_becomes 84 = .ok (.getfield 226, 3) := by decide +kernel
theorem dX16_becomes_87 : decode cX16_becomes 87 = .ok (.iload_n 2, 1) := by decide +kernel
theorem dX16_becomes_88 : decode cX16_becomes 88 = .ok (.iaload, 1) := by decide +kernel
theorem dX16_becomes_89 : decode cX16_becomes 89 = .ok (.iastore, 1) := by decide +kernel
theorem dX16_becomes_90 : decode cX16_becomes 90 = .ok (.aload_n 0, 1) := by decide +kernel
theorem dX16_becomes_91 : decode cX16_becomes 91 = .ok (.getfield 242, 3) := by decide +kernel
theorem dX16_becomes_94 : decode cX16_becomes 94 = .ok (.iload_n 2, 1) := by decide +kernel
theorem dX16_becomes_95 : decode cX16_becomes 95 = .ok (.aload_n 1, 1) := by decide +kernel
theorem dX16_becomes_96 : decode cX16_becomes 96 = .ok (.getfield 242, 3) := by decide +kernel
theorem dX16_becomes_99 : decode cX16_becomes 99 = .ok (.iload_n 2, 1) := by decide +kernel
theorem dX16_becomes_100 : decode cX16_becomes 100 = .ok (.laload, 1) := by decide +kernel
theorem dX16_becomes_101 : decode cX16_becomes 101 = .ok (.lastore, 1) := by decide +kernel
theorem dX16_becomes_102 : decode cX16_becomes 102 = .ok (.aload_n 0, 1) := by decide +kernel
theorem dX16_becomes_103 : decode cX16_becomes 103 = .ok (.getfield 245, 3) := by decide +kernel
theorem dX16_becomes_106 : decode cX16_becomes 106 = .ok (.iload_n 2, 1) := by decide +kernel
theorem dX16_becomes_107 : decode cX16_becomes 107 = .ok (.aload_n 1, 1) := by decide +kernel
theorem dX16_becomes_108 : decode cX16_becomes 108 = .ok (.getfield 245, 3) := by decide +kernel
theorem dX16_becomes_111 : decode cX16_becomes 111 = .ok (.iload_n 2, 1) := by decide +kernel
theorem dX16_becomes_112 : decode cX16_becomes 112 = .ok (.iaload, 1) := by decide +kernel
theorem dX16_becomes_113 : decode cX16_becomes 113 = .ok (.iastore, 1) := by decide +kernel
theorem dX16_becomes_114 : decode cX16_becomes 114 = .ok (.aload_n 0, 1) := by decide +kernel
theorem dX16_becomes_115 : decode cX16_becomes 115 = .ok (.getfield 249, 3) := by decide +kernel
theorem dX16_becomes_118 : decode cX16_becomes 118 = .ok (.iload_n 2, 1) := by decide +kernel
theorem dX16_becomes_119 : decode cX16_becomes 119 = .ok (.aload_n 1, 1) := by decide +kernel
theorem dX16_becomes_120 : decode cX16_becomes 120 = .ok (.getfield 249, 3) := by decide +kernel
theorem dX16_becomes_123 : decode cX16_becomes 123 = .ok (.iload_n 2, 1) := by decide +kernel
theorem dX16_becomes_124 : decode cX16_becomes 124 = .ok (.daload, 1) := by decide +kernel
theorem dX16_becomes_125 : decode cX16_becomes 125 = .ok (.dastore, 1) := by decide +kernel
theorem dX16_becomes_126 : decode cX16_becomes 126 = .ok (.iinc 2 1, 3) := by decide +kernel
theorem dX16_becomes_129 : decode cX16_becomes 129 = .ok (.goto (-57), 3) := by decide +kernel
theorem dX16_becomes_132 : decode cX16_becomes 132 = .ok (.return_, 1) := by decide +kernel
theorem dX16_rounds_0 : decode cX16_rounds 0 = .ok (.aload_n 1, 1) := by decide +kernel
theorem dX16_rounds_1 : decode cX16_rounds 1 = .ok (.aload_n 2, 1) := by decide +kernel
theorem dX16_rounds_2 : decode cX16_rounds 2 = .ok (.invokestatic 323, 3) := by decide +kernel
theorem dX16_rounds_5 : decode cX16_rounds 5 = .ok (.iconst 1, 1) := by decide +kernel
theorem dX16_rounds_6 : decode cX16_rounds 6 = .ok (.istore_n 3, 1) := by decide +kernel
theorem dX16_rounds_7 : decode cX16_rounds 7 = .ok (.iload_n 3, 1) := by decide +kernel
theorem dX16_rounds_8 : decode cX16_rounds 8 = .ok (.ifCond .eq 339, 3) := by decide +kernel
theorem dX16_rounds_11 : decode cX16_rounds 11 = .ok (.iconst 0, 1) := by decide +kernel
theorem dX16_rounds_12 : decode cX16_rounds 12 = .ok (.istore_n 3, 1) := by decide +kernel
theorem dX16_rounds_13 : decode cX16_rounds 13 = .ok (.aload_n 0, 1) := by decide +kernel
theorem dX16_rounds_14 : decode cX16_rounds 14 = .ok (.getfield 193, 3) := by decide +kernel
theorem dX16_rounds_17 : decode cX16_rounds 17 = .ok (.aload_n 1, 1) := by decide +kernel
theorem dX16_rounds_18 : decode cX16_rounds 18 = .ok (.invokestatic 323, 3) := by decide +kernel
theorem dX16_rounds_21 : decode cX16_rounds 21 = .ok (.iconst 0, 1) := by decide +kernel
theorem dX16_rounds_22 : decode cX16_rounds 22 = .ok (.istore 4, 2) := by decide +kernel
theorem dX16_rounds_24 : decode cX16_rounds 24 = .ok (.iload 4, 2) := by decide +kernel
theorem dX16_rounds_26 : decode cX16_rounds 26 = .ok (.aload_n 0, 1) := by decide +kernel
theorem dX16_rounds_27 : decode cX16_rounds 27 = .ok (.getfield 193, 3) := by decide +kernel
theorem dX16_rounds_30 : decode cX16_rounds 30 = .ok (.getfield 35, 3) := by decide +kernel
theorem dX16_rounds_33 : decode cX16_rounds 33 = .ok (.if_icmp .ge 125, 3) := by decide +kernel
theorem dX16_rounds_36 : decode cX16_rounds 36 = .ok (.iconst 0, 1) := by decide +kernel
theorem dX16_rounds_37 : decode cX16_rounds 37 = .ok (.istore 5, 2) := by decide +kernel
theorem dX16_rounds_39 : decode cX16_rounds 39 = .ok (.iload 5, 2) := by decide +kernel
theorem dX16_rounds_41 : decode cX16_rounds 41 = .ok (.aload_n 2, 1) := by decide +kernel
theorem dX16_rounds_42 : decode cX16_rounds 42 = .ok (.getfield 35, 3) := by decide +kernel
theorem dX16_rounds_45 : decode cX16_rounds 45 = .ok (.if_icmp .ge 107, 3) := by decide +kernel
theorem dX16_rounds_48 : decode cX16_rounds 48 = .ok (.aload_n 0, 1) := by decide +kernel
theorem dX16_rounds_49 : decode cX16_rounds 49 = .ok (.getfield 193, 3) := by decide +kernel
theorem dX16_rounds_52 : decode cX16_rounds 52 = .ok (.getfield 239, 3) := by decide +kernel
theorem dX16_rounds_55 : decode cX16_rounds 55 = .ok (.bipush 6, 2) := by decide +kernel
theorem dX16_rounds_57 : decode cX16_rounds 57 = .ok (.iload 4, 2) := by decide +kernel
theorem dX16_rounds_59 : decode cX16_rounds 59 = .ok (.imul, 1) := by decide +kernel
theorem dX16_rounds_60 : decode cX16_rounds 60 = .ok (.iconst 1, 1) := by decide +kernel
theorem dX16_rounds_61 : decode cX16_rounds 61 = .ok (.iadd, 1) := by decide +kernel
theorem dX16_rounds_62 : decode cX16_rounds 62 = .ok (.iaload, 1) := by decide +kernel
theorem dX16_rounds_63 : decode cX16_rounds 63 = .ok (.aload_n 2, 1) := by decide +kernel
theorem dX16_rounds_64 : decode cX16_rounds 64 = .ok (.getfield 239, 3) := by decide +kernel
theorem dX16_rounds_67 : decode cX16_rounds 67 = .ok (.bipush 6, 2) := by decide +kernel
theorem dX16_rounds_69 : decode cX16_rounds 69 = .ok (.iload 5, 2) := by decide +kernel
theorem dX16_rounds_71 : decode cX16_rounds 71 = .ok (.imul, 1) := by decide +kernel
theorem dX16_rounds_72 : decode cX16_rounds 72 = .ok (.iaload, 1) := by decide +kernel
theorem dX16_rounds_73 : decode cX16_rounds 73 = .ok (.if_icmp .eq 6, 3) := by decide +kernel
theorem dX16_rounds_76 : decode cX16_rounds 76 = .ok (.goto 70, 3) := by decide +kernel
theorem dX16_rounds_79 : decode cX16_rounds 79 = .ok (.aload_n 0, 1) := by decide +kernel
theorem dX16_rounds_80 : decode cX16_rounds 80 = .ok (.getfield 200, 3) := by decide +kernel
theorem dX16_rounds_83 : decode cX16_rounds 83 = .ok (.iconst 0, 1) := by decide +kernel
theorem dX16_rounds_84 : decode cX16_rounds 84 = .ok (.aload_n 0, 1) := by decide +kernel
theorem dX16_rounds_85 : decode cX16_rounds 85 = .ok (.getfield 193, 3) := by decide +kernel
theorem dX16_rounds_88 : decode cX16_rounds 88 = .ok (.getfield 239, 3) := by decide +kernel
theorem dX16_rounds_91 : decode cX16_rounds 91 = .ok (.bipush 6, 2) := by decide +kernel
theorem dX16_rounds_93 : decode cX16_rounds 93 = .ok (.iload 4, 2) := by decide +kernel
theorem dX16_rounds_95 : decode cX16_rounds 95 = .ok (.imul, 1) := by decide +kernel
theorem dX16_rounds_96 : decode cX16_rounds 96 = .ok (.iaload, 1) := by decide +kernel
theorem dX16_rounds_97 : decode cX16_rounds 97 = .ok (.iastore, 1) := by decide +kernel
theorem dX16_rounds_98 : decode cX16_rounds 98 = .ok (.aload_n 0, 1) := by decide +kernel
theorem dX16_rounds_99 : decode cX16_rounds 99 = .ok (.getfield 200, 3) := by decide +kernel
theorem dX16_rounds_102 : decode cX16_rounds 102 = .ok (.iconst 1, 1) := by decide +kernel
theorem dX16_rounds_103 : decode cX16_rounds 103 = .ok (.aload_n 2, 1) := by decide +kernel
theorem dX16_rounds_104 : decode cX16_rounds 104 = .ok (.getfield 239, 3) := by decide +kernel
theorem dX16_rounds_107 : decode cX16_rounds 107 = .ok (.bipush 6, 2) := by decide +kernel
theorem dX16_rounds_109 : decode cX16_rounds 109 = .ok (.iload 5, 2) := by decide +kernel
theorem dX16_rounds_111 : decode cX16_rounds 111 = .ok (.imul, 1) := by decide +kernel
theorem dX16_rounds_112 : decode cX16_rounds 112 = .ok (.iconst 1, 1) := by decide +kernel
theorem dX16_rounds_113 : decode cX16_rounds 113 = .ok (.iadd, 1) := by decide +kernel
theorem dX16_rounds_114 : decode cX16_rounds 114 = .ok (.iaload, 1) := by decide +kernel
theorem dX16_rounds_115 : decode cX16_rounds 115 = .ok (.iastore, 1) := by decide +kernel
theorem dX16_rounds_116 : decode cX16_rounds 116 = .ok (.aload_n 1, 1) := by decide +kernel
theorem dX16_rounds_117 : decode cX16_rounds 117 = .ok (.aload_n 0, 1) := by decide +kernel
theorem dX16_rounds_118 : decode cX16_rounds 118 = .ok (.getfield 200, 3) := by decide +kernel
theorem dX16_rounds_121 : decode cX16_rounds 121 = .ok (.iconst 0, 1) := by decide +kernel
theorem dX16_rounds_122 : decode cX16_rounds 122 = .ok (.invokevirtual 303, 3) := by decide +kernel
theorem dX16_rounds_125 : decode cX16_rounds 125 = .ok (.iconst (-1), 1) := by decide +kernel
theorem dX16_rounds_126 : decode cX16_rounds 126 = .ok (.if_icmp .eq 6, 3) := by decide +kernel
theorem dX16_rounds_129 : decode cX16_rounds 129 = .ok (.goto 17, 3) := by decide +kernel
theorem dX16_rounds_132 : decode cX16_rounds 132 = .ok (.aload_n 0, 1) := by decide +kernel
theorem dX16_rounds_133 : decode cX16_rounds 133 = .ok (.aload_n 1, 1) := by decide +kernel
theorem dX16_rounds_134 : decode cX16_rounds 134 = .ok (.aload_n 0, 1) := by decide +kernel
theorem dX16_rounds_135 : decode cX16_rounds 135 = .ok (.getfield 200, 3) := by decide +kernel
theorem dX16_rounds_138 : decode cX16_rounds 138 = .ok (.iconst 0, 1) := by decide +kernel
theorem dX16_rounds_139 : decode cX16_rounds 139 = .ok (.invokevirtual 262, 3) := by decide +kernel
theorem dX16_rounds_142 : decode cX16_rounds 142 = .ok (.istore 6, 2) := by decide +kernel
theorem dX16_rounds_144 : decode cX16_rounds 144 = .ok (.iconst 1, 1) := by decide +kernel
theorem dX16_rounds_145 : decode cX16_rounds 145 = .ok (.istore_n 3, 1) := by decide +kernel
theorem dX16_rounds_146 : decode cX16_rounds 146 = .ok (.iinc 5 1, 3) := by decide +kernel
theorem dX16_rounds_149 : decode cX16_rounds 149 = .ok (.goto (-110), 3) := by decide +kernel
theorem dX16_rounds_152 : decode cX16_rounds 152 = .ok (.iinc 4 1, 3) := by decide +kernel
theorem dX16_rounds_155 : decode cX16_rounds 155 = .ok (.goto (-131), 3) := by decide +kernel
theorem dX16_rounds_158 : decode cX16_rounds 158 = .ok (.iconst 0, 1) := by decide +kernel
theorem dX16_rounds_159 : decode cX16_rounds 159 = .ok (.istore 4, 2) := by decide +kernel
theorem dX16_rounds_161 : decode cX16_rounds 161 = .ok (.iload 4, 2) := by decide +kernel
theorem dX16_rounds_163 : decode cX16_rounds 163 = .ok (.aload_n 1, 1) := by decide +kernel
theorem dX16_rounds_164 : decode cX16_rounds 164 = .ok (.getfield 35, 3) := by decide +kernel
theorem dX16_rounds_167 : decode cX16_rounds 167 = .ok (.if_icmp .ge 177, 3) := by decide +kernel
theorem dX16_rounds_170 : decode cX16_rounds 170 = .ok (.aload_n 0, 1) := by decide +kernel
theorem dX16_rounds_171 : decode cX16_rounds 171 = .ok (.iconst 0, 1) := by decide +kernel
theorem dX16_rounds_172 : decode cX16_rounds 172 = .ok (.putfield 223, 3) := by decide +kernel
theorem dX16_rounds_175 : decode cX16_rounds 175 = .ok (.aload_n 0, 1) := by decide +kernel
theorem dX16_rounds_176 : decode cX16_rounds 176 = .ok (.aload_n 1, 1) := by decide +kernel
theorem dX16_rounds_177 : decode cX16_rounds 177 = .ok (.iload 4, 2) := by decide +kernel
theorem dX16_rounds_179 : decode cX16_rounds 179 = .ok (.invokevirtual 266, 3) := by decide +kernel
theorem dX16_rounds_182 : decode cX16_rounds 182 = .ok (.iconst 0, 1) := by decide +kernel
theorem dX16_rounds_183 : decode cX16_rounds 183 = .ok (.istore 5, 2) := by decide +kernel
theorem dX16_rounds_185 : decode cX16_rounds 185 = .ok (.iload 5, 2) := by decide +kernel
theorem dX16_rounds_187 : decode cX16_rounds 187 = .ok (.aload_n 0, 1) := by decide +kernel
theorem dX16_rounds_188 : decode cX16_rounds 188 = .ok (.getfield 193, 3) := by decide +kernel
theorem dX16_rounds_191 : decode cX16_rounds 191 = .ok (.getfield 35, 3) := by decide +kernel
theorem dX16_rounds_194 : decode cX16_rounds 194 = .ok (.if_icmp .ge 124, 3) := by decide +kernel
theorem dX16_rounds_197 : decode cX16_rounds 197 = .ok (.aload_n 0, 1) := by decide +kernel
theorem dX16_rounds_198 : decode cX16_rounds 198 = .ok (.getfield 193, 3) := by decide +kernel
theorem dX16_rounds_201 : decode cX16_rounds 201 = .ok (.getfield 239, 3) := by decide +kernel
theorem dX16_rounds_204 : decode cX16_rounds 204 = .ok (.bipush 6, 2) := by decide +kernel
theorem dX16_rounds_206 : decode cX16_rounds 206 = .ok (.iload 5, 2) := by decide +kernel
theorem dX16_rounds_208 : decode cX16_rounds 208 = .ok (.imul, 1) := by decide +kernel
theorem dX16_rounds_209 : decode cX16_rounds 209 = .ok (.iaload, 1) := by decide +kernel
theorem dX16_rounds_210 : decode cX16_rounds 210 = .ok (.aload_n 1, 1) := by decide +kernel
theorem dX16_rounds_211 : decode cX16_rounds 211 = .ok (.getfield 239, 3) := by decide +kernel
theorem dX16_rounds_214 : decode cX16_rounds 214 = .ok (.bipush 6, 2) := by decide +kernel
theorem dX16_rounds_216 : decode cX16_rounds 216 = .ok (.iload 4, 2) := by decide +kernel
theorem dX16_rounds_218 : decode cX16_rounds 218 = .ok (.imul, 1) := by decide +kernel
theorem dX16_rounds_219 : decode cX16_rounds 219 = .ok (.iaload, 1) := by decide +kernel
theorem dX16_rounds_220 : decode cX16_rounds 220 = .ok (.if_icmp .eq 6, 3) := by decide +kernel
theorem dX16_rounds_223 : decode cX16_rounds 223 = .ok (.goto 89, 3) := by decide +kernel
theorem dX16_rounds_226 : decode cX16_rounds 226 = .ok (.iconst 0, 1) := by decide +kernel
theorem dX16_rounds_227 : decode cX16_rounds 227 = .ok (.istore 6, 2) := by decide +kernel
theorem dX16_rounds_229 : decode cX16_rounds 229 = .ok (.iload 6, 2) := by decide +kernel
theorem dX16_rounds_231 : decode cX16_rounds 231 = .ok (.aload_n 2, 1) := by decide +kernel
theorem dX16_rounds_232 : decode cX16_rounds 232 = .ok (.getfield 35, 3) := by decide +kernel
theorem dX16_rounds_235 : decode cX16_rounds 235 = .ok (.if_icmp .ge 77, 3) := by decide +kernel
theorem dX16_rounds_238 : decode cX16_rounds 238 = .ok (.aload_n 0, 1) := by decide +kernel
theorem dX16_rounds_239 : decode cX16_rounds 239 = .ok (.getfield 193, 3) := by decide +kernel
theorem dX16_rounds_242 : decode cX16_rounds 242 = .ok (.getfield 239, 3) := by decide +kernel
theorem dX16_rounds_245 : decode cX16_rounds 245 = .ok (.bipush 6, 2) := by decide +kernel
theorem dX16_rounds_247 : decode cX16_rounds 247 = .ok (.iload 5, 2) := by decide +kernel
theorem dX16_rounds_249 : decode cX16_rounds 249 = .ok (.imul, 1) := by decide +kernel
theorem dX16_rounds_250 : decode cX16_rounds 250 = .ok (.iconst 1, 1) := by decide +kernel
theorem dX16_rounds_251 : decode cX16_rounds 251 = .ok (.iadd, 1) := by decide +kernel
theorem dX16_rounds_252 : decode cX16_rounds 252 = .ok (.iaload, 1) := by decide +kernel
theorem dX16_rounds_253 : decode cX16_rounds 253 = .ok (.aload_n 2, 1) := by decide +kernel
theorem dX16_rounds_254 : decode cX16_rounds 254 = .ok (.getfield 239, 3) := by decide +kernel
theorem dX16_rounds_257 : decode cX16_rounds 257 = .ok (.bipush 6, 2) := by decide +kernel
theorem dX16_rounds_259 : decode cX16_rounds 259 = .ok (.iload 6, 2) := by decide +kernel
theorem dX16_rounds_261 : decode cX16_rounds 261 = .ok (.imul, 1) := by decide +kernel
theorem dX16_rounds_262 : decode cX16_rounds 262 = .ok (.iaload, 1) := by decide +kernel
theorem dX16_rounds_263 : decode cX16_rounds 263 = .ok (.if_icmp .ne 43, 3) := by decide +kernel
theorem dX16_rounds_266 : decode cX16_rounds 266 = .ok (.aload_n 2, 1) := by decide +kernel
theorem dX16_rounds_267 : decode cX16_rounds 267 = .ok (.getfield 239, 3) := by decide +kernel
theorem dX16_rounds_270 : decode cX16_rounds 270 = .ok (.bipush 6, 2) := by decide +kernel
theorem dX16_rounds_272 : decode cX16_rounds 272 = .ok (.iload 6, 2) := by decide +kernel
theorem dX16_rounds_274 : decode cX16_rounds 274 = .ok (.imul, 1) := by decide +kernel
theorem dX16_rounds_275 : decode cX16_rounds 275 = .ok (.iconst 1, 1) := by decide +kernel
theorem dX16_rounds_276 : decode cX16_rounds 276 = .ok (.iadd, 1) := by decide +kernel
theorem dX16_rounds_277 : decode cX16_rounds 277 = .ok (.iaload, 1) := by decide +kernel
theorem dX16_rounds_278 : decode cX16_rounds 278 = .ok (.aload_n 1, 1) := by decide +kernel
theorem dX16_rounds_279 : decode cX16_rounds 279 = .ok (.getfield 239, 3) := by decide +kernel
theorem dX16_rounds_282 : decode cX16_rounds 282 = .ok (.bipush 6, 2) := by decide +kernel
theorem dX16_rounds_284 : decode cX16_rounds 284 = .ok (.iload 4, 2) := by decide +kernel
theorem dX16_rounds_286 : decode cX16_rounds 286 = .ok (.imul, 1) := by decide +kernel
theorem dX16_rounds_287 : decode cX16_rounds 287 = .ok (.iconst 1, 1) := by decide +kernel
theorem dX16_rounds_288 : decode cX16_rounds 288 = .ok (.iadd, 1) := by decide +kernel
theorem dX16_rounds_289 : decode cX16_rounds 289 = .ok (.iaload, 1) := by decide +kernel
theorem dX16_rounds_290 : decode cX16_rounds 290 = .ok (.if_icmp .ne 16, 3) := by decide +kernel
theorem dX16_rounds_293 : decode cX16_rounds 293 = .ok (.aload_n 0, 1) := by decide +kernel
theorem dX16_rounds_294 : decode cX16_rounds 294 = .ok (.aload_n 0, 1) := by decide +kernel
theorem dX16_rounds_295 : decode cX16_rounds 295 = .ok (.getfield 193, 3) := by decide +kernel
theorem dX16_rounds_298 : decode cX16_rounds 298 = .ok (.iload 5, 2) := by decide +kernel
theorem dX16_rounds_300 : decode cX16_rounds 300 = .ok (.aload_n 2, 1) := by decide +kernel
theorem dX16_rounds_301 : decode cX16_rounds 301 = .ok (.iload 6, 2) := by decide +kernel
theorem dX16_rounds_303 : decode cX16_rounds 303 = .ok (.invokevirtual 314, 3) := by decide +kernel
theorem dX16_rounds_306 : decode cX16_rounds 306 = .ok (.iinc 6 1, 3) := by decide +kernel
theorem dX16_rounds_309 : decode cX16_rounds 309 = .ok (.goto (-80), 3) := by decide +kernel
theorem dX16_rounds_312 : decode cX16_rounds 312 = .ok (.iinc 5 1, 3) := by decide +kernel
theorem dX16_rounds_315 : decode cX16_rounds 315 = .ok (.goto (-130), 3) := by decide +kernel
theorem dX16_rounds_318 : decode cX16_rounds 318 = .ok (.aload_n 0, 1) := by decide +kernel
theorem dX16_rounds_319 : decode cX16_rounds 319 = .ok (.aload_n 1, 1) := by decide +kernel
theorem dX16_rounds_320 : decode cX16_rounds 320 = .ok (.iload 4, 2) := by decide +kernel
theorem dX16_rounds_322 : decode cX16_rounds 322 = .ok (.invokevirtual 270, 3) := by decide +kernel
theorem dX16_rounds_325 : decode cX16_rounds 325 = .ok (.ifCond .ne 7, 3) := by decide +kernel
theorem dX16_rounds_328 : decode cX16_rounds 328 = .ok (.iload_n 3, 1) := by decide +kernel
theorem dX16_rounds_329 : decode cX16_rounds 329 = .ok (.ifCond .eq 7, 3) := by decide +kernel
theorem dX16_rounds_332 : decode cX16_rounds 332 = .ok (.iconst 1, 1) := by decide +kernel
theorem dX16_rounds_333 : decode cX16_rounds 333 = .ok (.goto 4, 3) := by decide +kernel
theorem dX16_rounds_336 : decode cX16_rounds 336 = .ok (.iconst 0, 1) := by decide +kernel
theorem dX16_rounds_337 : decode cX16_rounds 337 = .ok (.istore_n 3, 1) := by decide +kernel
theorem dX16_rounds_338 : decode cX16_rounds 338 = .ok (.iinc 4 1, 3) := by decide +kernel
theorem dX16_rounds_341 : decode cX16_rounds 341 = .ok (.goto (-180), 3) := by decide +kernel
theorem dX16_rounds_344 : decode cX16_rounds 344 = .ok (.goto (-337), 3) := by decide +kernel
theorem dX16_rounds_347 : decode cX16_rounds 347 = .ok (.aload_n 1, 1) := by decide +kernel
theorem dX16_rounds_348 : decode cX16_rounds 348 = .ok (.aload_n 2, 1) := by decide +kernel
theorem dX16_rounds_349 : decode cX16_rounds 349 = .ok (.invokestatic 326, 3) := by decide +kernel
theorem dX16_rounds_352 : decode cX16_rounds 352 = .ok (.return_, 1) := by decide +kernel
theorem dX16_chains_0 : decode cX16_chains 0 = .ok (.iconst 1, 1) := by decide +kernel
theorem dX16_chains_1 : decode cX16_chains 1 = .ok (.istore_n 2, 1) := by decide +kernel
theorem dX16_chains_2 : decode cX16_chains 2 = .ok (.iload_n 2, 1) := by decide +kernel
theorem dX16_chains_3 : decode cX16_chains 3 = .ok (.ifCond .eq 243, 3) := by decide +kernel
theorem dX16_chains_6 : decode cX16_chains 6 = .ok (.iconst 0, 1) := by decide +kernel
theorem dX16_chains_7 : decode cX16_chains 7 = .ok (.istore_n 2, 1) := by decide +kernel
theorem dX16_chains_8 : decode cX16_chains 8 = .ok (.iconst 0, 1) := by decide +kernel
theorem dX16_chains_9 : decode cX16_chains 9 = .ok (.istore_n 3, 1) := by decide +kernel
theorem dX16_chains_10 : decode cX16_chains 10 = .ok (.iload_n 3, 1) := by decide +kernel
theorem dX16_chains_11 : decode cX16_chains 11 = .ok (.aload_n 0, 1) := by decide +kernel
theorem dX16_chains_12 : decode cX16_chains 12 = .ok (.getfield 35, 3) := by decide +kernel
theorem dX16_chains_15 : decode cX16_chains 15 = .ok (.if_icmp .ge 228, 3) := by decide +kernel
theorem dX16_chains_18 : decode cX16_chains 18 = .ok (.iconst 0, 1) := by decide +kernel
theorem dX16_chains_19 : decode cX16_chains 19 = .ok (.istore 4, 2) := by decide +kernel
theorem dX16_chains_21 : decode cX16_chains 21 = .ok (.iload 4, 2) := by decide +kernel
theorem dX16_chains_23 : decode cX16_chains 23 = .ok (.aload_n 1, 1) := by decide +kernel
theorem dX16_chains_24 : decode cX16_chains 24 = .ok (.getfield 35, 3) := by decide +kernel
theorem dX16_chains_27 : decode cX16_chains 27 = .ok (.if_icmp .ge 210, 3) := by decide +kernel
theorem dX16_chains_30 : decode cX16_chains 30 = .ok (.aload_n 0, 1) := by decide +kernel
theorem dX16_chains_31 : decode cX16_chains 31 = .ok (.getfield 239, 3) := by decide +kernel
theorem dX16_chains_34 : decode cX16_chains 34 = .ok (.bipush 6, 2) := by decide +kernel
theorem dX16_chains_36 : decode cX16_chains 36 = .ok (.iload_n 3, 1) := by decide +kernel
theorem dX16_chains_37 : decode cX16_chains 37 = .ok (.imul, 1) := by decide +kernel
theorem dX16_chains_38 : decode cX16_chains 38 = .ok (.iconst 1, 1) := by decide +kernel
theorem dX16_chains_39 : decode cX16_chains 39 = .ok (.iadd, 1) := by decide +kernel
theorem dX16_chains_40 : decode cX16_chains 40 = .ok (.iaload, 1) := by decide +kernel
theorem dX16_chains_41 : decode cX16_chains 41 = .ok (.aload_n 1, 1) := by decide +kernel
theorem dX16_chains_42 : decode cX16_chains 42 = .ok (.getfield 239, 3) := by decide +kernel
theorem dX16_chains_45 : decode cX16_chains 45 = .ok (.bipush 6, 2) := by decide +kernel
theorem dX16_chains_47 : decode cX16_chains 47 = .ok (.iload 4, 2) := by decide +kernel
theorem dX16_chains_49 : decode cX16_chains 49 = .ok (.imul, 1) := by decide +kernel
theorem dX16_chains_50 : decode cX16_chains 50 = .ok (.iaload, 1) := by decide +kernel
theorem dX16_chains_51 : decode cX16_chains 51 = .ok (.if_icmp .eq 6, 3) := by decide +kernel
theorem dX16_chains_54 : decode cX16_chains 54 = .ok (.goto 177, 3) := by decide +kernel
theorem dX16_chains_57 : decode cX16_chains 57 = .ok (.iconst 0, 1) := by decide +kernel
theorem dX16_chains_58 : decode cX16_chains 58 = .ok (.istore 5, 2) := by decide +kernel
theorem dX16_chains_60 : decode cX16_chains 60 = .ok (.iload 5, 2) := by decide +kernel
theorem dX16_chains_62 : decode cX16_chains 62 = .ok (.aload_n 0, 1) := by decide +kernel
theorem dX16_chains_63 : decode cX16_chains 63 = .ok (.getfield 35, 3) := by decide +kernel
theorem dX16_chains_66 : decode cX16_chains 66 = .ok (.if_icmp .ge 165, 3) := by decide +kernel
theorem dX16_chains_69 : decode cX16_chains 69 = .ok (.aload_n 0, 1) := by decide +kernel
theorem dX16_chains_70 : decode cX16_chains 70 = .ok (.getfield 239, 3) := by decide +kernel
theorem dX16_chains_73 : decode cX16_chains 73 = .ok (.bipush 6, 2) := by decide +kernel
theorem dX16_chains_75 : decode cX16_chains 75 = .ok (.iload 5, 2) := by decide +kernel
theorem dX16_chains_77 : decode cX16_chains 77 = .ok (.imul, 1) := by decide +kernel
theorem dX16_chains_78 : decode cX16_chains 78 = .ok (.iaload, 1) := by decide +kernel
theorem dX16_chains_79 : decode cX16_chains 79 = .ok (.aload_n 0, 1) := by decide +kernel
theorem dX16_chains_80 : decode cX16_chains 80 = .ok (.getfield 239, 3) := by decide +kernel
theorem dX16_chains_83 : decode cX16_chains 83 = .ok (.bipush 6, 2) := by decide +kernel
theorem dX16_chains_85 : decode cX16_chains 85 = .ok (.iload_n 3, 1) := by decide +kernel
theorem dX16_chains_86 : decode cX16_chains 86 = .ok (.imul, 1) := by decide +kernel
theorem dX16_chains_87 : decode cX16_chains 87 = .ok (.iaload, 1) := by decide +kernel
theorem dX16_chains_88 : decode cX16_chains 88 = .ok (.if_icmp .ne 137, 3) := by decide +kernel
theorem dX16_chains_91 : decode cX16_chains 91 = .ok (.aload_n 0, 1) := by decide +kernel
theorem dX16_chains_92 : decode cX16_chains 92 = .ok (.getfield 239, 3) := by decide +kernel
theorem dX16_chains_95 : decode cX16_chains 95 = .ok (.bipush 6, 2) := by decide +kernel
theorem dX16_chains_97 : decode cX16_chains 97 = .ok (.iload 5, 2) := by decide +kernel
theorem dX16_chains_99 : decode cX16_chains 99 = .ok (.imul, 1) := by decide +kernel
theorem dX16_chains_100 : decode cX16_chains 100 = .ok (.iconst 1, 1) := by decide +kernel
theorem dX16_chains_101 : decode cX16_chains 101 = .ok (.iadd, 1) := by decide +kernel
theorem dX16_chains_102 : decode cX16_chains 102 = .ok (.iaload, 1) := by decide +kernel
theorem dX16_chains_103 : decode cX16_chains 103 = .ok (.aload_n 1, 1) := by decide +kernel
theorem dX16_chains_104 : decode cX16_chains 104 = .ok (.getfield 239, 3) := by decide +kernel
theorem dX16_chains_107 : decode cX16_chains 107 = .ok (.bipush 6, 2) := by decide +kernel
theorem dX16_chains_109 : decode cX16_chains 109 = .ok (.iload 4, 2) := by decide +kernel
theorem dX16_chains_111 : decode cX16_chains 111 = .ok (.imul, 1) := by decide +kernel
theorem dX16_chains_112 : decode cX16_chains 112 = .ok (.iconst 1, 1) := by decide +kernel
theorem dX16_chains_113 : decode cX16_chains 113 = .ok (.iadd, 1) := by decide +kernel
theorem dX16_chains_114 : decode cX16_chains 114 = .ok (.iaload, 1) := by decide +kernel
theorem dX16_chains_115 : decode cX16_chains 115 = .ok (.if_icmp .eq 6, 3) := by decide +kernel
theorem dX16_chains_118 : decode cX16_chains 118 = .ok (.goto 107, 3) := by decide +kernel
theorem dX16_chains_121 : decode cX16_chains 121 = .ok (.aload_n 0, 1) := by decide +kernel
theorem dX16_chains_122 : decode cX16_chains 122 = .ok (.getfield 245, 3) := by decide +kernel
theorem dX16_chains_125 : decode cX16_chains 125 = .ok (.iload_n 3, 1) := by decide +kernel
theorem dX16_chains_126 : decode cX16_chains 126 = .ok (.iaload, 1) := by decide +kernel
theorem dX16_chains_127 : decode cX16_chains 127 = .ok (.aload_n 1, 1) := by decide +kernel
theorem dX16_chains_128 : decode cX16_chains 128 = .ok (.getfield 245, 3) := by decide +kernel
theorem dX16_chains_131 : decode cX16_chains 131 = .ok (.iload 4, 2) := by decide +kernel
theorem dX16_chains_133 : decode cX16_chains 133 = .ok (.iaload, 1) := by decide +kernel
theorem dX16_chains_134 : decode cX16_chains 134 = .ok (.invokestatic 318, 3) := by decide +kernel
theorem dX16_chains_137 : decode cX16_chains 137 = .ok (.istore 6, 2) := by decide +kernel
theorem dX16_chains_139 : decode cX16_chains 139 = .ok (.aload_n 0, 1) := by decide +kernel
theorem dX16_chains_140 : decode cX16_chains 140 = .ok (.getfield 249, 3) := by decide +kernel
theorem dX16_chains_143 : decode cX16_chains 143 = .ok (.iload_n 3, 1) := by decide +kernel
theorem dX16_chains_144 : decode cX16_chains 144 = .ok (.daload, 1) := by decide +kernel
theorem dX16_chains_145 : decode cX16_chains 145 = .ok (.aload_n 1, 1) := by decide +kernel
theorem dX16_chains_146 : decode cX16_chains 146 = .ok (.getfield 249, 3) := by decide +kernel
theorem dX16_chains_149 : decode cX16_chains 149 = .ok (.iload 4, 2) := by decide +kernel
theorem dX16_chains_151 : decode cX16_chains 151 = .ok (.daload, 1) := by decide +kernel
theorem dX16_chains_152 : decode cX16_chains 152 = .ok (.invokestatic 321, 3) := by decide +kernel
theorem dX16_chains_155 : decode cX16_chains 155 = .ok (.dstore 7, 2) := by decide +kernel
theorem dX16_chains_157 : decode cX16_chains 157 = .ok (.iload 6, 2) := by decide +kernel
theorem dX16_chains_159 : decode cX16_chains 159 = .ok (.aload_n 0, 1) := by decide +kernel
theorem dX16_chains_160 : decode cX16_chains 160 = .ok (.getfield 245, 3) := by decide +kernel
theorem dX16_chains_163 : decode cX16_chains 163 = .ok (.iload 5, 2) := by decide +kernel
theorem dX16_chains_165 : decode cX16_chains 165 = .ok (.iaload, 1) := by decide +kernel
theorem dX16_chains_166 : decode cX16_chains 166 = .ok (.if_icmp .lt 19, 3) := by decide +kernel
theorem dX16_chains_169 : decode cX16_chains 169 = .ok (.dload 7, 2) := by decide +kernel
theorem dX16_chains_171 : decode cX16_chains 171 = .ok (.aload_n 0, 1) := by decide +kernel
theorem dX16_chains_172 : decode cX16_chains 172 = .ok (.getfield 249, 3) := by decide +kernel
theorem dX16_chains_175 : decode cX16_chains 175 = .ok (.iload 5, 2) := by decide +kernel
theorem dX16_chains_177 : decode cX16_chains 177 = .ok (.daload, 1) := by decide +kernel
theorem dX16_chains_178 : decode cX16_chains 178 = .ok (.dcmp .g, 1) := by decide +kernel
theorem dX16_chains_179 : decode cX16_chains 179 = .ok (.ifCond .gt 6, 3) := by decide +kernel
theorem dX16_chains_182 : decode cX16_chains 182 = .ok (.goto 43, 3) := by decide +kernel
theorem dX16_chains_185 : decode cX16_chains 185 = .ok (.aload_n 0, 1) := by decide +kernel
theorem dX16_chains_186 : decode cX16_chains 186 = .ok (.getfield 245, 3) := by decide +kernel
theorem dX16_chains_189 : decode cX16_chains 189 = .ok (.iload 5, 2) := by decide +kernel
theorem dX16_chains_191 : decode cX16_chains 191 = .ok (.aload_n 0, 1) := by decide +kernel
theorem dX16_chains_192 : decode cX16_chains 192 = .ok (.getfield 245, 3) := by decide +kernel
theorem dX16_chains_195 : decode cX16_chains 195 = .ok (.iload 5, 2) := by decide +kernel
theorem dX16_chains_197 : decode cX16_chains 197 = .ok (.iaload, 1) := by decide +kernel
theorem dX16_chains_198 : decode cX16_chains 198 = .ok (.iload 6, 2) := by decide +kernel
theorem dX16_chains_200 : decode cX16_chains 200 = .ok (.invokestatic 252, 3) := by decide +kernel
theorem dX16_chains_203 : decode cX16_chains 203 = .ok (.iastore, 1) := by decide +kernel
theorem dX16_chains_204 : decode cX16_chains 204 = .ok (.aload_n 0, 1) := by decide +kernel
theorem dX16_chains_205 : decode cX16_chains 205 = .ok (.getfield 249, 3) := by decide +kernel
theorem dX16_chains_208 : decode cX16_chains 208 = .ok (.iload 5, 2) := by decide +kernel
theorem dX16_chains_210 : decode cX16_chains 210 = .ok (.aload_n 0, 1) := by decide +kernel
theorem dX16_chains_211 : decode cX16_chains 211 = .ok (.getfield 249, 3) := by decide +kernel
theorem dX16_chains_214 : decode cX16_chains 214 = .ok (.iload 5, 2) := by decide +kernel
theorem dX16_chains_216 : decode cX16_chains 216 = .ok (.daload, 1) := by decide +kernel
theorem dX16_chains_217 : decode cX16_chains 217 = .ok (.dload 7, 2) := by decide +kernel
theorem dX16_chains_219 : decode cX16_chains 219 = .ok (.invokestatic 258, 3) := by decide +kernel
theorem dX16_chains_222 : decode cX16_chains 222 = .ok (.dastore, 1) := by decide +kernel
theorem dX16_chains_223 : decode cX16_chains 223 = .ok (.iconst 1, 1) := by decide +kernel
theorem dX16_chains_224 : decode cX16_chains 224 = .ok (.istore_n 2, 1) := by decide +kernel
theorem dX16_chains_225 : decode cX16_chains 225 = .ok (.iinc 5 1, 3) := by decide +kernel
theorem dX16_chains_228 : decode cX16_chains 228 = .ok (.goto (-168), 3) := by decide +kernel
theorem dX16_chains_231 : decode cX16_chains 231 = .ok (.iinc 4 1, 3) := by decide +kernel
theorem dX16_chains_234 : decode cX16_chains 234 = .ok (.goto (-213), 3) := by decide +kernel
theorem dX16_chains_237 : decode cX16_chains 237 = .ok (.iinc 3 1, 3) := by decide +kernel
theorem dX16_chains_240 : decode cX16_chains 240 = .ok (.goto (-230), 3) := by decide +kernel
theorem dX16_chains_243 : decode cX16_chains 243 = .ok (.goto (-241), 3) := by decide +kernel
theorem dX16_chains_246 : decode cX16_chains 246 = .ok (.return_, 1) := by decide +kernel
theorem dX16_ask_0 : decode cX16_ask 0 = .ok (.aload_n 0, 1) := by decide +kernel
theorem dX16_ask_1 : decode cX16_ask 1 = .ok (.iconst 0, 1) := by decide +kernel
theorem dX16_ask_2 : decode cX16_ask 2 = .ok (.putfield 1, 3) := by decide +kernel
theorem dX16_ask_5 : decode cX16_ask 5 = .ok (.aload_n 0, 1) := by decide +kernel
theorem dX16_ask_6 : decode cX16_ask 6 = .ok (.iload_n 1, 1) := by decide +kernel
theorem dX16_ask_7 : decode cX16_ask 7 = .ok (.invokevirtual 168, 3) := by decide +kernel
theorem dX16_ask_10 : decode cX16_ask 10 = .ok (.ifCond .ne 9, 3) := by decide +kernel
theorem dX16_ask_13 : decode cX16_ask 13 = .ok (.aload_n 0, 1) := by decide +kernel
theorem dX16_ask_14 : decode cX16_ask 14 = .ok (.iconst 1, 1) := by decide +kernel
theorem dX16_ask_15 : decode cX16_ask 15 = .ok (.invokevirtual 72, 3) := by decide +kernel
theorem dX16_ask_18 : decode cX16_ask 18 = .ok (.ireturn, 1) := by decide +kernel
theorem dX16_ask_19 : decode cX16_ask 19 = .ok (.iconst 0, 1) := by decide +kernel
theorem dX16_ask_20 : decode cX16_ask 20 = .ok (.istore_n 2, 1) := by decide +kernel
theorem dX16_ask_21 : decode cX16_ask 21 = .ok (.iload_n 2, 1) := by decide +kernel
theorem dX16_ask_22 : decode cX16_ask 22 = .ok (.bipush 40, 2) := by decide +kernel
theorem dX16_ask_24 : decode cX16_ask 24 = .ok (.if_icmp .ge 25, 3) := by decide +kernel
theorem dX16_ask_27 : decode cX16_ask 27 = .ok (.aload_n 0, 1) := by decide +kernel
theorem dX16_ask_28 : decode cX16_ask 28 = .ok (.getfield 206, 3) := by decide +kernel
theorem dX16_ask_31 : decode cX16_ask 31 = .ok (.iload_n 2, 1) := by decide +kernel
theorem dX16_ask_32 : decode cX16_ask 32 = .ok (.iload_n 2, 1) := by decide +kernel
theorem dX16_ask_33 : decode cX16_ask 33 = .ok (.iload_n 1, 1) := by decide +kernel
theorem dX16_ask_34 : decode cX16_ask 34 = .ok (.if_icmp .ne 7, 3) := by decide +kernel
theorem dX16_ask_37 : decode cX16_ask 37 = .ok (.iconst 1, 1) := by decide +kernel
theorem dX16_ask_38 : decode cX16_ask 38 = .ok (.goto 4, 3) := by decide +kernel
theorem dX16_ask_41 : decode cX16_ask 41 = .ok (.iconst 0, 1) := by decide +kernel
theorem dX16_ask_42 : decode cX16_ask 42 = .ok (.bastore, 1) := by decide +kernel
theorem dX16_ask_43 : decode cX16_ask 43 = .ok (.iinc 2 1, 3) := by decide +kernel
theorem dX16_ask_46 : decode cX16_ask 46 = .ok (.goto (-25), 3) := by decide +kernel
theorem dX16_ask_49 : decode cX16_ask 49 = .ok (.iload_n 1, 1) := by decide +kernel
theorem dX16_ask_50 : decode cX16_ask 50 = .ok (.istore_n 2, 1) := by decide +kernel
theorem dX16_ask_51 : decode cX16_ask 51 = .ok (.iload_n 2, 1) := by decide +kernel
theorem dX16_ask_52 : decode cX16_ask 52 = .ok (.ifCond .lt 64, 3) := by decide +kernel
theorem dX16_ask_55 : decode cX16_ask 55 = .ok (.aload_n 0, 1) := by decide +kernel
theorem dX16_ask_56 : decode cX16_ask 56 = .ok (.getfield 206, 3) := by decide +kernel
theorem dX16_ask_59 : decode cX16_ask 59 = .ok (.iload_n 2, 1) := by decide +kernel
theorem dX16_ask_60 : decode cX16_ask 60 = .ok (.baload, 1) := by decide +kernel
theorem dX16_ask_61 : decode cX16_ask 61 = .ok (.ifCond .eq 49, 3) := by decide +kernel
theorem dX16_ask_64 : decode cX16_ask 64 = .ok (.aload_n 0, 1) := by decide +kernel
theorem dX16_ask_65 : decode cX16_ask 65 = .ok (.getfield 137, 3) := by decide +kernel
theorem dX16_ask_68 : decode cX16_ask 68 = .ok (.iload_n 2, 1) := by decide +kernel
theorem dX16_ask_69 : decode cX16_ask 69 = .ok (.iaload, 1) := by decide +kernel
theorem dX16_ask_70 : decode cX16_ask 70 = .ok (.ifCond .ne 6, 3) := by decide +kernel
theorem dX16_ask_73 : decode cX16_ask 73 = .ok (.goto 37, 3) := by decide +kernel
theorem dX16_ask_76 : decode cX16_ask 76 = .ok (.aload_n 0, 1) := by decide +kernel
theorem dX16_ask_77 : decode cX16_ask 77 = .ok (.getfield 206, 3) := by decide +kernel
theorem dX16_ask_80 : decode cX16_ask 80 = .ok (.aload_n 0, 1) := by decide +kernel
theorem dX16_ask_81 : decode cX16_ask 81 = .ok (.getfield 140, 3) := by decide +kernel
theorem dX16_ask_84 : decode cX16_ask 84 = .ok (.iload_n 2, 1) := by decide +kernel
theorem dX16_ask_85 : decode cX16_ask 85 = .ok (.iaload, 1) := by decide +kernel
theorem dX16_ask_86 : decode cX16_ask 86 = .ok (.iconst 1, 1) := by decide +kernel
theorem dX16_ask_87 : decode cX16_ask 87 = .ok (.bastore, 1) := by decide +kernel
theorem dX16_ask_88 : decode cX16_ask 88 = .ok (.aload_n 0, 1) := by decide +kernel
theorem dX16_ask_89 : decode cX16_ask 89 = .ok (.getfield 143, 3) := by decide +kernel
theorem dX16_ask_92 : decode cX16_ask 92 = .ok (.iload_n 2, 1) := by decide +kernel
theorem dX16_ask_93 : decode cX16_ask 93 = .ok (.iaload, 1) := by decide +kernel
theorem dX16_ask_94 : decode cX16_ask 94 = .ok (.iconst (-1), 1) := by decide +kernel
theorem dX16_ask_95 : decode cX16_ask 95 = .ok (.if_icmp .eq 15, 3) := by decide +kernel
theorem dX16_ask_98 : decode cX16_ask 98 = .ok (.aload_n 0, 1) := by decide +kernel
theorem dX16_ask_99 : decode cX16_ask 99 = .ok (.getfield 206, 3) := by decide +kernel
theorem dX16_ask_102 : decode cX16_ask 102 = .ok (.aload_n 0, 1) := by decide +kernel
theorem dX16_ask_103 : decode cX16_ask 103 = .ok (.getfield 143, 3) := by decide +kernel
theorem dX16_ask_106 : decode cX16_ask 106 = .ok (.iload_n 2, 1) := by decide +kernel
theorem dX16_ask_107 : decode cX16_ask 107 = .ok (.iaload, 1) := by decide +kernel
theorem dX16_ask_108 : decode cX16_ask 108 = .ok (.iconst 1, 1) := by decide +kernel
theorem dX16_ask_109 : decode cX16_ask 109 = .ok (.bastore, 1) := by decide +kernel
theorem dX16_ask_110 : decode cX16_ask 110 = .ok (.iinc 2 (-1), 3) := by decide +kernel
theorem dX16_ask_113 : decode cX16_ask 113 = .ok (.goto (-62), 3) := by decide +kernel
theorem dX16_ask_116 : decode cX16_ask 116 = .ok (.iconst 0, 1) := by decide +kernel
theorem dX16_ask_117 : decode cX16_ask 117 = .ok (.istore_n 2, 1) := by decide +kernel
theorem dX16_ask_118 : decode cX16_ask 118 = .ok (.iload_n 2, 1) := by decide +kernel
theorem dX16_ask_119 : decode cX16_ask 119 = .ok (.iload_n 1, 1) := by decide +kernel
theorem dX16_ask_120 : decode cX16_ask 120 = .ok (.if_icmp .gt 23, 3) := by decide +kernel
theorem dX16_ask_123 : decode cX16_ask 123 = .ok (.aload_n 0, 1) := by decide +kernel
theorem dX16_ask_124 : decode cX16_ask 124 = .ok (.getfield 206, 3) := by decide +kernel
theorem dX16_ask_127 : decode cX16_ask 127 = .ok (.iload_n 2, 1) := by decide +kernel
theorem dX16_ask_128 : decode cX16_ask 128 = .ok (.baload, 1) := by decide +kernel
theorem dX16_ask_129 : decode cX16_ask 129 = .ok (.ifCond .eq 8, 3) := by decide +kernel
theorem dX16_ask_132 : decode cX16_ask 132 = .ok (.aload_n 0, 1) := by decide +kernel
theorem dX16_ask_133 : decode cX16_ask 133 = .ok (.iload_n 2, 1) := by decide +kernel
theorem dX16_ask_134 : decode cX16_ask 134 = .ok (.invokevirtual 329, 3) := by decide +kernel
theorem dX16_ask_137 : decode cX16_ask 137 = .ok (.iinc 2 1, 3) := by decide +kernel
theorem dX16_ask_140 : decode cX16_ask 140 = .ok (.goto (-22), 3) := by decide +kernel
theorem dX16_ask_143 : decode cX16_ask 143 = .ok (.goto 10, 3) := by decide +kernel
theorem dX16_ask_146 : decode cX16_ask 146 = .ok (.astore_n 2, 1) := by decide +kernel
theorem dX16_ask_147 : decode cX16_ask 147 = .ok (.aload_n 0, 1) := by decide +kernel
theorem dX16_ask_148 : decode cX16_ask 148 = .ok (.iconst 5, 1) := by decide +kernel
theorem dX16_ask_149 : decode cX16_ask 149 = .ok (.invokevirtual 72, 3) := by decide +kernel
theorem dX16_ask_152 : decode cX16_ask 152 = .ok (.ireturn, 1) := by decide +kernel
theorem dX16_ask_153 : decode cX16_ask 153 = .ok (.aload_n 0, 1) := by decide +kernel
theorem dX16_ask_154 : decode cX16_ask 154 = .ok (.getfield 188, 3) := by decide +kernel
theorem dX16_ask_157 : decode cX16_ask 157 = .ok (.iload_n 1, 1) := by decide +kernel
theorem dX16_ask_158 : decode cX16_ask 158 = .ok (.aaload, 1) := by decide +kernel
theorem dX16_ask_159 : decode cX16_ask 159 = .ok (.astore_n 2, 1) := by decide +kernel
theorem dX16_ask_160 : decode cX16_ask 160 = .ok (.aload_n 0, 1) := by decide +kernel
theorem dX16_ask_161 : decode cX16_ask 161 = .ok (.getfield 31, 3) := by decide +kernel
theorem dX16_ask_164 : decode cX16_ask 164 = .ok (.iconst 0, 1) := by decide +kernel
theorem dX16_ask_165 : decode cX16_ask 165 = .ok (.putfield 35, 3) := by decide +kernel
theorem dX16_ask_168 : decode cX16_ask 168 = .ok (.aload_n 0, 1) := by decide +kernel
theorem dX16_ask_169 : decode cX16_ask 169 = .ok (.getfield 31, 3) := by decide +kernel
theorem dX16_ask_172 : decode cX16_ask 172 = .ok (.aload_n 2, 1) := by decide +kernel
theorem dX16_ask_173 : decode cX16_ask 173 = .ok (.getfield 236, 3) := by decide +kernel
theorem dX16_ask_176 : decode cX16_ask 176 = .ok (.putfield 236, 3) := by decide +kernel
theorem dX16_ask_179 : decode cX16_ask 179 = .ok (.iconst 0, 1) := by decide +kernel
theorem dX16_ask_180 : decode cX16_ask 180 = .ok (.istore_n 3, 1) := by decide +kernel
theorem dX16_ask_181 : decode cX16_ask 181 = .ok (.iload_n 3, 1) := by decide +kernel
theorem dX16_ask_182 : decode cX16_ask 182 = .ok (.bipush 32, 2) := by decide +kernel
theorem dX16_ask_184 : decode cX16_ask 184 = .ok (.if_icmp .ge 16, 3) := by decide +kernel
theorem dX16_ask_187 : decode cX16_ask 187 = .ok (.aload_n 0, 1) := by decide +kernel
theorem dX16_ask_188 : decode cX16_ask 188 = .ok (.getfield 209, 3) := by decide +kernel
theorem dX16_ask_191 : decode cX16_ask 191 = .ok (.iload_n 3, 1) := by decide +kernel
theorem dX16_ask_192 : decode cX16_ask 192 = .ok (.iconst 0, 1) := by decide +kernel
theorem dX16_ask_193 : decode cX16_ask 193 = .ok (.bastore, 1) := by decide +kernel
theorem dX16_ask_194 : decode cX16_ask 194 = .ok (.iinc 3 1, 3) := by decide +kernel
theorem dX16_ask_197 : decode cX16_ask 197 = .ok (.goto (-16), 3) := by decide +kernel
theorem dX16_ask_200 : decode cX16_ask 200 = .ok (.iconst 0, 1) := by decide +kernel
theorem dX16_ask_201 : decode cX16_ask 201 = .ok (.istore_n 3, 1) := by decide +kernel
theorem dX16_ask_202 : decode cX16_ask 202 = .ok (.iload_n 3, 1) := by decide +kernel
theorem dX16_ask_203 : decode cX16_ask 203 = .ok (.aload_n 2, 1) := by decide +kernel
theorem dX16_ask_204 : decode cX16_ask 204 = .ok (.getfield 35, 3) := by decide +kernel
theorem dX16_ask_207 : decode cX16_ask 207 = .ok (.if_icmp .ge 80, 3) := by decide +kernel
theorem dX16_ask_210 : decode cX16_ask 210 = .ok (.iconst (-1), 1) := by decide +kernel
theorem dX16_ask_211 : decode cX16_ask 211 = .ok (.istore 4, 2) := by decide +kernel
theorem dX16_ask_213 : decode cX16_ask 213 = .ok (.iconst 0, 1) := by decide +kernel
theorem dX16_ask_214 : decode cX16_ask 214 = .ok (.istore 5, 2) := by decide +kernel
theorem dX16_ask_216 : decode cX16_ask 216 = .ok (.iload 5, 2) := by decide +kernel
theorem dX16_ask_218 : decode cX16_ask 218 = .ok (.aload_n 2, 1) := by decide +kernel
theorem dX16_ask_219 : decode cX16_ask 219 = .ok (.getfield 35, 3) := by decide +kernel
theorem dX16_ask_222 : decode cX16_ask 222 = .ok (.if_icmp .ge 40, 3) := by decide +kernel
theorem dX16_ask_225 : decode cX16_ask 225 = .ok (.aload_n 0, 1) := by decide +kernel
theorem dX16_ask_226 : decode cX16_ask 226 = .ok (.getfield 209, 3) := by decide +kernel
theorem dX16_ask_229 : decode cX16_ask 229 = .ok (.iload 5, 2) := by decide +kernel
theorem dX16_ask_231 : decode cX16_ask 231 = .ok (.baload, 1) := by decide +kernel
theorem dX16_ask_232 : decode cX16_ask 232 = .ok (.ifCond .ne 24, 3) := by decide +kernel
theorem dX16_ask_235 : decode cX16_ask 235 = .ok (.iload 4, 2) := by decide +kernel
theorem dX16_ask_237 : decode cX16_ask 237 = .ok (.iconst (-1), 1) := by decide +kernel
theorem dX16_ask_238 : decode cX16_ask 238 = .ok (.if_icmp .eq 14, 3) := by decide +kernel
theorem dX16_ask_241 : decode cX16_ask 241 = .ok (.aload_n 2, 1) := by decide +kernel
theorem dX16_ask_242 : decode cX16_ask 242 = .ok (.iload 5, 2) := by decide +kernel
theorem dX16_ask_244 : decode cX16_ask 244 = .ok (.iload 4, 2) := by decide +kernel
theorem dX16_ask_246 : decode cX16_ask 246 = .ok (.invokestatic 333, 3) := by decide +kernel
theorem dX16_ask_249 : decode cX16_ask 249 = .ok (.ifCond .eq 7, 3) := by decide +kernel
theorem dX16_ask_252 : decode cX16_ask 252 = .ok (.iload 5, 2) := by decide +kernel
theorem dX16_ask_254 : decode cX16_ask 254 = .ok (.istore 4, 2) := by decide +kernel
theorem dX16_ask_256 : decode cX16_ask 256 = .ok (.iinc 5 1, 3) := by decide +kernel
theorem dX16_ask_259 : decode cX16_ask 259 = .ok (.goto (-43), 3) := by decide +kernel
theorem dX16_ask_262 : decode cX16_ask 262 = .ok (.aload_n 0, 1) := by decide +kernel
theorem dX16_ask_263 : decode cX16_ask 263 = .ok (.getfield 209, 3) := by decide +kernel
theorem dX16_ask_266 : decode cX16_ask 266 = .ok (.iload 4, 2) := by decide +kernel
theorem dX16_ask_268 : decode cX16_ask 268 = .ok (.iconst 1, 1) := by decide +kernel
theorem dX16_ask_269 : decode cX16_ask 269 = .ok (.bastore, 1) := by decide +kernel
theorem dX16_ask_270 : decode cX16_ask 270 = .ok (.aload_n 0, 1) := by decide +kernel
theorem dX16_ask_271 : decode cX16_ask 271 = .ok (.aload_n 2, 1) := by decide +kernel
theorem dX16_ask_272 : decode cX16_ask 272 = .ok (.iload 4, 2) := by decide +kernel
theorem dX16_ask_274 : decode cX16_ask 274 = .ok (.aload_n 0, 1) := by decide +kernel
theorem dX16_ask_275 : decode cX16_ask 275 = .ok (.getfield 31, 3) := by decide +kernel
theorem dX16_ask_278 : decode cX16_ask 278 = .ok (.invokevirtual 310, 3) := by decide +kernel
theorem dX16_ask_281 : decode cX16_ask 281 = .ok (.iinc 3 1, 3) := by decide +kernel
theorem dX16_ask_284 : decode cX16_ask 284 = .ok (.goto (-82), 3) := by decide +kernel
theorem dX16_ask_287 : decode cX16_ask 287 = .ok (.aload_n 0, 1) := by decide +kernel
theorem dX16_ask_288 : decode cX16_ask 288 = .ok (.aload_n 0, 1) := by decide +kernel
theorem dX16_ask_289 : decode cX16_ask 289 = .ok (.getfield 161, 3) := by decide +kernel
theorem dX16_ask_292 : decode cX16_ask 292 = .ok (.iload_n 1, 1) := by decide +kernel
theorem dX16_ask_293 : decode cX16_ask 293 = .ok (.baload, 1) := by decide +kernel
theorem dX16_ask_294 : decode cX16_ask 294 = .ok (.ifCond .ne 7, 3) := by decide +kernel
theorem dX16_ask_297 : decode cX16_ask 297 = .ok (.iconst 1, 1) := by decide +kernel
theorem dX16_ask_298 : decode cX16_ask 298 = .ok (.goto 4, 3) := by decide +kernel
theorem dX16_ask_301 : decode cX16_ask 301 = .ok (.iconst 0, 1) := by decide +kernel
theorem dX16_ask_302 : decode cX16_ask 302 = .ok (.putfield 337, 3) := by decide +kernel
theorem dX16_ask_305 : decode cX16_ask 305 = .ok (.aload_n 0, 1) := by decide +kernel
theorem dX16_ask_306 : decode cX16_ask 306 = .ok (.aload_n 0, 1) := by decide +kernel
theorem dX16_ask_307 : decode cX16_ask 307 = .ok (.getfield 31, 3) := by decide +kernel
theorem dX16_ask_310 : decode cX16_ask 310 = .ok (.getfield 35, 3) := by decide +kernel
theorem dX16_ask_313 : decode cX16_ask 313 = .ok (.invokevirtual 84, 3) := by decide +kernel
theorem dX16_ask_316 : decode cX16_ask 316 = .ok (.ireturn, 1) := by decide +kernel
theorem dX16_isLess_0 : decode cX16_isLess 0 = .ok (.iconst 0, 1) := by decide +kernel
theorem dX16_isLess_1 : decode cX16_isLess 1 = .ok (.istore_n 3, 1) := by decide +kernel
theorem dX16_isLess_2 : decode cX16_isLess 2 = .ok (.iload_n 3, 1) := by decide +kernel
theorem dX16_isLess_3 : decode cX16_isLess 3 = .ok (.aload_n 0, 1) := by decide +kernel
theorem dX16_isLess_4 : decode cX16_isLess 4 = .ok (.getfield 236, 3) := by decide +kernel
theorem dX16_isLess_7 : decode cX16_isLess 7 = .ok (.iconst 1, 1) := by decide +kernel
theorem dX16_isLess_8 : decode cX16_isLess 8 = .ok (.isub, 1) := by decide +kernel
theorem dX16_isLess_9 : decode cX16_isLess 9 = .ok (.if_icmp .ge 34, 3) := by decide +kernel
theorem dX16_isLess_12 : decode cX16_isLess 12 = .ok (.aload_n 0, 1) := by decide +kernel
theorem dX16_isLess_13 : decode cX16_isLess 13 = .ok (.getfield 239, 3) := by decide +kernel
theorem dX16_isLess_16 : decode cX16_isLess 16 = .ok (.bipush 6, 2) := by decide +kernel
theorem dX16_isLess_18 : decode cX16_isLess 18 = .ok (.iload_n 1, 1) := by decide +kernel
theorem dX16_isLess_19 : decode cX16_isLess 19 = .ok (.imul, 1) := by decide +kernel
theorem dX16_isLess_20 : decode cX16_isLess 20 = .ok (.iload_n 3, 1) := by decide +kernel
theorem dX16_isLess_21 : decode cX16_isLess 21 = .ok (.iadd, 1) := by decide +kernel
theorem dX16_isLess_22 : decode cX16_isLess 22 = .ok (.iaload, 1) := by decide +kernel
theorem dX16_isLess_23 : decode cX16_isLess 23 = .ok (.aload_n 0, 1) := by decide +kernel
theorem dX16_isLess_24 : decode cX16_isLess 24 = .ok (.getfield 239, 3) := by decide +kernel
theorem dX16_isLess_27 : decode cX16_isLess 27 = .ok (.bipush 6, 2) := by decide +kernel
theorem dX16_isLess_29 : decode cX16_isLess 29 = .ok (.iload_n 2, 1) := by decide +kernel
theorem dX16_isLess_30 : decode cX16_isLess 30 = .ok (.imul, 1) := by decide +kernel
theorem dX16_isLess_31 : decode cX16_isLess 31 = .ok (.iload_n 3, 1) := by decide +kernel
theorem dX16_isLess_32 : decode cX16_isLess 32 = .ok (.iadd, 1) := by decide +kernel
theorem dX16_isLess_33 : decode cX16_isLess 33 = .ok (.iaload, 1) := by decide +kernel
theorem dX16_isLess_34 : decode cX16_isLess 34 = .ok (.if_icmp .ne 9, 3) := by decide +kernel
theorem dX16_isLess_37 : decode cX16_isLess 37 = .ok (.iinc 3 1, 3) := by decide +kernel
theorem dX16_isLess_40 : decode cX16_isLess 40 = .ok (.goto (-38), 3) := by decide +kernel
theorem dX16_isLess_43 : decode cX16_isLess 43 = .ok (.aload_n 0, 1) := by decide +kernel
theorem dX16_isLess_44 : decode cX16_isLess 44 = .ok (.getfield 239, 3) := by decide +kernel
theorem dX16_isLess_47 : decode cX16_isLess 47 = .ok (.bipush 6, 2) := by decide +kernel
theorem dX16_isLess_49 : decode cX16_isLess 49 = .ok (.iload_n 1, 1) := by decide +kernel
theorem dX16_isLess_50 : decode cX16_isLess 50 = .ok (.imul, 1) := by decide +kernel
theorem dX16_isLess_51 : decode cX16_isLess 51 = .ok (.iload_n 3, 1) := by decide +kernel
theorem dX16_isLess_52 : decode cX16_isLess 52 = .ok (.iadd, 1) := by decide +kernel
theorem dX16_isLess_53 : decode cX16_isLess 53 = .ok (.iaload, 1) := by decide +kernel
theorem dX16_isLess_54 : decode cX16_isLess 54 = .ok (.aload_n 0, 1) := by decide +kernel
theorem dX16_isLess_55 : decode cX16_isLess 55 = .ok (.getfield 239, 3) := by decide +kernel
theorem dX16_isLess_58 : decode cX16_isLess 58 = .ok (.bipush 6, 2) := by decide +kernel
theorem dX16_isLess_60 : decode cX16_isLess 60 = .ok (.iload_n 2, 1) := by decide +kernel
theorem dX16_isLess_61 : decode cX16_isLess 61 = .ok (.imul, 1) := by decide +kernel
theorem dX16_isLess_62 : decode cX16_isLess 62 = .ok (.iload_n 3, 1) := by decide +kernel
theorem dX16_isLess_63 : decode cX16_isLess 63 = .ok (.iadd, 1) := by decide +kernel
theorem dX16_isLess_64 : decode cX16_isLess 64 = .ok (.iaload, 1) := by decide +kernel
theorem dX16_isLess_65 : decode cX16_isLess 65 = .ok (.if_icmp .ge 7, 3) := by decide +kernel
theorem dX16_isLess_68 : decode cX16_isLess 68 = .ok (.iconst 1, 1) := by decide +kernel
theorem dX16_isLess_69 : decode cX16_isLess 69 = .ok (.goto 4, 3) := by decide +kernel
theorem dX16_isLess_72 : decode cX16_isLess 72 = .ok (.iconst 0, 1) := by decide +kernel
theorem dX16_isLess_73 : decode cX16_isLess 73 = .ok (.ireturn, 1) := by decide +kernel
theorem dX16_isAnswer_0 : decode cX16_isAnswer 0 = .ok (.iload_n 1, 1) := by decide +kernel
theorem dX16_isAnswer_1 : decode cX16_isAnswer 1 = .ok (.ifCond .lt 18, 3) := by decide +kernel
theorem dX16_isAnswer_4 : decode cX16_isAnswer 4 = .ok (.iload_n 1, 1) := by decide +kernel
theorem dX16_isAnswer_5 : decode cX16_isAnswer 5 = .ok (.aload_n 0, 1) := by decide +kernel
theorem dX16_isAnswer_6 : decode cX16_isAnswer 6 = .ok (.getfield 31, 3) := by decide +kernel
theorem dX16_isAnswer_9 : decode cX16_isAnswer 9 = .ok (.getfield 35, 3) := by decide +kernel
theorem dX16_isAnswer_12 : decode cX16_isAnswer 12 = .ok (.if_icmp .ge 7, 3) := by decide +kernel
theorem dX16_isAnswer_15 : decode cX16_isAnswer 15 = .ok (.iconst 1, 1) := by decide +kernel
theorem dX16_isAnswer_16 : decode cX16_isAnswer 16 = .ok (.goto 4, 3) := by decide +kernel
theorem dX16_isAnswer_19 : decode cX16_isAnswer 19 = .ok (.iconst 0, 1) := by decide +kernel
theorem dX16_isAnswer_20 : decode cX16_isAnswer 20 = .ok (.ireturn, 1) := by decide +kernel
theorem dX16_value_0 : decode cX16_value 0 = .ok (.aload_n 0, 1) := by decide +kernel
theorem dX16_value_1 : decode cX16_value 1 = .ok (.iconst 0, 1) := by decide +kernel
theorem dX16_value_2 : decode cX16_value 2 = .ok (.putfield 1, 3) := by decide +kernel
theorem dX16_value_5 : decode cX16_value 5 = .ok (.aload_n 0, 1) := by decide +kernel
theorem dX16_value_6 : decode cX16_value 6 = .ok (.iload_n 1, 1) := by decide +kernel
theorem dX16_value_7 : decode cX16_value 7 = .ok (.invokevirtual 341, 3) := by decide +kernel
theorem dX16_value_10 : decode cX16_value 10 = .ok (.ifCond .eq 35, 3) := by decide +kernel
theorem dX16_value_13 : decode cX16_value 13 = .ok (.iload_n 2, 1) := by decide +kernel
theorem dX16_value_14 : decode cX16_value 14 = .ok (.ifCond .lt 31, 3) := by decide +kernel
theorem dX16_value_17 : decode cX16_value 17 = .ok (.iload_n 2, 1) := by decide +kernel
theorem dX16_value_18 : decode cX16_value 18 = .ok (.aload_n 0, 1) := by decide +kernel
theorem dX16_value_19 : decode cX16_value 19 = .ok (.getfield 31, 3) := by decide +kernel
theorem dX16_value_22 : decode cX16_value 22 = .ok (.getfield 236, 3) := by decide +kernel
theorem dX16_value_25 : decode cX16_value 25 = .ok (.if_icmp .ge 20, 3) := by decide +kernel
theorem dX16_value_28 : decode cX16_value 28 = .ok (.aload_n 0, 1) := by decide +kernel
theorem dX16_value_29 : decode cX16_value 29 = .ok (.getfield 31, 3) := by decide +kernel
theorem dX16_value_32 : decode cX16_value 32 = .ok (.getfield 239, 3) := by decide +kernel
theorem dX16_value_35 : decode cX16_value 35 = .ok (.bipush 6, 2) := by decide +kernel
theorem dX16_value_37 : decode cX16_value 37 = .ok (.iload_n 1, 1) := by decide +kernel
theorem dX16_value_38 : decode cX16_value 38 = .ok (.imul, 1) := by decide +kernel
theorem dX16_value_39 : decode cX16_value 39 = .ok (.iload_n 2, 1) := by decide +kernel
theorem dX16_value_40 : decode cX16_value 40 = .ok (.iadd, 1) := by decide +kernel
theorem dX16_value_41 : decode cX16_value 41 = .ok (.iaload, 1) := by decide +kernel
theorem dX16_value_42 : decode cX16_value 42 = .ok (.goto 4, 3) := by decide +kernel
theorem dX16_value_45 : decode cX16_value 45 = .ok (.iconst 0, 1) := by decide +kernel
theorem dX16_value_46 : decode cX16_value 46 = .ok (.ireturn, 1) := by decide +kernel
theorem dX16_find_0 : decode cX16_find 0 = .ok (.aload_n 0, 1) := by decide +kernel
theorem dX16_find_1 : decode cX16_find 1 = .ok (.iconst 0, 1) := by decide +kernel
theorem dX16_find_2 : decode cX16_find 2 = .ok (.putfield 1, 3) := by decide +kernel
theorem dX16_find_5 : decode cX16_find 5 = .ok (.aload_n 0, 1) := by decide +kernel
theorem dX16_find_6 : decode cX16_find 6 = .ok (.getfield 200, 3) := by decide +kernel
theorem dX16_find_9 : decode cX16_find 9 = .ok (.iconst 0, 1) := by decide +kernel
theorem dX16_find_10 : decode cX16_find 10 = .ok (.iload_n 1, 1) := by decide +kernel
theorem dX16_find_11 : decode cX16_find 11 = .ok (.iastore, 1) := by decide +kernel
theorem dX16_find_12 : decode cX16_find 12 = .ok (.aload_n 0, 1) := by decide +kernel
theorem dX16_find_13 : decode cX16_find 13 = .ok (.getfield 200, 3) := by decide +kernel
theorem dX16_find_16 : decode cX16_find 16 = .ok (.iconst 1, 1) := by decide +kernel
theorem dX16_find_17 : decode cX16_find 17 = .ok (.iload_n 2, 1) := by decide +kernel
theorem dX16_find_18 : decode cX16_find 18 = .ok (.iastore, 1) := by decide +kernel
theorem dX16_find_19 : decode cX16_find 19 = .ok (.aload_n 0, 1) := by decide +kernel
theorem dX16_find_20 : decode cX16_find 20 = .ok (.getfield 200, 3) := by decide +kernel
theorem dX16_find_23 : decode cX16_find 23 = .ok (.iconst 2, 1) := by decide +kernel
theorem dX16_find_24 : decode cX16_find 24 = .ok (.iload_n 3, 1) := by decide +kernel
theorem dX16_find_25 : decode cX16_find 25 = .ok (.iastore, 1) := by decide +kernel
theorem dX16_find_26 : decode cX16_find 26 = .ok (.aload_n 0, 1) := by decide +kernel
theorem dX16_find_27 : decode cX16_find 27 = .ok (.getfield 200, 3) := by decide +kernel
theorem dX16_find_30 : decode cX16_find 30 = .ok (.iconst 3, 1) := by decide +kernel
theorem dX16_find_31 : decode cX16_find 31 = .ok (.iload 4, 2) := by decide +kernel
theorem dX16_find_33 : decode cX16_find 33 = .ok (.iastore, 1) := by decide +kernel
theorem dX16_find_34 : decode cX16_find 34 = .ok (.aload_n 0, 1) := by decide +kernel
theorem dX16_find_35 : decode cX16_find 35 = .ok (.getfield 200, 3) := by decide +kernel
theorem dX16_find_38 : decode cX16_find 38 = .ok (.iconst 4, 1) := by decide +kernel
theorem dX16_find_39 : decode cX16_find 39 = .ok (.iload 5, 2) := by decide +kernel
theorem dX16_find_41 : decode cX16_find 41 = .ok (.iastore, 1) := by decide +kernel
theorem dX16_find_42 : decode cX16_find 42 = .ok (.aload_n 0, 1) := by decide +kernel
theorem dX16_find_43 : decode cX16_find 43 = .ok (.getfield 200, 3) := by decide +kernel
theorem dX16_find_46 : decode cX16_find 46 = .ok (.iconst 5, 1) := by decide +kernel
theorem dX16_find_47 : decode cX16_find 47 = .ok (.iload 6, 2) := by decide +kernel
theorem dX16_find_49 : decode cX16_find 49 = .ok (.iastore, 1) := by decide +kernel
theorem dX16_find_50 : decode cX16_find 50 = .ok (.aload_n 0, 1) := by decide +kernel
theorem dX16_find_51 : decode cX16_find 51 = .ok (.getfield 31, 3) := by decide +kernel
theorem dX16_find_54 : decode cX16_find 54 = .ok (.aload_n 0, 1) := by decide +kernel
theorem dX16_find_55 : decode cX16_find 55 = .ok (.getfield 200, 3) := by decide +kernel
theorem dX16_find_58 : decode cX16_find 58 = .ok (.iconst 0, 1) := by decide +kernel
theorem dX16_find_59 : decode cX16_find 59 = .ok (.invokevirtual 303, 3) := by decide +kernel
theorem dX16_find_62 : decode cX16_find 62 = .ok (.ireturn, 1) := by decide +kernel
theorem dX16_ways_0 : decode cX16_ways 0 = .ok (.aload_n 0, 1) := by decide +kernel
theorem dX16_ways_1 : decode cX16_ways 1 = .ok (.iconst 0, 1) := by decide +kernel
theorem dX16_ways_2 : decode cX16_ways 2 = .ok (.putfield 1, 3) := by decide +kernel
theorem dX16_ways_5 : decode cX16_ways 5 = .ok (.aload_n 0, 1) := by decide +kernel
theorem dX16_ways_6 : decode cX16_ways 6 = .ok (.iload_n 1, 1) := by decide +kernel
theorem dX16_ways_7 : decode cX16_ways 7 = .ok (.invokevirtual 341, 3) := by decide +kernel
theorem dX16_ways_10 : decode cX16_ways 10 = .ok (.ifCond .eq 15, 3) := by decide +kernel
theorem dX16_ways_13 : decode cX16_ways 13 = .ok (.aload_n 0, 1) := by decide +kernel
theorem dX16_ways_14 : decode cX16_ways 14 = .ok (.getfield 31, 3) := by decide +kernel
theorem dX16_ways_17 : decode cX16_ways 17 = .ok (.getfield 226, 3) := by decide +kernel
theorem dX16_ways_20 : decode cX16_ways 20 = .ok (.iload_n 1, 1) := by decide +kernel
theorem dX16_ways_21 : decode cX16_ways 21 = .ok (.iaload, 1) := by decide +kernel
theorem dX16_ways_22 : decode cX16_ways 22 = .ok (.goto 4, 3) := by decide +kernel
theorem dX16_ways_25 : decode cX16_ways 25 = .ok (.iconst (-1), 1) := by decide +kernel
theorem dX16_ways_26 : decode cX16_ways 26 = .ok (.ireturn, 1) := by decide +kernel
theorem dX16_way_0 : decode cX16_way 0 = .ok (.aload_n 0, 1) := by decide +kernel
theorem dX16_way_1 : decode cX16_way 1 = .ok (.iconst 0, 1) := by decide +kernel
theorem dX16_way_2 : decode cX16_way 2 = .ok (.putfield 1, 3) := by decide +kernel
theorem dX16_way_5 : decode cX16_way 5 = .ok (.aload_n 0, 1) := by decide +kernel
theorem dX16_way_6 : decode cX16_way 6 = .ok (.iload_n 1, 1) := by decide +kernel
theorem dX16_way_7 : decode cX16_way 7 = .ok (.invokevirtual 341, 3) := by decide +kernel
theorem dX16_way_10 : decode cX16_way 10 = .ok (.ifCond .eq 37, 3) := by decide +kernel
theorem dX16_way_13 : decode cX16_way 13 = .ok (.iload_n 2, 1) := by decide +kernel
theorem dX16_way_14 : decode cX16_way 14 = .ok (.ifCond .lt 33, 3) := by decide +kernel
theorem dX16_way_17 : decode cX16_way 17 = .ok (.iload_n 2, 1) := by decide +kernel
theorem dX16_way_18 : decode cX16_way 18 = .ok (.aload_n 0, 1) := by decide +kernel
theorem dX16_way_19 : decode cX16_way 19 = .ok (.getfield 31, 3) := by decide +kernel
theorem dX16_way_22 : decode cX16_way 22 = .ok (.getfield 226, 3) := by decide +kernel
theorem dX16_way_25 : decode cX16_way 25 = .ok (.iload_n 1, 1) := by decide +kernel
theorem dX16_way_26 : decode cX16_way 26 = .ok (.iaload, 1) := by decide +kernel
theorem dX16_way_27 : decode cX16_way 27 = .ok (.if_icmp .ge 20, 3) := by decide +kernel
theorem dX16_way_30 : decode cX16_way 30 = .ok (.aload_n 0, 1) := by decide +kernel
theorem dX16_way_31 : decode cX16_way 31 = .ok (.getfield 31, 3) := by decide +kernel
theorem dX16_way_34 : decode cX16_way 34 = .ok (.getfield 229, 3) := by decide +kernel
theorem dX16_way_37 : decode cX16_way 37 = .ok (.bipush 16, 2) := by decide +kernel
theorem dX16_way_39 : decode cX16_way 39 = .ok (.iload_n 1, 1) := by decide +kernel
theorem dX16_way_40 : decode cX16_way 40 = .ok (.imul, 1) := by decide +kernel
theorem dX16_way_41 : decode cX16_way 41 = .ok (.iload_n 2, 1) := by decide +kernel
theorem dX16_way_42 : decode cX16_way 42 = .ok (.iadd, 1) := by decide +kernel
theorem dX16_way_43 : decode cX16_way 43 = .ok (.laload, 1) := by decide +kernel
theorem dX16_way_44 : decode cX16_way 44 = .ok (.goto 4, 3) := by decide +kernel
theorem dX16_way_47 : decode cX16_way 47 = .ok (.lconst 0, 1) := by decide +kernel
theorem dX16_way_48 : decode cX16_way 48 = .ok (.lreturn, 1) := by decide +kernel
theorem dX16_need_0 : decode cX16_need 0 = .ok (.aload_n 0, 1) := by decide +kernel
theorem dX16_need_1 : decode cX16_need 1 = .ok (.iconst 0, 1) := by decide +kernel
theorem dX16_need_2 : decode cX16_need 2 = .ok (.putfield 1, 3) := by decide +kernel
theorem dX16_need_5 : decode cX16_need 5 = .ok (.aload_n 0, 1) := by decide +kernel
theorem dX16_need_6 : decode cX16_need 6 = .ok (.iload_n 1, 1) := by decide +kernel
theorem dX16_need_7 : decode cX16_need 7 = .ok (.invokevirtual 341, 3) := by decide +kernel
theorem dX16_need_10 : decode cX16_need 10 = .ok (.ifCond .ne 5, 3) := by decide +kernel
theorem dX16_need_13 : decode cX16_need 13 = .ok (.lconst 0, 1) := by decide +kernel
theorem dX16_need_14 : decode cX16_need 14 = .ok (.lreturn, 1) := by decide +kernel
theorem dX16_need_15 : decode cX16_need 15 = .ok (.ldc2_w 135, 3) := by decide +kernel
theorem dX16_need_18 : decode cX16_need 18 = .ok (.lstore_n 2, 1) := by decide +kernel
theorem dX16_need_19 : decode cX16_need 19 = .ok (.iconst 0, 1) := by decide +kernel
theorem dX16_need_20 : decode cX16_need 20 = .ok (.istore 4, 2) := by decide +kernel
theorem dX16_need_22 : decode cX16_need 22 = .ok (.iload 4, 2) := by decide +kernel
theorem dX16_need_24 : decode cX16_need 24 = .ok (.aload_n 0, 1) := by decide +kernel
theorem dX16_need_25 : decode cX16_need 25 = .ok (.getfield 31, 3) := by decide +kernel
theorem dX16_need_28 : decode cX16_need 28 = .ok (.getfield 226, 3) := by decide +kernel
theorem dX16_need_31 : decode cX16_need 31 = .ok (.iload_n 1, 1) := by decide +kernel
theorem dX16_need_32 : decode cX16_need 32 = .ok (.iaload, 1) := by decide +kernel
theorem dX16_need_33 : decode cX16_need 33 = .ok (.if_icmp .ge 27, 3) := by decide +kernel
theorem dX16_need_36 : decode cX16_need 36 = .ok (.lload_n 2, 1) := by decide +kernel
theorem dX16_need_37 : decode cX16_need 37 = .ok (.aload_n 0, 1) := by decide +kernel
theorem dX16_need_38 : decode cX16_need 38 = .ok (.getfield 31, 3) := by decide +kernel
theorem dX16_need_41 : decode cX16_need 41 = .ok (.getfield 229, 3) := by decide +kernel
theorem dX16_need_44 : decode cX16_need 44 = .ok (.bipush 16, 2) := by decide +kernel
theorem dX16_need_46 : decode cX16_need 46 = .ok (.iload_n 1, 1) := by decide +kernel
theorem dX16_need_47 : decode cX16_need 47 = .ok (.imul, 1) := by decide +kernel
theorem dX16_need_48 : decode cX16_need 48 = .ok (.iload 4, 2) := by decide +kernel
theorem dX16_need_50 : decode cX16_need 50 = .ok (.iadd, 1) := by decide +kernel
theorem dX16_need_51 : decode cX16_need 51 = .ok (.laload, 1) := by decide +kernel
theorem dX16_need_52 : decode cX16_need 52 = .ok (.land, 1) := by decide +kernel
theorem dX16_need_53 : decode cX16_need 53 = .ok (.lstore_n 2, 1) := by decide +kernel
theorem dX16_need_54 : decode cX16_need 54 = .ok (.iinc 4 1, 3) := by decide +kernel
theorem dX16_need_57 : decode cX16_need 57 = .ok (.goto (-35), 3) := by decide +kernel
theorem dX16_need_60 : decode cX16_need 60 = .ok (.lload_n 2, 1) := by decide +kernel
theorem dX16_need_61 : decode cX16_need 61 = .ok (.lreturn, 1) := by decide +kernel
theorem dX16_count_0 : decode cX16_count 0 = .ok (.aload_n 0, 1) := by decide +kernel
theorem dX16_count_1 : decode cX16_count 1 = .ok (.iconst 0, 1) := by decide +kernel
theorem dX16_count_2 : decode cX16_count 2 = .ok (.putfield 1, 3) := by decide +kernel
theorem dX16_count_5 : decode cX16_count 5 = .ok (.aload_n 0, 1) := by decide +kernel
theorem dX16_count_6 : decode cX16_count 6 = .ok (.iload_n 1, 1) := by decide +kernel
theorem dX16_count_7 : decode cX16_count 7 = .ok (.invokevirtual 341, 3) := by decide +kernel
theorem dX16_count_10 : decode cX16_count 10 = .ok (.ifCond .ne 10, 3) := by decide +kernel
theorem dX16_count_13 : decode cX16_count 13 = .ok (.aload_n 0, 1) := by decide +kernel
theorem dX16_count_14 : decode cX16_count 14 = .ok (.iconst 1, 1) := by decide +kernel
theorem dX16_count_15 : decode cX16_count 15 = .ok (.putfield 7, 3) := by decide +kernel
theorem dX16_count_18 : decode cX16_count 18 = .ok (.lconst 0, 1) := by decide +kernel
theorem dX16_count_19 : decode cX16_count 19 = .ok (.lreturn, 1) := by decide +kernel
theorem dX16_count_20 : decode cX16_count 20 = .ok (.aload_n 0, 1) := by decide +kernel
theorem dX16_count_21 : decode cX16_count 21 = .ok (.aload_n 0, 1) := by decide +kernel
theorem dX16_count_22 : decode cX16_count 22 = .ok (.getfield 337, 3) := by decide +kernel
theorem dX16_count_25 : decode cX16_count 25 = .ok (.ifCond .eq 7, 3) := by decide +kernel
theorem dX16_count_28 : decode cX16_count 28 = .ok (.iconst 0, 1) := by decide +kernel
theorem dX16_count_29 : decode cX16_count 29 = .ok (.goto 5, 3) := by decide +kernel
theorem dX16_count_32 : decode cX16_count 32 = .ok (.bipush 6, 2) := by decide +kernel
theorem dX16_count_34 : decode cX16_count 34 = .ok (.putfield 7, 3) := by decide +kernel
theorem dX16_count_37 : decode cX16_count 37 = .ok (.aload_n 0, 1) := by decide +kernel
theorem dX16_count_38 : decode cX16_count 38 = .ok (.getfield 337, 3) := by decide +kernel
theorem dX16_count_41 : decode cX16_count 41 = .ok (.ifCond .eq 15, 3) := by decide +kernel
theorem dX16_count_44 : decode cX16_count 44 = .ok (.aload_n 0, 1) := by decide +kernel
theorem dX16_count_45 : decode cX16_count 45 = .ok (.getfield 31, 3) := by decide +kernel
theorem dX16_count_48 : decode cX16_count 48 = .ok (.getfield 242, 3) := by decide +kernel
theorem dX16_count_51 : decode cX16_count 51 = .ok (.iload_n 1, 1) := by decide +kernel
theorem dX16_count_52 : decode cX16_count 52 = .ok (.laload, 1) := by decide +kernel
theorem dX16_count_53 : decode cX16_count 53 = .ok (.goto 4, 3) := by decide +kernel
theorem dX16_count_56 : decode cX16_count 56 = .ok (.lconst 0, 1) := by decide +kernel
theorem dX16_count_57 : decode cX16_count 57 = .ok (.lreturn, 1) := by decide +kernel
theorem dX16_cost_0 : decode cX16_cost 0 = .ok (.aload_n 0, 1) := by decide +kernel
theorem dX16_cost_1 : decode cX16_cost 1 = .ok (.iconst 0, 1) := by decide +kernel
theorem dX16_cost_2 : decode cX16_cost 2 = .ok (.putfield 1, 3) := by decide +kernel
theorem dX16_cost_5 : decode cX16_cost 5 = .ok (.aload_n 0, 1) := by decide +kernel
theorem dX16_cost_6 : decode cX16_cost 6 = .ok (.iload_n 1, 1) := by decide +kernel
theorem dX16_cost_7 : decode cX16_cost 7 = .ok (.invokevirtual 341, 3) := by decide +kernel
theorem dX16_cost_10 : decode cX16_cost 10 = .ok (.ifCond .eq 19, 3) := by decide +kernel
theorem dX16_cost_13 : decode cX16_cost 13 = .ok (.aload_n 0, 1) := by decide +kernel
theorem dX16_cost_14 : decode cX16_cost 14 = .ok (.aload_n 0, 1) := by decide +kernel
theorem dX16_cost_15 : decode cX16_cost 15 = .ok (.getfield 31, 3) := by decide +kernel
theorem dX16_cost_18 : decode cX16_cost 18 = .ok (.getfield 245, 3) := by decide +kernel
theorem dX16_cost_21 : decode cX16_cost 21 = .ok (.iload_n 1, 1) := by decide +kernel
theorem dX16_cost_22 : decode cX16_cost 22 = .ok (.iaload, 1) := by decide +kernel
theorem dX16_cost_23 : decode cX16_cost 23 = .ok (.invokevirtual 84, 3) := by decide +kernel
theorem dX16_cost_26 : decode cX16_cost 26 = .ok (.goto 8, 3) := by decide +kernel
theorem dX16_cost_29 : decode cX16_cost 29 = .ok (.aload_n 0, 1) := by decide +kernel
theorem dX16_cost_30 : decode cX16_cost 30 = .ok (.iconst 1, 1) := by decide +kernel
theorem dX16_cost_31 : decode cX16_cost 31 = .ok (.invokevirtual 72, 3) := by decide +kernel
theorem dX16_cost_34 : decode cX16_cost 34 = .ok (.ireturn, 1) := by decide +kernel
theorem dX16_trust_0 : decode cX16_trust 0 = .ok (.aload_n 0, 1) := by decide +kernel
theorem dX16_trust_1 : decode cX16_trust 1 = .ok (.iconst 0, 1) := by decide +kernel
theorem dX16_trust_2 : decode cX16_trust 2 = .ok (.putfield 1, 3) := by decide +kernel
theorem dX16_trust_5 : decode cX16_trust 5 = .ok (.aload_n 0, 1) := by decide +kernel
theorem dX16_trust_6 : decode cX16_trust 6 = .ok (.iload_n 1, 1) := by decide +kernel
theorem dX16_trust_7 : decode cX16_trust 7 = .ok (.invokevirtual 341, 3) := by decide +kernel
theorem dX16_trust_10 : decode cX16_trust 10 = .ok (.ifCond .ne 10, 3) := by decide +kernel
theorem dX16_trust_13 : decode cX16_trust 13 = .ok (.aload_n 0, 1) := by decide +kernel
theorem dX16_trust_14 : decode cX16_trust 14 = .ok (.iconst 1, 1) := by decide +kernel
theorem dX16_trust_15 : decode cX16_trust 15 = .ok (.invokevirtual 72, 3) := by decide +kernel
theorem dX16_trust_18 : decode cX16_trust 18 = .ok (.i2l, 1) := by decide +kernel
theorem dX16_trust_19 : decode cX16_trust 19 = .ok (.lreturn, 1) := by decide +kernel
theorem dX16_trust_20 : decode cX16_trust 20 = .ok (.aload_n 0, 1) := by decide +kernel
theorem dX16_trust_21 : decode cX16_trust 21 = .ok (.iconst 0, 1) := by decide +kernel
theorem dX16_trust_22 : decode cX16_trust 22 = .ok (.putfield 7, 3) := by decide +kernel
theorem dX16_trust_25 : decode cX16_trust 25 = .ok (.aload_n 0, 1) := by decide +kernel
theorem dX16_trust_26 : decode cX16_trust 26 = .ok (.getfield 31, 3) := by decide +kernel
theorem dX16_trust_29 : decode cX16_trust 29 = .ok (.getfield 249, 3) := by decide +kernel
theorem dX16_trust_32 : decode cX16_trust 32 = .ok (.iload_n 1, 1) := by decide +kernel
theorem dX16_trust_33 : decode cX16_trust 33 = .ok (.daload, 1) := by decide +kernel
theorem dX16_trust_34 : decode cX16_trust 34 = .ok (.invokestatic 113, 3) := by decide +kernel
theorem dX16_trust_37 : decode cX16_trust 37 = .ok (.lreturn, 1) := by decide +kernel
theorem dX16_stays_0 : decode cX16_stays 0 = .ok (.aload_n 0, 1) := by decide +kernel
theorem dX16_stays_1 : decode cX16_stays 1 = .ok (.iconst 0, 1) := by decide +kernel
theorem dX16_stays_2 : decode cX16_stays 2 = .ok (.putfield 1, 3) := by decide +kernel
theorem dX16_stays_5 : decode cX16_stays 5 = .ok (.aload_n 0, 1) := by decide +kernel
theorem dX16_stays_6 : decode cX16_stays 6 = .ok (.iload_n 1, 1) := by decide +kernel
theorem dX16_stays_7 : decode cX16_stays 7 = .ok (.invokevirtual 341, 3) := by decide +kernel
theorem dX16_stays_10 : decode cX16_stays 10 = .ok (.ifCond .eq 27, 3) := by decide +kernel
theorem dX16_stays_13 : decode cX16_stays 13 = .ok (.aload_n 0, 1) := by decide +kernel
theorem dX16_stays_14 : decode cX16_stays 14 = .ok (.aload_n 0, 1) := by decide +kernel
theorem dX16_stays_15 : decode cX16_stays 15 = .ok (.aload_n 0, 1) := by decide +kernel
theorem dX16_stays_16 : decode cX16_stays 16 = .ok (.getfield 31, 3) := by decide +kernel
theorem dX16_stays_19 : decode cX16_stays 19 = .ok (.iload_n 1, 1) := by decide +kernel
theorem dX16_stays_20 : decode cX16_stays 20 = .ok (.invokevirtual 307, 3) := by decide +kernel
theorem dX16_stays_23 : decode cX16_stays 23 = .ok (.ifCond .eq 7, 3) := by decide +kernel
theorem dX16_stays_26 : decode cX16_stays 26 = .ok (.iconst 1, 1) := by decide +kernel
theorem dX16_stays_27 : decode cX16_stays 27 = .ok (.goto 4, 3) := by decide +kernel
theorem dX16_stays_30 : decode cX16_stays 30 = .ok (.iconst 0, 1) := by decide +kernel
theorem dX16_stays_31 : decode cX16_stays 31 = .ok (.invokevirtual 84, 3) := by decide +kernel
theorem dX16_stays_34 : decode cX16_stays 34 = .ok (.goto 8, 3) := by decide +kernel
theorem dX16_stays_37 : decode cX16_stays 37 = .ok (.aload_n 0, 1) := by decide +kernel
theorem dX16_stays_38 : decode cX16_stays 38 = .ok (.iconst 1, 1) := by decide +kernel
theorem dX16_stays_39 : decode cX16_stays 39 = .ok (.invokevirtual 72, 3) := by decide +kernel
theorem dX16_stays_42 : decode cX16_stays 42 = .ok (.ireturn, 1) := by decide +kernel
theorem dX16_isMade_0 : decode cX16_isMade 0 = .ok (.iconst 0, 1) := by decide +kernel
theorem dX16_isMade_1 : decode cX16_isMade 1 = .ok (.istore 4, 2) := by decide +kernel
theorem dX16_isMade_3 : decode cX16_isMade 3 = .ok (.iconst 0, 1) := by decide +kernel
theorem dX16_isMade_4 : decode cX16_isMade 4 = .ok (.istore 5, 2) := by decide +kernel
theorem dX16_isMade_6 : decode cX16_isMade 6 = .ok (.iload 5, 2) := by decide +kernel
theorem dX16_isMade_8 : decode cX16_isMade 8 = .ok (.aload_n 0, 1) := by decide +kernel
theorem dX16_isMade_9 : decode cX16_isMade 9 = .ok (.getfield 31, 3) := by decide +kernel
theorem dX16_isMade_12 : decode cX16_isMade 12 = .ok (.getfield 226, 3) := by decide +kernel
theorem dX16_isMade_15 : decode cX16_isMade 15 = .ok (.iload_n 1, 1) := by decide +kernel
theorem dX16_isMade_16 : decode cX16_isMade 16 = .ok (.iaload, 1) := by decide +kernel
theorem dX16_isMade_17 : decode cX16_isMade 17 = .ok (.if_icmp .ge 47, 3) := by decide +kernel
theorem dX16_isMade_20 : decode cX16_isMade 20 = .ok (.iload 4, 2) := by decide +kernel
theorem dX16_isMade_22 : decode cX16_isMade 22 = .ok (.ifCond .ne 29, 3) := by decide +kernel
theorem dX16_isMade_25 : decode cX16_isMade 25 = .ok (.aload_n 0, 1) := by decide +kernel
theorem dX16_isMade_26 : decode cX16_isMade 26 = .ok (.getfield 31, 3) := by decide +kernel
theorem dX16_isMade_29 : decode cX16_isMade 29 = .ok (.getfield 229, 3) := by decide +kernel
theorem dX16_isMade_32 : decode cX16_isMade 32 = .ok (.bipush 16, 2) := by decide +kernel
theorem dX16_isMade_34 : decode cX16_isMade 34 = .ok (.iload_n 1, 1) := by decide +kernel
theorem dX16_isMade_35 : decode cX16_isMade 35 = .ok (.imul, 1) := by decide +kernel
theorem dX16_isMade_36 : decode cX16_isMade 36 = .ok (.iload 5, 2) := by decide +kernel
theorem dX16_isMade_38 : decode cX16_isMade 38 = .ok (.iadd, 1) := by decide +kernel
theorem dX16_isMade_39 : decode cX16_isMade 39 = .ok (.laload, 1) := by decide +kernel
theorem dX16_isMade_40 : decode cX16_isMade 40 = .ok (.lload_n 2, 1) := by decide +kernel
theorem dX16_isMade_41 : decode cX16_isMade 41 = .ok (.ldc2_w 135, 3) := by decide +kernel
theorem dX16_isMade_44 : decode cX16_isMade 44 = .ok (.lxor, 1) := by decide +kernel
theorem dX16_isMade_45 : decode cX16_isMade 45 = .ok (.land, 1) := by decide +kernel
theorem dX16_isMade_46 : decode cX16_isMade 46 = .ok (.lconst 0, 1) := by decide +kernel
theorem dX16_isMade_47 : decode cX16_isMade 47 = .ok (.lcmp, 1) := by decide +kernel
theorem dX16_isMade_48 : decode cX16_isMade 48 = .ok (.ifCond .ne 7, 3) := by decide +kernel
theorem dX16_isMade_51 : decode cX16_isMade 51 = .ok (.iconst 1, 1) := by decide +kernel
theorem dX16_isMade_52 : decode cX16_isMade 52 = .ok (.goto 4, 3) := by decide +kernel
theorem dX16_isMade_55 : decode cX16_isMade 55 = .ok (.iconst 0, 1) := by decide +kernel
theorem dX16_isMade_56 : decode cX16_isMade 56 = .ok (.istore 4, 2) := by decide +kernel
theorem dX16_isMade_58 : decode cX16_isMade 58 = .ok (.iinc 5 1, 3) := by decide +kernel
theorem dX16_isMade_61 : decode cX16_isMade 61 = .ok (.goto (-55), 3) := by decide +kernel
theorem dX16_isMade_64 : decode cX16_isMade 64 = .ok (.iload 4, 2) := by decide +kernel
theorem dX16_isMade_66 : decode cX16_isMade 66 = .ok (.ireturn, 1) := by decide +kernel
theorem dX16_without_0 : decode cX16_without 0 = .ok (.aload_n 0, 1) := by decide +kernel
theorem dX16_without_1 : decode cX16_without 1 = .ok (.iconst 0, 1) := by decide +kernel
theorem dX16_without_2 : decode cX16_without 2 = .ok (.putfield 1, 3) := by decide +kernel
theorem dX16_without_5 : decode cX16_without 5 = .ok (.iconst 0, 1) := by decide +kernel
theorem dX16_without_6 : decode cX16_without 6 = .ok (.istore_n 3, 1) := by decide +kernel
theorem dX16_without_7 : decode cX16_without 7 = .ok (.iconst 0, 1) := by decide +kernel
theorem dX16_without_8 : decode cX16_without 8 = .ok (.istore 4, 2) := by decide +kernel
theorem dX16_without_10 : decode cX16_without 10 = .ok (.iload 4, 2) := by decide +kernel
theorem dX16_without_12 : decode cX16_without 12 = .ok (.aload_n 0, 1) := by decide +kernel
theorem dX16_without_13 : decode cX16_without 13 = .ok (.getfield 31, 3) := by decide +kernel
theorem dX16_without_16 : decode cX16_without 16 = .ok (.getfield 35, 3) := by decide +kernel
theorem dX16_without_19 : decode cX16_without 19 = .ok (.if_icmp .ge 27, 3) := by decide +kernel
theorem dX16_without_22 : decode cX16_without 22 = .ok (.iload_n 3, 1) := by decide +kernel
theorem dX16_without_23 : decode cX16_without 23 = .ok (.aload_n 0, 1) := by decide +kernel
theorem dX16_without_24 : decode cX16_without 24 = .ok (.iload 4, 2) := by decide +kernel
theorem dX16_without_26 : decode cX16_without 26 = .ok (.lload_n 1, 1) := by decide +kernel
theorem dX16_without_27 : decode cX16_without 27 = .ok (.invokevirtual 344, 3) := by decide +kernel
theorem dX16_without_30 : decode cX16_without 30 = .ok (.ifCond .eq 7, 3) := by decide +kernel
theorem dX16_without_33 : decode cX16_without 33 = .ok (.iconst 0, 1) := by decide +kernel
theorem dX16_without_34 : decode cX16_without 34 = .ok (.goto 4, 3) := by decide +kernel
theorem dX16_without_37 : decode cX16_without 37 = .ok (.iconst 1, 1) := by decide +kernel
theorem dX16_without_38 : decode cX16_without 38 = .ok (.iadd, 1) := by decide +kernel
theorem dX16_without_39 : decode cX16_without 39 = .ok (.istore_n 3, 1) := by decide +kernel
theorem dX16_without_40 : decode cX16_without 40 = .ok (.iinc 4 1, 3) := by decide +kernel
theorem dX16_without_43 : decode cX16_without 43 = .ok (.goto (-33), 3) := by decide +kernel
theorem dX16_without_46 : decode cX16_without 46 = .ok (.iload_n 3, 1) := by decide +kernel
theorem dX16_without_47 : decode cX16_without 47 = .ok (.ireturn, 1) := by decide +kernel
theorem dX16_with_0 : decode cX16_with 0 = .ok (.aload_n 0, 1) := by decide +kernel
theorem dX16_with_1 : decode cX16_with 1 = .ok (.iconst 0, 1) := by decide +kernel
theorem dX16_with_2 : decode cX16_with 2 = .ok (.putfield 1, 3) := by decide +kernel
theorem dX16_with_5 : decode cX16_with 5 = .ok (.aload_n 0, 1) := by decide +kernel
theorem dX16_with_6 : decode cX16_with 6 = .ok (.iload_n 1, 1) := by decide +kernel
theorem dX16_with_7 : decode cX16_with 7 = .ok (.invokevirtual 341, 3) := by decide +kernel
theorem dX16_with_10 : decode cX16_with 10 = .ok (.ifCond .eq 24, 3) := by decide +kernel
theorem dX16_with_13 : decode cX16_with 13 = .ok (.aload_n 0, 1) := by decide +kernel
theorem dX16_with_14 : decode cX16_with 14 = .ok (.aload_n 0, 1) := by decide +kernel
theorem dX16_with_15 : decode cX16_with 15 = .ok (.iload_n 1, 1) := by decide +kernel
theorem dX16_with_16 : decode cX16_with 16 = .ok (.lload_n 2, 1) := by decide +kernel
theorem dX16_with_17 : decode cX16_with 17 = .ok (.invokevirtual 344, 3) := by decide +kernel
theorem dX16_with_20 : decode cX16_with 20 = .ok (.ifCond .eq 7, 3) := by decide +kernel
theorem dX16_with_23 : decode cX16_with 23 = .ok (.iconst 1, 1) := by decide +kernel
theorem dX16_with_24 : decode cX16_with 24 = .ok (.goto 4, 3) := by decide +kernel
theorem dX16_with_27 : decode cX16_with 27 = .ok (.iconst 0, 1) := by decide +kernel
theorem dX16_with_28 : decode cX16_with 28 = .ok (.invokevirtual 84, 3) := by decide +kernel
theorem dX16_with_31 : decode cX16_with 31 = .ok (.goto 8, 3) := by decide +kernel
theorem dX16_with_34 : decode cX16_with 34 = .ok (.aload_n 0, 1) := by decide +kernel
theorem dX16_with_35 : decode cX16_with 35 = .ok (.iconst 1, 1) := by decide +kernel
theorem dX16_with_36 : decode cX16_with 36 = .ok (.invokevirtual 72, 3) := by decide +kernel
theorem dX16_with_39 : decode cX16_with 39 = .ok (.ireturn, 1) := by decide +kernel
theorem dX16_isFew_0 : decode cX16_isFew 0 = .ok (.lconst 0, 1) := by decide +kernel
theorem dX16_isFew_1 : decode cX16_isFew 1 = .ok (.lstore_n 2, 1) := by decide +kernel
theorem dX16_isFew_2 : decode cX16_isFew 2 = .ok (.iconst 0, 1) := by decide +kernel
theorem dX16_isFew_3 : decode cX16_isFew 3 = .ok (.istore 4, 2) := by decide +kernel
theorem dX16_isFew_5 : decode cX16_isFew 5 = .ok (.iload 4, 2) := by decide +kernel
theorem dX16_isFew_7 : decode cX16_isFew 7 = .ok (.aload_n 0, 1) := by decide +kernel
theorem dX16_isFew_8 : decode cX16_isFew 8 = .ok (.getfield 31, 3) := by decide +kernel
theorem dX16_isFew_11 : decode cX16_isFew 11 = .ok (.getfield 226, 3) := by decide +kernel
theorem dX16_isFew_14 : decode cX16_isFew 14 = .ok (.iload_n 1, 1) := by decide +kernel
theorem dX16_isFew_15 : decode cX16_isFew 15 = .ok (.iaload, 1) := by decide +kernel
theorem dX16_isFew_16 : decode cX16_isFew 16 = .ok (.if_icmp .ge 27, 3) := by decide +kernel
theorem dX16_isFew_19 : decode cX16_isFew 19 = .ok (.lload_n 2, 1) := by decide +kernel
theorem dX16_isFew_20 : decode cX16_isFew 20 = .ok (.aload_n 0, 1) := by decide +kernel
theorem dX16_isFew_21 : decode cX16_isFew 21 = .ok (.getfield 31, 3) := by decide +kernel
theorem dX16_isFew_24 : decode cX16_isFew 24 = .ok (.getfield 229, 3) := by decide +kernel
theorem dX16_isFew_27 : decode cX16_isFew 27 = .ok (.bipush 16, 2) := by decide +kernel
theorem dX16_isFew_29 : decode cX16_isFew 29 = .ok (.iload_n 1, 1) := by decide +kernel
theorem dX16_isFew_30 : decode cX16_isFew 30 = .ok (.imul, 1) := by decide +kernel
theorem dX16_isFew_31 : decode cX16_isFew 31 = .ok (.iload 4, 2) := by decide +kernel
theorem dX16_isFew_33 : decode cX16_isFew 33 = .ok (.iadd, 1) := by decide +kernel
theorem dX16_isFew_34 : decode cX16_isFew 34 = .ok (.laload, 1) := by decide +kernel
theorem dX16_isFew_35 : decode cX16_isFew 35 = .ok (.lor, 1) := by decide +kernel
theorem dX16_isFew_36 : decode cX16_isFew 36 = .ok (.lstore_n 2, 1) := by decide +kernel
theorem dX16_isFew_37 : decode cX16_isFew 37 = .ok (.iinc 4 1, 3) := by decide +kernel
theorem dX16_isFew_40 : decode cX16_isFew 40 = .ok (.goto (-35), 3) := by decide +kernel
theorem dX16_isFew_43 : decode cX16_isFew 43 = .ok (.aload_n 0, 1) := by decide +kernel
theorem dX16_isFew_44 : decode cX16_isFew 44 = .ok (.iconst 0, 1) := by decide +kernel
theorem dX16_isFew_45 : decode cX16_isFew 45 = .ok (.putfield 348, 3) := by decide +kernel
theorem dX16_isFew_48 : decode cX16_isFew 48 = .ok (.iconst 0, 1) := by decide +kernel
theorem dX16_isFew_49 : decode cX16_isFew 49 = .ok (.istore 4, 2) := by decide +kernel
theorem dX16_isFew_51 : decode cX16_isFew 51 = .ok (.iload 4, 2) := by decide +kernel
theorem dX16_isFew_53 : decode cX16_isFew 53 = .ok (.bipush 60, 2) := by decide +kernel
theorem dX16_isFew_55 : decode cX16_isFew 55 = .ok (.if_icmp .ge 55, 3) := by decide +kernel
theorem dX16_isFew_58 : decode cX16_isFew 58 = .ok (.lload_n 2, 1) := by decide +kernel
theorem dX16_isFew_59 : decode cX16_isFew 59 = .ok (.iload 4, 2) := by decide +kernel
theorem dX16_isFew_61 : decode cX16_isFew 61 = .ok (.lshr, 1) := by decide +kernel
theorem dX16_isFew_62 : decode cX16_isFew 62 = .ok (.lconst 1, 1) := by decide +kernel
theorem dX16_isFew_63 : decode cX16_isFew 63 = .ok (.land, 1) := by decide +kernel
theorem dX16_isFew_64 : decode cX16_isFew 64 = .ok (.lconst 0, 1) := by decide +kernel
theorem dX16_isFew_65 : decode cX16_isFew 65 = .ok (.lcmp, 1) := by decide +kernel
theorem dX16_isFew_66 : decode cX16_isFew 66 = .ok (.ifCond .ne 6, 3) := by decide +kernel
theorem dX16_isFew_69 : decode cX16_isFew 69 = .ok (.goto 35, 3) := by decide +kernel
theorem dX16_isFew_72 : decode cX16_isFew 72 = .ok (.aload_n 0, 1) := by decide +kernel
theorem dX16_isFew_73 : decode cX16_isFew 73 = .ok (.getfield 348, 3) := by decide +kernel
theorem dX16_isFew_76 : decode cX16_isFew 76 = .ok (.bipush 16, 2) := by decide +kernel
theorem dX16_isFew_78 : decode cX16_isFew 78 = .ok (.if_icmp .ne 5, 3) := by decide +kernel
theorem dX16_isFew_81 : decode cX16_isFew 81 = .ok (.iconst 0, 1) := by decide +kernel
theorem dX16_isFew_82 : decode cX16_isFew 82 = .ok (.ireturn, 1) := by decide +kernel
theorem dX16_isFew_83 : decode cX16_isFew 83 = .ok (.aload_n 0, 1) := by decide +kernel
theorem dX16_isFew_84 : decode cX16_isFew 84 = .ok (.getfield 212, 3) := by decide +kernel
theorem dX16_isFew_87 : decode cX16_isFew 87 = .ok (.aload_n 0, 1) := by decide +kernel
theorem dX16_isFew_88 : decode cX16_isFew 88 = .ok (.getfield 348, 3) := by decide +kernel
theorem dX16_isFew_91 : decode cX16_isFew 91 = .ok (.iload 4, 2) := by decide +kernel
theorem dX16_isFew_93 : decode cX16_isFew 93 = .ok (.iastore, 1) := by decide +kernel
theorem dX16_isFew_94 : decode cX16_isFew 94 = .ok (.aload_n 0, 1) := by decide +kernel
theorem dX16_isFew_95 : decode cX16_isFew 95 = .ok (.dup, 1) := by decide +kernel
theorem dX16_isFew_96 : decode cX16_isFew 96 = .ok (.getfield 348, 3) := by decide +kernel
theorem dX16_isFew_99 : decode cX16_isFew 99 = .ok (.iconst 1, 1) := by decide +kernel
theorem dX16_isFew_100 : decode cX16_isFew 100 = .ok (.iadd, 1) := by decide +kernel
theorem dX16_isFew_101 : decode cX16_isFew 101 = .ok (.putfield 348, 3) := by decide +kernel
theorem dX16_isFew_104 : decode cX16_isFew 104 = .ok (.iinc 4 1, 3) := by decide +kernel
theorem dX16_isFew_107 : decode cX16_isFew 107 = .ok (.goto (-56), 3) := by decide +kernel
theorem dX16_isFew_110 : decode cX16_isFew 110 = .ok (.iconst 0, 1) := by decide +kernel
theorem dX16_isFew_111 : decode cX16_isFew 111 = .ok (.istore 4, 2) := by decide +kernel
theorem dX16_isFew_113 : decode cX16_isFew 113 = .ok (.iload 4, 2) := by decide +kernel
theorem dX16_isFew_115 : decode cX16_isFew 115 = .ok (.aload_n 0, 1) := by decide +kernel
theorem dX16_isFew_116 : decode cX16_isFew 116 = .ok (.getfield 31, 3) := by decide +kernel
theorem dX16_isFew_119 : decode cX16_isFew 119 = .ok (.getfield 226, 3) := by decide +kernel
theorem dX16_isFew_122 : decode cX16_isFew 122 = .ok (.iload_n 1, 1) := by decide +kernel
theorem dX16_isFew_123 : decode cX16_isFew 123 = .ok (.iaload, 1) := by decide +kernel
theorem dX16_isFew_124 : decode cX16_isFew 124 = .ok (.if_icmp .ge 79, 3) := by decide +kernel
theorem dX16_isFew_127 : decode cX16_isFew 127 = .ok (.aload_n 0, 1) := by decide +kernel
theorem dX16_isFew_128 : decode cX16_isFew 128 = .ok (.getfield 215, 3) := by decide +kernel
theorem dX16_isFew_131 : decode cX16_isFew 131 = .ok (.iload 4, 2) := by decide +kernel
theorem dX16_isFew_133 : decode cX16_isFew 133 = .ok (.iconst 0, 1) := by decide +kernel
theorem dX16_isFew_134 : decode cX16_isFew 134 = .ok (.iastore, 1) := by decide +kernel
theorem dX16_isFew_135 : decode cX16_isFew 135 = .ok (.iconst 0, 1) := by decide +kernel
theorem dX16_isFew_136 : decode cX16_isFew 136 = .ok (.istore 5, 2) := by decide +kernel
theorem dX16_isFew_138 : decode cX16_isFew 138 = .ok (.iload 5, 2) := by decide +kernel
theorem dX16_isFew_140 : decode cX16_isFew 140 = .ok (.aload_n 0, 1) := by decide +kernel
theorem dX16_isFew_141 : decode cX16_isFew 141 = .ok (.getfield 348, 3) := by decide +kernel
theorem dX16_isFew_144 : decode cX16_isFew 144 = .ok (.if_icmp .ge 53, 3) := by decide +kernel
theorem dX16_isFew_147 : decode cX16_isFew 147 = .ok (.aload_n 0, 1) := by decide +kernel
theorem dX16_isFew_148 : decode cX16_isFew 148 = .ok (.getfield 31, 3) := by decide +kernel
theorem dX16_isFew_151 : decode cX16_isFew 151 = .ok (.getfield 229, 3) := by decide +kernel
theorem dX16_isFew_154 : decode cX16_isFew 154 = .ok (.bipush 16, 2) := by decide +kernel
theorem dX16_isFew_156 : decode cX16_isFew 156 = .ok (.iload_n 1, 1) := by decide +kernel
theorem dX16_isFew_157 : decode cX16_isFew 157 = .ok (.imul, 1) := by decide +kernel
theorem dX16_isFew_158 : decode cX16_isFew 158 = .ok (.iload 4, 2) := by decide +kernel
theorem dX16_isFew_160 : decode cX16_isFew 160 = .ok (.iadd, 1) := by decide +kernel
theorem dX16_isFew_161 : decode cX16_isFew 161 = .ok (.laload, 1) := by decide +kernel
theorem dX16_isFew_162 : decode cX16_isFew 162 = .ok (.aload_n 0, 1) := by decide +kernel
theorem dX16_isFew_163 : decode cX16_isFew 163 = .ok (.getfield 212, 3) := by decide +kernel
theorem dX16_isFew_166 : decode cX16_isFew 166 = .ok (.iload 5, 2) := by decide +kernel
theorem dX16_isFew_168 : decode cX16_isFew 168 = .ok (.iaload, 1) := by decide +kernel
theorem dX16_isFew_169 : decode cX16_isFew 169 = .ok (.lshr, 1) := by decide +kernel
theorem dX16_isFew_170 : decode cX16_isFew 170 = .ok (.lconst 1, 1) := by decide +kernel
theorem dX16_isFew_171 : decode cX16_isFew 171 = .ok (.land, 1) := by decide +kernel
theorem dX16_isFew_172 : decode cX16_isFew 172 = .ok (.lconst 1, 1) := by decide +kernel
theorem dX16_isFew_173 : decode cX16_isFew 173 = .ok (.lcmp, 1) := by decide +kernel
theorem dX16_isFew_174 : decode cX16_isFew 174 = .ok (.ifCond .ne 17, 3) := by decide +kernel
theorem dX16_isFew_177 : decode cX16_isFew 177 = .ok (.aload_n 0, 1) := by decide +kernel
theorem dX16_isFew_178 : decode cX16_isFew 178 = .ok (.getfield 215, 3) := by decide +kernel
theorem dX16_isFew_181 : decode cX16_isFew 181 = .ok (.iload 4, 2) := by decide +kernel
theorem dX16_isFew_183 : decode cX16_isFew 183 = .ok (.dup2, 1) := by decide +kernel
theorem dX16_isFew_184 : decode cX16_isFew 184 = .ok (.iaload, 1) := by decide +kernel
theorem dX16_isFew_185 : decode cX16_isFew 185 = .ok (.iconst 1, 1) := by decide +kernel
theorem dX16_isFew_186 : decode cX16_isFew 186 = .ok (.iload 5, 2) := by decide +kernel
theorem dX16_isFew_188 : decode cX16_isFew 188 = .ok (.ishl, 1) := by decide +kernel
theorem dX16_isFew_189 : decode cX16_isFew 189 = .ok (.ior, 1) := by decide +kernel
theorem dX16_isFew_190 : decode cX16_isFew 190 = .ok (.iastore, 1) := by decide +kernel
theorem dX16_isFew_191 : decode cX16_isFew 191 = .ok (.iinc 5 1, 3) := by decide +kernel
theorem dX16_isFew_194 : decode cX16_isFew 194 = .ok (.goto (-56), 3) := by decide +kernel
theorem dX16_isFew_197 : decode cX16_isFew 197 = .ok (.iinc 4 1, 3) := by decide +kernel
theorem dX16_isFew_200 : decode cX16_isFew 200 = .ok (.goto (-87), 3) := by decide +kernel
theorem dX16_isFew_203 : decode cX16_isFew 203 = .ok (.iconst 1, 1) := by decide +kernel
theorem dX16_isFew_204 : decode cX16_isFew 204 = .ok (.ireturn, 1) := by decide +kernel
theorem dX16_isWhole_0 : decode cX16_isWhole 0 = .ok (.iconst 0, 1) := by decide +kernel
theorem dX16_isWhole_1 : decode cX16_isWhole 1 = .ok (.istore_n 3, 1) := by decide +kernel
theorem dX16_isWhole_2 : decode cX16_isWhole 2 = .ok (.iconst 0, 1) := by decide +kernel
theorem dX16_isWhole_3 : decode cX16_isWhole 3 = .ok (.istore 4, 2) := by decide +kernel
theorem dX16_isWhole_5 : decode cX16_isWhole 5 = .ok (.iload 4, 2) := by decide +kernel
theorem dX16_isWhole_7 : decode cX16_isWhole 7 = .ok (.iload_n 2, 1) := by decide +kernel
theorem dX16_isWhole_8 : decode cX16_isWhole 8 = .ok (.if_icmp .ge 33, 3) := by decide +kernel
theorem dX16_isWhole_11 : decode cX16_isWhole 11 = .ok (.iload_n 3, 1) := by decide +kernel
theorem dX16_isWhole_12 : decode cX16_isWhole 12 = .ok (.ifCond .ne 29, 3) := by decide +kernel
theorem dX16_isWhole_15 : decode cX16_isWhole 15 = .ok (.aload_n 0, 1) := by decide +kernel
theorem dX16_isWhole_16 : decode cX16_isWhole 16 = .ok (.getfield 215, 3) := by decide +kernel
theorem dX16_isWhole_19 : decode cX16_isWhole 19 = .ok (.iload 4, 2) := by decide +kernel
theorem dX16_isWhole_21 : decode cX16_isWhole 21 = .ok (.iaload, 1) := by decide +kernel
theorem dX16_isWhole_22 : decode cX16_isWhole 22 = .ok (.iload_n 1, 1) := by decide +kernel
theorem dX16_isWhole_23 : decode cX16_isWhole 23 = .ok (.iconst (-1), 1) := by decide +kernel
theorem dX16_isWhole_24 : decode cX16_isWhole 24 = .ok (.ixor, 1) := by decide +kernel
theorem dX16_isWhole_25 : decode cX16_isWhole 25 = .ok (.iand, 1) := by decide +kernel
theorem dX16_isWhole_26 : decode cX16_isWhole 26 = .ok (.ifCond .ne 7, 3) := by decide +kernel
theorem dX16_isWhole_29 : decode cX16_isWhole 29 = .ok (.iconst 1, 1) := by decide +kernel
theorem dX16_isWhole_30 : decode cX16_isWhole 30 = .ok (.goto 4, 3) := by decide +kernel
theorem dX16_isWhole_33 : decode cX16_isWhole 33 = .ok (.iconst 0, 1) := by decide +kernel
theorem dX16_isWhole_34 : decode cX16_isWhole 34 = .ok (.istore_n 3, 1) := by decide +kernel
theorem dX16_isWhole_35 : decode cX16_isWhole 35 = .ok (.iinc 4 1, 3) := by decide +kernel
theorem dX16_isWhole_38 : decode cX16_isWhole 38 = .ok (.goto (-33), 3) := by decide +kernel
theorem dX16_isWhole_41 : decode cX16_isWhole 41 = .ok (.iload_n 3, 1) := by decide +kernel
theorem dX16_isWhole_42 : decode cX16_isWhole 42 = .ok (.ireturn, 1) := by decide +kernel
theorem dX16_chances_0 : decode cX16_chances 0 = .ok (.lconst 0, 1) := by decide +kernel
theorem dX16_chances_1 : decode cX16_chances 1 = .ok (.lstore_n 2, 1) := by decide +kernel
theorem dX16_chances_2 : decode cX16_chances 2 = .ok (.iconst 0, 1) := by decide +kernel
theorem dX16_chances_3 : decode cX16_chances 3 = .ok (.istore 4, 2) := by decide +kernel
theorem dX16_chances_5 : decode cX16_chances 5 = .ok (.iload 4, 2) := by decide +kernel
theorem dX16_chances_7 : decode cX16_chances 7 = .ok (.iconst 1, 1) := by decide +kernel
theorem dX16_chances_8 : decode cX16_chances 8 = .ok (.aload_n 0, 1) := by decide +kernel
theorem dX16_chances_9 : decode cX16_chances 9 = .ok (.getfield 348, 3) := by decide +kernel
theorem dX16_chances_12 : decode cX16_chances 12 = .ok (.ishl, 1) := by decide +kernel
theorem dX16_chances_13 : decode cX16_chances 13 = .ok (.if_icmp .ge 96, 3) := by decide +kernel
theorem dX16_chances_16 : decode cX16_chances 16 = .ok (.aload_n 0, 1) := by decide +kernel
theorem dX16_chances_17 : decode cX16_chances 17 = .ok (.iload 4, 2) := by decide +kernel
theorem dX16_chances_19 : decode cX16_chances 19 = .ok (.iload_n 1, 1) := by decide +kernel
theorem dX16_chances_20 : decode cX16_chances 20 = .ok (.invokevirtual 351, 3) := by decide +kernel
theorem dX16_chances_23 : decode cX16_chances 23 = .ok (.ifCond .ne 6, 3) := by decide +kernel
theorem dX16_chances_26 : decode cX16_chances 26 = .ok (.goto 77, 3) := by decide +kernel
theorem dX16_chances_29 : decode cX16_chances 29 = .ok (.lconst 1, 1) := by decide +kernel
theorem dX16_chances_30 : decode cX16_chances 30 = .ok (.iconst 3, 1) := by decide +kernel
theorem dX16_chances_31 : decode cX16_chances 31 = .ok (.bipush 16, 2) := by decide +kernel
theorem dX16_chances_33 : decode cX16_chances 33 = .ok (.aload_n 0, 1) := by decide +kernel
theorem dX16_chances_34 : decode cX16_chances 34 = .ok (.getfield 348, 3) := by decide +kernel
theorem dX16_chances_37 : decode cX16_chances 37 = .ok (.isub, 1) := by decide +kernel
theorem dX16_chances_38 : decode cX16_chances 38 = .ok (.imul, 1) := by decide +kernel
theorem dX16_chances_39 : decode cX16_chances 39 = .ok (.lshl, 1) := by decide +kernel
theorem dX16_chances_40 : decode cX16_chances 40 = .ok (.lstore 5, 2) := by decide +kernel
theorem dX16_chances_42 : decode cX16_chances 42 = .ok (.iconst 0, 1) := by decide +kernel
theorem dX16_chances_43 : decode cX16_chances 43 = .ok (.istore 7, 2) := by decide +kernel
theorem dX16_chances_45 : decode cX16_chances 45 = .ok (.iload 7, 2) := by decide +kernel
theorem dX16_chances_47 : decode cX16_chances 47 = .ok (.aload_n 0, 1) := by decide +kernel
theorem dX16_chances_48 : decode cX16_chances 48 = .ok (.getfield 348, 3) := by decide +kernel
theorem dX16_chances_51 : decode cX16_chances 51 = .ok (.if_icmp .ge 47, 3) := by decide +kernel
theorem dX16_chances_54 : decode cX16_chances 54 = .ok (.lload 5, 2) := by decide +kernel
theorem dX16_chances_56 : decode cX16_chances 56 = .ok (.iload 4, 2) := by decide +kernel
theorem dX16_chances_58 : decode cX16_chances 58 = .ok (.iload 7, 2) := by decide +kernel
theorem dX16_chances_60 : decode cX16_chances 60 = .ok (.ishr, 1) := by decide +kernel
theorem dX16_chances_61 : decode cX16_chances 61 = .ok (.iconst 1, 1) := by decide +kernel
theorem dX16_chances_62 : decode cX16_chances 62 = .ok (.iand, 1) := by decide +kernel
theorem dX16_chances_63 : decode cX16_chances 63 = .ok (.iconst 1, 1) := by decide +kernel
theorem dX16_chances_64 : decode cX16_chances 64 = .ok (.if_icmp .ne 14, 3) := by decide +kernel
theorem dX16_chances_67 : decode cX16_chances 67 = .ok (.aload_n 0, 1) := by decide +kernel
theorem dX16_chances_68 : decode cX16_chances 68 = .ok (.getfield 218, 3) := by decide +kernel
theorem dX16_chances_71 : decode cX16_chances 71 = .ok (.iload 7, 2) := by decide +kernel
theorem dX16_chances_73 : decode cX16_chances 73 = .ok (.iaload, 1) := by decide +kernel
theorem dX16_chances_74 : decode cX16_chances 74 = .ok (.i2l, 1) := by decide +kernel
theorem dX16_chances_75 : decode cX16_chances 75 = .ok (.goto 14, 3) := by decide +kernel
theorem dX16_chances_78 : decode cX16_chances 78 = .ok (.bipush 8, 2) := by decide +kernel
theorem dX16_chances_80 : decode cX16_chances 80 = .ok (.aload_n 0, 1) := by decide +kernel
theorem dX16_chances_81 : decode cX16_chances 81 = .ok (.getfield 218, 3) := by decide +kernel
theorem dX16_chances_84 : decode cX16_chances 84 = .ok (.iload 7, 2) := by decide +kernel
theorem dX16_chances_86 : decode cX16_chances 86 = .ok (.iaload, 1) := by decide +kernel
theorem dX16_chances_87 : decode cX16_chances 87 = .ok (.isub, 1) := by decide +kernel
theorem dX16_chances_88 : decode cX16_chances 88 = .ok (.i2l, 1) := by decide +kernel
theorem dX16_chances_89 : decode cX16_chances 89 = .ok (.lmul, 1) := by decide +kernel
theorem dX16_chances_90 : decode cX16_chances 90 = .ok (.lstore 5, 2) := by decide +kernel
theorem dX16_chances_92 : decode cX16_chances 92 = .ok (.iinc 7 1, 3) := by decide +kernel
theorem dX16_chances_95 : decode cX16_chances 95 = .ok (.goto (-50), 3) := by decide +kernel
theorem dX16_chances_98 : decode cX16_chances 98 = .ok (.lload_n 2, 1) := by decide +kernel
theorem dX16_chances_99 : decode cX16_chances 99 = .ok (.lload 5, 2) := by decide +kernel
theorem dX16_chances_101 : decode cX16_chances 101 = .ok (.ladd, 1) := by decide +kernel
theorem dX16_chances_102 : decode cX16_chances 102 = .ok (.lstore_n 2, 1) := by decide +kernel
theorem dX16_chances_103 : decode cX16_chances 103 = .ok (.iinc 4 1, 3) := by decide +kernel
theorem dX16_chances_106 : decode cX16_chances 106 = .ok (.goto (-101), 3) := by decide +kernel
theorem dX16_chances_109 : decode cX16_chances 109 = .ok (.lload_n 2, 1) := by decide +kernel
theorem dX16_chances_110 : decode cX16_chances 110 = .ok (.lreturn, 1) := by decide +kernel
theorem dX16_chance_0 : decode cX16_chance 0 = .ok (.aload_n 0, 1) := by decide +kernel
theorem dX16_chance_1 : decode cX16_chance 1 = .ok (.iconst 0, 1) := by decide +kernel
theorem dX16_chance_2 : decode cX16_chance 2 = .ok (.putfield 1, 3) := by decide +kernel
theorem dX16_chance_5 : decode cX16_chance 5 = .ok (.aload_n 0, 1) := by decide +kernel
theorem dX16_chance_6 : decode cX16_chance 6 = .ok (.iload_n 1, 1) := by decide +kernel
theorem dX16_chance_7 : decode cX16_chance 7 = .ok (.invokevirtual 341, 3) := by decide +kernel
theorem dX16_chance_10 : decode cX16_chance 10 = .ok (.ifCond .ne 10, 3) := by decide +kernel
theorem dX16_chance_13 : decode cX16_chance 13 = .ok (.aload_n 0, 1) := by decide +kernel
theorem dX16_chance_14 : decode cX16_chance 14 = .ok (.iconst 1, 1) := by decide +kernel
theorem dX16_chance_15 : decode cX16_chance 15 = .ok (.invokevirtual 72, 3) := by decide +kernel
theorem dX16_chance_18 : decode cX16_chance 18 = .ok (.i2l, 1) := by decide +kernel
theorem dX16_chance_19 : decode cX16_chance 19 = .ok (.lreturn, 1) := by decide +kernel
theorem dX16_chance_20 : decode cX16_chance 20 = .ok (.aload_n 0, 1) := by decide +kernel
theorem dX16_chance_21 : decode cX16_chance 21 = .ok (.iload_n 1, 1) := by decide +kernel
theorem dX16_chance_22 : decode cX16_chance 22 = .ok (.invokevirtual 354, 3) := by decide +kernel
theorem dX16_chance_25 : decode cX16_chance 25 = .ok (.ifCond .ne 11, 3) := by decide +kernel
theorem dX16_chance_28 : decode cX16_chance 28 = .ok (.aload_n 0, 1) := by decide +kernel
theorem dX16_chance_29 : decode cX16_chance 29 = .ok (.bipush 6, 2) := by decide +kernel
theorem dX16_chance_31 : decode cX16_chance 31 = .ok (.invokevirtual 72, 3) := by decide +kernel
theorem dX16_chance_34 : decode cX16_chance 34 = .ok (.i2l, 1) := by decide +kernel
theorem dX16_chance_35 : decode cX16_chance 35 = .ok (.lreturn, 1) := by decide +kernel
theorem dX16_chance_36 : decode cX16_chance 36 = .ok (.iconst 0, 1) := by decide +kernel
theorem dX16_chance_37 : decode cX16_chance 37 = .ok (.istore_n 2, 1) := by decide +kernel
theorem dX16_chance_38 : decode cX16_chance 38 = .ok (.iload_n 2, 1) := by decide +kernel
theorem dX16_chance_39 : decode cX16_chance 39 = .ok (.aload_n 0, 1) := by decide +kernel
theorem dX16_chance_40 : decode cX16_chance 40 = .ok (.getfield 348, 3) := by decide +kernel
theorem dX16_chance_43 : decode cX16_chance 43 = .ok (.if_icmp .ge 26, 3) := by decide +kernel
theorem dX16_chance_46 : decode cX16_chance 46 = .ok (.aload_n 0, 1) := by decide +kernel
theorem dX16_chance_47 : decode cX16_chance 47 = .ok (.getfield 218, 3) := by decide +kernel
theorem dX16_chance_50 : decode cX16_chance 50 = .ok (.iload_n 2, 1) := by decide +kernel
theorem dX16_chance_51 : decode cX16_chance 51 = .ok (.aload_n 0, 1) := by decide +kernel
theorem dX16_chance_52 : decode cX16_chance 52 = .ok (.getfield 107, 3) := by decide +kernel
theorem dX16_chance_55 : decode cX16_chance 55 = .ok (.aload_n 0, 1) := by decide +kernel
theorem dX16_chance_56 : decode cX16_chance 56 = .ok (.getfield 212, 3) := by decide +kernel
theorem dX16_chance_59 : decode cX16_chance 59 = .ok (.iload_n 2, 1) := by decide +kernel
theorem dX16_chance_60 : decode cX16_chance 60 = .ok (.iaload, 1) := by decide +kernel
theorem dX16_chance_61 : decode cX16_chance 61 = .ok (.iaload, 1) := by decide +kernel
theorem dX16_chance_62 : decode cX16_chance 62 = .ok (.iastore, 1) := by decide +kernel
theorem dX16_chance_63 : decode cX16_chance 63 = .ok (.iinc 2 1, 3) := by decide +kernel
theorem dX16_chance_66 : decode cX16_chance 66 = .ok (.goto (-28), 3) := by decide +kernel
theorem dX16_chance_69 : decode cX16_chance 69 = .ok (.aload_n 0, 1) := by decide +kernel
theorem dX16_chance_70 : decode cX16_chance 70 = .ok (.iconst 0, 1) := by decide +kernel
theorem dX16_chance_71 : decode cX16_chance 71 = .ok (.putfield 7, 3) := by decide +kernel
theorem dX16_chance_74 : decode cX16_chance 74 = .ok (.aload_n 0, 1) := by decide +kernel
theorem dX16_chance_75 : decode cX16_chance 75 = .ok (.aload_n 0, 1) := by decide +kernel
theorem dX16_chance_76 : decode cX16_chance 76 = .ok (.getfield 31, 3) := by decide +kernel
theorem dX16_chance_79 : decode cX16_chance 79 = .ok (.getfield 226, 3) := by decide +kernel
theorem dX16_chance_82 : decode cX16_chance 82 = .ok (.iload_n 1, 1) := by decide +kernel
theorem dX16_chance_83 : decode cX16_chance 83 = .ok (.iaload, 1) := by decide +kernel
theorem dX16_chance_84 : decode cX16_chance 84 = .ok (.invokevirtual 357, 3) := by decide +kernel
theorem dX16_chance_87 : decode cX16_chance 87 = .ok (.lreturn, 1) := by decide +kernel
theorem dX16_fewAt_0 : decode cX16_fewAt 0 = .ok (.iconst 0, 1) := by decide +kernel
theorem dX16_fewAt_1 : decode cX16_fewAt 1 = .ok (.istore_n 2, 1) := by decide +kernel
theorem dX16_fewAt_2 : decode cX16_fewAt 2 = .ok (.iload_n 2, 1) := by decide +kernel
theorem dX16_fewAt_3 : decode cX16_fewAt 3 = .ok (.aload_n 0, 1) := by decide +kernel
theorem dX16_fewAt_4 : decode cX16_fewAt 4 = .ok (.getfield 348, 3) := by decide +kernel
theorem dX16_fewAt_7 : decode cX16_fewAt 7 = .ok (.if_icmp .ge 19, 3) := by decide +kernel
theorem dX16_fewAt_10 : decode cX16_fewAt 10 = .ok (.aload_n 0, 1) := by decide +kernel
theorem dX16_fewAt_11 : decode cX16_fewAt 11 = .ok (.getfield 212, 3) := by decide +kernel
theorem dX16_fewAt_14 : decode cX16_fewAt 14 = .ok (.iload_n 2, 1) := by decide +kernel
theorem dX16_fewAt_15 : decode cX16_fewAt 15 = .ok (.iaload, 1) := by decide +kernel
theorem dX16_fewAt_16 : decode cX16_fewAt 16 = .ok (.iload_n 1, 1) := by decide +kernel
theorem dX16_fewAt_17 : decode cX16_fewAt 17 = .ok (.if_icmp .eq 9, 3) := by decide +kernel
theorem dX16_fewAt_20 : decode cX16_fewAt 20 = .ok (.iinc 2 1, 3) := by decide +kernel
theorem dX16_fewAt_23 : decode cX16_fewAt 23 = .ok (.goto (-21), 3) := by decide +kernel
theorem dX16_fewAt_26 : decode cX16_fewAt 26 = .ok (.iload_n 2, 1) := by decide +kernel
theorem dX16_fewAt_27 : decode cX16_fewAt 27 = .ok (.aload_n 0, 1) := by decide +kernel
theorem dX16_fewAt_28 : decode cX16_fewAt 28 = .ok (.getfield 348, 3) := by decide +kernel
theorem dX16_fewAt_31 : decode cX16_fewAt 31 = .ok (.if_icmp .ge 7, 3) := by decide +kernel
theorem dX16_fewAt_34 : decode cX16_fewAt 34 = .ok (.iload_n 2, 1) := by decide +kernel
theorem dX16_fewAt_35 : decode cX16_fewAt 35 = .ok (.goto 4, 3) := by decide +kernel
theorem dX16_fewAt_38 : decode cX16_fewAt 38 = .ok (.iconst (-1), 1) := by decide +kernel
theorem dX16_fewAt_39 : decode cX16_fewAt 39 = .ok (.ireturn, 1) := by decide +kernel
theorem dX16_share_0 : decode cX16_share 0 = .ok (.aload_n 0, 1) := by decide +kernel
theorem dX16_share_1 : decode cX16_share 1 = .ok (.iconst 0, 1) := by decide +kernel
theorem dX16_share_2 : decode cX16_share 2 = .ok (.putfield 1, 3) := by decide +kernel
theorem dX16_share_5 : decode cX16_share 5 = .ok (.aload_n 0, 1) := by decide +kernel
theorem dX16_share_6 : decode cX16_share 6 = .ok (.iload_n 1, 1) := by decide +kernel
theorem dX16_share_7 : decode cX16_share 7 = .ok (.invokevirtual 341, 3) := by decide +kernel
theorem dX16_share_10 : decode cX16_share 10 = .ok (.ifCond .eq 11, 3) := by decide +kernel
theorem dX16_share_13 : decode cX16_share 13 = .ok (.aload_n 0, 1) := by decide +kernel
theorem dX16_share_14 : decode cX16_share 14 = .ok (.iload_n 2, 1) := by decide +kernel
theorem dX16_share_15 : decode cX16_share 15 = .ok (.invokevirtual 110, 3) := by decide +kernel
theorem dX16_share_18 : decode cX16_share 18 = .ok (.ifCond .ne 10, 3) := by decide +kernel
theorem dX16_share_21 : decode cX16_share 21 = .ok (.aload_n 0, 1) := by decide +kernel
theorem dX16_share_22 : decode cX16_share 22 = .ok (.iconst 1, 1) := by decide +kernel
theorem dX16_share_23 : decode cX16_share 23 = .ok (.invokevirtual 72, 3) := by decide +kernel
theorem dX16_share_26 : decode cX16_share 26 = .ok (.i2l, 1) := by decide +kernel
theorem dX16_share_27 : decode cX16_share 27 = .ok (.lreturn, 1) := by decide +kernel
theorem dX16_share_28 : decode cX16_share 28 = .ok (.aload_n 0, 1) := by decide +kernel
theorem dX16_share_29 : decode cX16_share 29 = .ok (.iload_n 1, 1) := by decide +kernel
theorem dX16_share_30 : decode cX16_share 30 = .ok (.invokevirtual 354, 3) := by decide +kernel
theorem dX16_share_33 : decode cX16_share 33 = .ok (.ifCond .ne 11, 3) := by decide +kernel
theorem dX16_share_36 : decode cX16_share 36 = .ok (.aload_n 0, 1) := by decide +kernel
theorem dX16_share_37 : decode cX16_share 37 = .ok (.bipush 6, 2) := by decide +kernel
theorem dX16_share_39 : decode cX16_share 39 = .ok (.invokevirtual 72, 3) := by decide +kernel
theorem dX16_share_42 : decode cX16_share 42 = .ok (.i2l, 1) := by decide +kernel
theorem dX16_share_43 : decode cX16_share 43 = .ok (.lreturn, 1) := by decide +kernel
theorem dX16_share_44 : decode cX16_share 44 = .ok (.aload_n 0, 1) := by decide +kernel
theorem dX16_share_45 : decode cX16_share 45 = .ok (.iload_n 2, 1) := by decide +kernel
theorem dX16_share_46 : decode cX16_share 46 = .ok (.invokevirtual 360, 3) := by decide +kernel
theorem dX16_share_49 : decode cX16_share 49 = .ok (.istore_n 3, 1) := by decide +kernel
theorem dX16_share_50 : decode cX16_share 50 = .ok (.aload_n 0, 1) := by decide +kernel
theorem dX16_share_51 : decode cX16_share 51 = .ok (.iconst 0, 1) := by decide +kernel
theorem dX16_share_52 : decode cX16_share 52 = .ok (.putfield 7, 3) := by decide +kernel
theorem dX16_share_55 : decode cX16_share 55 = .ok (.iload_n 3, 1) := by decide +kernel
theorem dX16_share_56 : decode cX16_share 56 = .ok (.iconst (-1), 1) := by decide +kernel
theorem dX16_share_57 : decode cX16_share 57 = .ok (.if_icmp .ne 5, 3) := by decide +kernel
theorem dX16_share_60 : decode cX16_share 60 = .ok (.lconst 0, 1) := by decide +kernel
theorem dX16_share_61 : decode cX16_share 61 = .ok (.lreturn, 1) := by decide +kernel
theorem dX16_share_62 : decode cX16_share 62 = .ok (.iconst 0, 1) := by decide +kernel
theorem dX16_share_63 : decode cX16_share 63 = .ok (.istore 4, 2) := by decide +kernel
theorem dX16_share_65 : decode cX16_share 65 = .ok (.iload 4, 2) := by decide +kernel
theorem dX16_share_67 : decode cX16_share 67 = .ok (.aload_n 0, 1) := by decide +kernel
theorem dX16_share_68 : decode cX16_share 68 = .ok (.getfield 348, 3) := by decide +kernel
theorem dX16_share_71 : decode cX16_share 71 = .ok (.if_icmp .ge 28, 3) := by decide +kernel
theorem dX16_share_74 : decode cX16_share 74 = .ok (.aload_n 0, 1) := by decide +kernel
theorem dX16_share_75 : decode cX16_share 75 = .ok (.getfield 218, 3) := by decide +kernel
theorem dX16_share_78 : decode cX16_share 78 = .ok (.iload 4, 2) := by decide +kernel
theorem dX16_share_80 : decode cX16_share 80 = .ok (.aload_n 0, 1) := by decide +kernel
theorem dX16_share_81 : decode cX16_share 81 = .ok (.getfield 107, 3) := by decide +kernel
theorem dX16_share_84 : decode cX16_share 84 = .ok (.aload_n 0, 1) := by decide +kernel
theorem dX16_share_85 : decode cX16_share 85 = .ok (.getfield 212, 3) := by decide +kernel
theorem dX16_share_88 : decode cX16_share 88 = .ok (.iload 4, 2) := by decide +kernel
theorem dX16_share_90 : decode cX16_share 90 = .ok (.iaload, 1) := by decide +kernel
theorem dX16_share_91 : decode cX16_share 91 = .ok (.iaload, 1) := by decide +kernel
theorem dX16_share_92 : decode cX16_share 92 = .ok (.iastore, 1) := by decide +kernel
theorem dX16_share_93 : decode cX16_share 93 = .ok (.iinc 4 1, 3) := by decide +kernel
theorem dX16_share_96 : decode cX16_share 96 = .ok (.goto (-31), 3) := by decide +kernel
theorem dX16_share_99 : decode cX16_share 99 = .ok (.aload_n 0, 1) := by decide +kernel
theorem dX16_share_100 : decode cX16_share 100 = .ok (.getfield 218, 3) := by decide +kernel
theorem dX16_share_103 : decode cX16_share 103 = .ok (.iload_n 3, 1) := by decide +kernel
theorem dX16_share_104 : decode cX16_share 104 = .ok (.bipush 8, 2) := by decide +kernel
theorem dX16_share_106 : decode cX16_share 106 = .ok (.iastore, 1) := by decide +kernel
theorem dX16_share_107 : decode cX16_share 107 = .ok (.aload_n 0, 1) := by decide +kernel
theorem dX16_share_108 : decode cX16_share 108 = .ok (.aload_n 0, 1) := by decide +kernel
theorem dX16_share_109 : decode cX16_share 109 = .ok (.getfield 31, 3) := by decide +kernel
theorem dX16_share_112 : decode cX16_share 112 = .ok (.getfield 226, 3) := by decide +kernel
theorem dX16_share_115 : decode cX16_share 115 = .ok (.iload_n 1, 1) := by decide +kernel
theorem dX16_share_116 : decode cX16_share 116 = .ok (.iaload, 1) := by decide +kernel
theorem dX16_share_117 : decode cX16_share 117 = .ok (.invokevirtual 357, 3) := by decide +kernel
theorem dX16_share_120 : decode cX16_share 120 = .ok (.lstore 4, 2) := by decide +kernel
theorem dX16_share_122 : decode cX16_share 122 = .ok (.aload_n 0, 1) := by decide +kernel
theorem dX16_share_123 : decode cX16_share 123 = .ok (.getfield 218, 3) := by decide +kernel
theorem dX16_share_126 : decode cX16_share 126 = .ok (.iload_n 3, 1) := by decide +kernel
theorem dX16_share_127 : decode cX16_share 127 = .ok (.iconst 0, 1) := by decide +kernel
theorem dX16_share_128 : decode cX16_share 128 = .ok (.iastore, 1) := by decide +kernel
theorem dX16_share_129 : decode cX16_share 129 = .ok (.lload 4, 2) := by decide +kernel
theorem dX16_share_131 : decode cX16_share 131 = .ok (.aload_n 0, 1) := by decide +kernel
theorem dX16_share_132 : decode cX16_share 132 = .ok (.aload_n 0, 1) := by decide +kernel
theorem dX16_share_133 : decode cX16_share 133 = .ok (.getfield 31, 3) := by decide +kernel
theorem dX16_share_136 : decode cX16_share 136 = .ok (.getfield 226, 3) := by decide +kernel
theorem dX16_share_139 : decode cX16_share 139 = .ok (.iload_n 1, 1) := by decide +kernel
theorem dX16_share_140 : decode cX16_share 140 = .ok (.iaload, 1) := by decide +kernel
theorem dX16_share_141 : decode cX16_share 141 = .ok (.invokevirtual 357, 3) := by decide +kernel
theorem dX16_share_144 : decode cX16_share 144 = .ok (.lsub, 1) := by decide +kernel
theorem dX16_share_145 : decode cX16_share 145 = .ok (.lreturn, 1) := by decide +kernel
theorem dX16_sizeOf_0 : decode cX16_sizeOf 0 = .ok (.iconst 0, 1) := by decide +kernel
theorem dX16_sizeOf_1 : decode cX16_sizeOf 1 = .ok (.istore_n 1, 1) := by decide +kernel
theorem dX16_sizeOf_2 : decode cX16_sizeOf 2 = .ok (.iload_n 0, 1) := by decide +kernel
theorem dX16_sizeOf_3 : decode cX16_sizeOf 3 = .ok (.istore_n 2, 1) := by decide +kernel
theorem dX16_sizeOf_4 : decode cX16_sizeOf 4 = .ok (.iload_n 2, 1) := by decide +kernel
theorem dX16_sizeOf_5 : decode cX16_sizeOf 5 = .ok (.ifCond .eq 15, 3) := by decide +kernel
theorem dX16_sizeOf_8 : decode cX16_sizeOf 8 = .ok (.iinc 1 1, 3) := by decide +kernel
theorem dX16_sizeOf_11 : decode cX16_sizeOf 11 = .ok (.iload_n 2, 1) := by decide +kernel
theorem dX16_sizeOf_12 : decode cX16_sizeOf 12 = .ok (.iload_n 2, 1) := by decide +kernel
theorem dX16_sizeOf_13 : decode cX16_sizeOf 13 = .ok (.iconst 1, 1) := by decide +kernel
theorem dX16_sizeOf_14 : decode cX16_sizeOf 14 = .ok (.isub, 1) := by decide +kernel
theorem dX16_sizeOf_15 : decode cX16_sizeOf 15 = .ok (.iand, 1) := by decide +kernel
theorem dX16_sizeOf_16 : decode cX16_sizeOf 16 = .ok (.istore_n 2, 1) := by decide +kernel
theorem dX16_sizeOf_17 : decode cX16_sizeOf 17 = .ok (.goto (-13), 3) := by decide +kernel
theorem dX16_sizeOf_20 : decode cX16_sizeOf 20 = .ok (.iload_n 1, 1) := by decide +kernel
theorem dX16_sizeOf_21 : decode cX16_sizeOf 21 = .ok (.ireturn, 1) := by decide +kernel
theorem dX16_least_0 : decode cX16_least 0 = .ok (.aload_n 0, 1) := by decide +kernel
theorem dX16_least_1 : decode cX16_least 1 = .ok (.iconst 0, 1) := by decide +kernel
theorem dX16_least_2 : decode cX16_least 2 = .ok (.putfield 1, 3) := by decide +kernel
theorem dX16_least_5 : decode cX16_least 5 = .ok (.aload_n 0, 1) := by decide +kernel
theorem dX16_least_6 : decode cX16_least 6 = .ok (.iload_n 1, 1) := by decide +kernel
theorem dX16_least_7 : decode cX16_least 7 = .ok (.invokevirtual 341, 3) := by decide +kernel
theorem dX16_least_10 : decode cX16_least 10 = .ok (.ifCond .ne 10, 3) := by decide +kernel
theorem dX16_least_13 : decode cX16_least 13 = .ok (.aload_n 0, 1) := by decide +kernel
theorem dX16_least_14 : decode cX16_least 14 = .ok (.iconst 1, 1) := by decide +kernel
theorem dX16_least_15 : decode cX16_least 15 = .ok (.invokevirtual 72, 3) := by decide +kernel
theorem dX16_least_18 : decode cX16_least 18 = .ok (.i2l, 1) := by decide +kernel
theorem dX16_least_19 : decode cX16_least 19 = .ok (.lreturn, 1) := by decide +kernel
theorem dX16_least_20 : decode cX16_least 20 = .ok (.aload_n 0, 1) := by decide +kernel
theorem dX16_least_21 : decode cX16_least 21 = .ok (.iload_n 1, 1) := by decide +kernel
theorem dX16_least_22 : decode cX16_least 22 = .ok (.invokevirtual 354, 3) := by decide +kernel
theorem dX16_least_25 : decode cX16_least 25 = .ok (.ifCond .ne 11, 3) := by decide +kernel
theorem dX16_least_28 : decode cX16_least 28 = .ok (.aload_n 0, 1) := by decide +kernel
theorem dX16_least_29 : decode cX16_least 29 = .ok (.bipush 6, 2) := by decide +kernel
theorem dX16_least_31 : decode cX16_least 31 = .ok (.invokevirtual 72, 3) := by decide +kernel
theorem dX16_least_34 : decode cX16_least 34 = .ok (.i2l, 1) := by decide +kernel
theorem dX16_least_35 : decode cX16_least 35 = .ok (.lreturn, 1) := by decide +kernel
theorem dX16_least_36 : decode cX16_least 36 = .ok (.iconst 1, 1) := by decide +kernel
theorem dX16_least_37 : decode cX16_least 37 = .ok (.aload_n 0, 1) := by decide +kernel
theorem dX16_least_38 : decode cX16_least 38 = .ok (.getfield 348, 3) := by decide +kernel
theorem dX16_least_41 : decode cX16_least 41 = .ok (.ishl, 1) := by decide +kernel
theorem dX16_least_42 : decode cX16_least 42 = .ok (.istore_n 2, 1) := by decide +kernel
theorem dX16_least_43 : decode cX16_least 43 = .ok (.iload_n 2, 1) := by decide +kernel
theorem dX16_least_44 : decode cX16_least 44 = .ok (.iconst 1, 1) := by decide +kernel
theorem dX16_least_45 : decode cX16_least 45 = .ok (.isub, 1) := by decide +kernel
theorem dX16_least_46 : decode cX16_least 46 = .ok (.istore_n 2, 1) := by decide +kernel
theorem dX16_least_47 : decode cX16_least 47 = .ok (.iconst 0, 1) := by decide +kernel
theorem dX16_least_48 : decode cX16_least 48 = .ok (.istore_n 3, 1) := by decide +kernel
theorem dX16_least_49 : decode cX16_least 49 = .ok (.iload_n 3, 1) := by decide +kernel
theorem dX16_least_50 : decode cX16_least 50 = .ok (.iconst 1, 1) := by decide +kernel
theorem dX16_least_51 : decode cX16_least 51 = .ok (.aload_n 0, 1) := by decide +kernel
theorem dX16_least_52 : decode cX16_least 52 = .ok (.getfield 348, 3) := by decide +kernel
theorem dX16_least_55 : decode cX16_least 55 = .ok (.ishl, 1) := by decide +kernel
theorem dX16_least_56 : decode cX16_least 56 = .ok (.if_icmp .ge 81, 3) := by decide +kernel
theorem dX16_least_59 : decode cX16_least 59 = .ok (.iload_n 3, 1) := by decide +kernel
theorem dX16_least_60 : decode cX16_least 60 = .ok (.invokestatic 363, 3) := by decide +kernel
theorem dX16_least_63 : decode cX16_least 63 = .ok (.iload_n 2, 1) := by decide +kernel
theorem dX16_least_64 : decode cX16_least 64 = .ok (.invokestatic 363, 3) := by decide +kernel
theorem dX16_least_67 : decode cX16_least 67 = .ok (.if_icmp .ge 7, 3) := by decide +kernel
theorem dX16_least_70 : decode cX16_least 70 = .ok (.iconst 1, 1) := by decide +kernel
theorem dX16_least_71 : decode cX16_least 71 = .ok (.goto 4, 3) := by decide +kernel
theorem dX16_least_74 : decode cX16_least 74 = .ok (.iconst 0, 1) := by decide +kernel
theorem dX16_least_75 : decode cX16_least 75 = .ok (.istore 4, 2) := by decide +kernel
theorem dX16_least_77 : decode cX16_least 77 = .ok (.iconst 0, 1) := by decide +kernel
theorem dX16_least_78 : decode cX16_least 78 = .ok (.istore 5, 2) := by decide +kernel
theorem dX16_least_80 : decode cX16_least 80 = .ok (.iload 5, 2) := by decide +kernel
theorem dX16_least_82 : decode cX16_least 82 = .ok (.aload_n 0, 1) := by decide +kernel
theorem dX16_least_83 : decode cX16_least 83 = .ok (.getfield 31, 3) := by decide +kernel
theorem dX16_least_86 : decode cX16_least 86 = .ok (.getfield 226, 3) := by decide +kernel
theorem dX16_least_89 : decode cX16_least 89 = .ok (.iload_n 1, 1) := by decide +kernel
theorem dX16_least_90 : decode cX16_least 90 = .ok (.iaload, 1) := by decide +kernel
theorem dX16_least_91 : decode cX16_least 91 = .ok (.if_icmp .ge 33, 3) := by decide +kernel
theorem dX16_least_94 : decode cX16_least 94 = .ok (.iload 4, 2) := by decide +kernel
theorem dX16_least_96 : decode cX16_least 96 = .ok (.ifCond .eq 28, 3) := by decide +kernel
theorem dX16_least_99 : decode cX16_least 99 = .ok (.aload_n 0, 1) := by decide +kernel
theorem dX16_least_100 : decode cX16_least 100 = .ok (.getfield 215, 3) := by decide +kernel
theorem dX16_least_103 : decode cX16_least 103 = .ok (.iload 5, 2) := by decide +kernel
theorem dX16_least_105 : decode cX16_least 105 = .ok (.iaload, 1) := by decide +kernel
theorem dX16_least_106 : decode cX16_least 106 = .ok (.iload_n 3, 1) := by decide +kernel
theorem dX16_least_107 : decode cX16_least 107 = .ok (.iand, 1) := by decide +kernel
theorem dX16_least_108 : decode cX16_least 108 = .ok (.ifCond .eq 7, 3) := by decide +kernel
theorem dX16_least_111 : decode cX16_least 111 = .ok (.iconst 1, 1) := by decide +kernel
theorem dX16_least_112 : decode cX16_least 112 = .ok (.goto 4, 3) := by decide +kernel
theorem dX16_least_115 : decode cX16_least 115 = .ok (.iconst 0, 1) := by decide +kernel
theorem dX16_least_116 : decode cX16_least 116 = .ok (.istore 4, 2) := by decide +kernel
theorem dX16_least_118 : decode cX16_least 118 = .ok (.iinc 5 1, 3) := by decide +kernel
theorem dX16_least_121 : decode cX16_least 121 = .ok (.goto (-41), 3) := by decide +kernel
theorem dX16_least_124 : decode cX16_least 124 = .ok (.iload 4, 2) := by decide +kernel
theorem dX16_least_126 : decode cX16_least 126 = .ok (.ifCond .eq 5, 3) := by decide +kernel
theorem dX16_least_129 : decode cX16_least 129 = .ok (.iload_n 3, 1) := by decide +kernel
theorem dX16_least_130 : decode cX16_least 130 = .ok (.istore_n 2, 1) := by decide +kernel
theorem dX16_least_131 : decode cX16_least 131 = .ok (.iinc 3 1, 3) := by decide +kernel
theorem dX16_least_134 : decode cX16_least 134 = .ok (.goto (-85), 3) := by decide +kernel
theorem dX16_least_137 : decode cX16_least 137 = .ok (.lconst 0, 1) := by decide +kernel
theorem dX16_least_138 : decode cX16_least 138 = .ok (.lstore_n 3, 1) := by decide +kernel
theorem dX16_least_139 : decode cX16_least 139 = .ok (.iconst 0, 1) := by decide +kernel
theorem dX16_least_140 : decode cX16_least 140 = .ok (.istore 5, 2) := by decide +kernel
theorem dX16_least_142 : decode cX16_least 142 = .ok (.iload 5, 2) := by decide +kernel
theorem dX16_least_144 : decode cX16_least 144 = .ok (.aload_n 0, 1) := by decide +kernel
theorem dX16_least_145 : decode cX16_least 145 = .ok (.getfield 348, 3) := by decide +kernel
theorem dX16_least_148 : decode cX16_least 148 = .ok (.if_icmp .ge 31, 3) := by decide +kernel
theorem dX16_least_151 : decode cX16_least 151 = .ok (.iload_n 2, 1) := by decide +kernel
theorem dX16_least_152 : decode cX16_least 152 = .ok (.iload 5, 2) := by decide +kernel
theorem dX16_least_154 : decode cX16_least 154 = .ok (.ishr, 1) := by decide +kernel
theorem dX16_least_155 : decode cX16_least 155 = .ok (.iconst 1, 1) := by decide +kernel
theorem dX16_least_156 : decode cX16_least 156 = .ok (.iand, 1) := by decide +kernel
theorem dX16_least_157 : decode cX16_least 157 = .ok (.iconst 1, 1) := by decide +kernel
theorem dX16_least_158 : decode cX16_least 158 = .ok (.if_icmp .ne 15, 3) := by decide +kernel
theorem dX16_least_161 : decode cX16_least 161 = .ok (.lload_n 3, 1) := by decide +kernel
theorem dX16_least_162 : decode cX16_least 162 = .ok (.lconst 1, 1) := by decide +kernel
theorem dX16_least_163 : decode cX16_least 163 = .ok (.aload_n 0, 1) := by decide +kernel
theorem dX16_least_164 : decode cX16_least 164 = .ok (.getfield 212, 3) := by decide +kernel
theorem dX16_least_167 : decode cX16_least 167 = .ok (.iload 5, 2) := by decide +kernel
theorem dX16_least_169 : decode cX16_least 169 = .ok (.iaload, 1) := by decide +kernel
theorem dX16_least_170 : decode cX16_least 170 = .ok (.lshl, 1) := by decide +kernel
theorem dX16_least_171 : decode cX16_least 171 = .ok (.lor, 1) := by decide +kernel
theorem dX16_least_172 : decode cX16_least 172 = .ok (.lstore_n 3, 1) := by decide +kernel
theorem dX16_least_173 : decode cX16_least 173 = .ok (.iinc 5 1, 3) := by decide +kernel
theorem dX16_least_176 : decode cX16_least 176 = .ok (.goto (-34), 3) := by decide +kernel
theorem dX16_least_179 : decode cX16_least 179 = .ok (.aload_n 0, 1) := by decide +kernel
theorem dX16_least_180 : decode cX16_least 180 = .ok (.iconst 0, 1) := by decide +kernel
theorem dX16_least_181 : decode cX16_least 181 = .ok (.putfield 7, 3) := by decide +kernel
theorem dX16_least_184 : decode cX16_least 184 = .ok (.lload_n 3, 1) := by decide +kernel
theorem dX16_least_185 : decode cX16_least 185 = .ok (.lreturn, 1) := by decide +kernel
theorem dX16_blame_0 : decode cX16_blame 0 = .ok (.aload_n 0, 1) := by decide +kernel
theorem dX16_blame_1 : decode cX16_blame 1 = .ok (.iconst 0, 1) := by decide +kernel
theorem dX16_blame_2 : decode cX16_blame 2 = .ok (.putfield 1, 3) := by decide +kernel
theorem dX16_blame_5 : decode cX16_blame 5 = .ok (.aload_n 0, 1) := by decide +kernel
theorem dX16_blame_6 : decode cX16_blame 6 = .ok (.iload_n 1, 1) := by decide +kernel
theorem dX16_blame_7 : decode cX16_blame 7 = .ok (.invokevirtual 341, 3) := by decide +kernel
theorem dX16_blame_10 : decode cX16_blame 10 = .ok (.ifCond .eq 11, 3) := by decide +kernel
theorem dX16_blame_13 : decode cX16_blame 13 = .ok (.aload_n 0, 1) := by decide +kernel
theorem dX16_blame_14 : decode cX16_blame 14 = .ok (.iload_n 2, 1) := by decide +kernel
theorem dX16_blame_15 : decode cX16_blame 15 = .ok (.invokevirtual 110, 3) := by decide +kernel
theorem dX16_blame_18 : decode cX16_blame 18 = .ok (.ifCond .ne 9, 3) := by decide +kernel
theorem dX16_blame_21 : decode cX16_blame 21 = .ok (.aload_n 0, 1) := by decide +kernel
theorem dX16_blame_22 : decode cX16_blame 22 = .ok (.iconst 1, 1) := by decide +kernel
theorem dX16_blame_23 : decode cX16_blame 23 = .ok (.invokevirtual 72, 3) := by decide +kernel
theorem dX16_blame_26 : decode cX16_blame 26 = .ok (.ireturn, 1) := by decide +kernel
theorem dX16_blame_27 : decode cX16_blame 27 = .ok (.aload_n 0, 1) := by decide +kernel
theorem dX16_blame_28 : decode cX16_blame 28 = .ok (.iload_n 1, 1) := by decide +kernel
theorem dX16_blame_29 : decode cX16_blame 29 = .ok (.invokevirtual 354, 3) := by decide +kernel
theorem dX16_blame_32 : decode cX16_blame 32 = .ok (.ifCond .ne 10, 3) := by decide +kernel
theorem dX16_blame_35 : decode cX16_blame 35 = .ok (.aload_n 0, 1) := by decide +kernel
theorem dX16_blame_36 : decode cX16_blame 36 = .ok (.bipush 6, 2) := by decide +kernel
theorem dX16_blame_38 : decode cX16_blame 38 = .ok (.invokevirtual 72, 3) := by decide +kernel
theorem dX16_blame_41 : decode cX16_blame 41 = .ok (.ireturn, 1) := by decide +kernel
theorem dX16_blame_42 : decode cX16_blame 42 = .ok (.aload_n 0, 1) := by decide +kernel
theorem dX16_blame_43 : decode cX16_blame 43 = .ok (.iload_n 2, 1) := by decide +kernel
theorem dX16_blame_44 : decode cX16_blame 44 = .ok (.invokevirtual 360, 3) := by decide +kernel
theorem dX16_blame_47 : decode cX16_blame 47 = .ok (.istore_n 3, 1) := by decide +kernel
theorem dX16_blame_48 : decode cX16_blame 48 = .ok (.iload_n 3, 1) := by decide +kernel
theorem dX16_blame_49 : decode cX16_blame 49 = .ok (.iconst (-1), 1) := by decide +kernel
theorem dX16_blame_50 : decode cX16_blame 50 = .ok (.if_icmp .ne 10, 3) := by decide +kernel
theorem dX16_blame_53 : decode cX16_blame 53 = .ok (.aload_n 0, 1) := by decide +kernel
theorem dX16_blame_54 : decode cX16_blame 54 = .ok (.bipush 6, 2) := by decide +kernel
theorem dX16_blame_56 : decode cX16_blame 56 = .ok (.invokevirtual 72, 3) := by decide +kernel
theorem dX16_blame_59 : decode cX16_blame 59 = .ok (.ireturn, 1) := by decide +kernel
theorem dX16_blame_60 : decode cX16_blame 60 = .ok (.iconst 1, 1) := by decide +kernel
theorem dX16_blame_61 : decode cX16_blame 61 = .ok (.aload_n 0, 1) := by decide +kernel
theorem dX16_blame_62 : decode cX16_blame 62 = .ok (.getfield 348, 3) := by decide +kernel
theorem dX16_blame_65 : decode cX16_blame 65 = .ok (.ishl, 1) := by decide +kernel
theorem dX16_blame_66 : decode cX16_blame 66 = .ok (.iconst 1, 1) := by decide +kernel
theorem dX16_blame_67 : decode cX16_blame 67 = .ok (.isub, 1) := by decide +kernel
theorem dX16_blame_68 : decode cX16_blame 68 = .ok (.istore 4, 2) := by decide +kernel
theorem dX16_blame_70 : decode cX16_blame 70 = .ok (.aload_n 0, 1) := by decide +kernel
theorem dX16_blame_71 : decode cX16_blame 71 = .ok (.getfield 348, 3) := by decide +kernel
theorem dX16_blame_74 : decode cX16_blame 74 = .ok (.istore 5, 2) := by decide +kernel
theorem dX16_blame_76 : decode cX16_blame 76 = .ok (.iconst 0, 1) := by decide +kernel
theorem dX16_blame_77 : decode cX16_blame 77 = .ok (.istore 6, 2) := by decide +kernel
theorem dX16_blame_79 : decode cX16_blame 79 = .ok (.iload 6, 2) := by decide +kernel
theorem dX16_blame_81 : decode cX16_blame 81 = .ok (.iload 4, 2) := by decide +kernel
theorem dX16_blame_83 : decode cX16_blame 83 = .ok (.if_icmp .gt 91, 3) := by decide +kernel
theorem dX16_blame_86 : decode cX16_blame 86 = .ok (.iload 6, 2) := by decide +kernel
theorem dX16_blame_88 : decode cX16_blame 88 = .ok (.iload_n 3, 1) := by decide +kernel
theorem dX16_blame_89 : decode cX16_blame 89 = .ok (.ishr, 1) := by decide +kernel
theorem dX16_blame_90 : decode cX16_blame 90 = .ok (.iconst 1, 1) := by decide +kernel
theorem dX16_blame_91 : decode cX16_blame 91 = .ok (.iand, 1) := by decide +kernel
theorem dX16_blame_92 : decode cX16_blame 92 = .ok (.iconst 1, 1) := by decide +kernel
theorem dX16_blame_93 : decode cX16_blame 93 = .ok (.if_icmp .eq 75, 3) := by decide +kernel
theorem dX16_blame_96 : decode cX16_blame 96 = .ok (.iload 6, 2) := by decide +kernel
theorem dX16_blame_98 : decode cX16_blame 98 = .ok (.invokestatic 363, 3) := by decide +kernel
theorem dX16_blame_101 : decode cX16_blame 101 = .ok (.iload 5, 2) := by decide +kernel
theorem dX16_blame_103 : decode cX16_blame 103 = .ok (.if_icmp .lt 6, 3) := by decide +kernel
theorem dX16_blame_106 : decode cX16_blame 106 = .ok (.goto 62, 3) := by decide +kernel
theorem dX16_blame_109 : decode cX16_blame 109 = .ok (.aload_n 0, 1) := by decide +kernel
theorem dX16_blame_110 : decode cX16_blame 110 = .ok (.iload 4, 2) := by decide +kernel
theorem dX16_blame_112 : decode cX16_blame 112 = .ok (.iload 6, 2) := by decide +kernel
theorem dX16_blame_114 : decode cX16_blame 114 = .ok (.iconst (-1), 1) := by decide +kernel
theorem dX16_blame_115 : decode cX16_blame 115 = .ok (.ixor, 1) := by decide +kernel
theorem dX16_blame_116 : decode cX16_blame 116 = .ok (.iand, 1) := by decide +kernel
theorem dX16_blame_117 : decode cX16_blame 117 = .ok (.aload_n 0, 1) := by decide +kernel
theorem dX16_blame_118 : decode cX16_blame 118 = .ok (.getfield 31, 3) := by decide +kernel
theorem dX16_blame_121 : decode cX16_blame 121 = .ok (.getfield 226, 3) := by decide +kernel
theorem dX16_blame_124 : decode cX16_blame 124 = .ok (.iload_n 1, 1) := by decide +kernel
theorem dX16_blame_125 : decode cX16_blame 125 = .ok (.iaload, 1) := by decide +kernel
theorem dX16_blame_126 : decode cX16_blame 126 = .ok (.invokevirtual 351, 3) := by decide +kernel
theorem dX16_blame_129 : decode cX16_blame 129 = .ok (.ifCond .eq 39, 3) := by decide +kernel
theorem dX16_blame_132 : decode cX16_blame 132 = .ok (.aload_n 0, 1) := by decide +kernel
theorem dX16_blame_133 : decode cX16_blame 133 = .ok (.iload 4, 2) := by decide +kernel
theorem dX16_blame_135 : decode cX16_blame 135 = .ok (.iload 6, 2) := by decide +kernel
theorem dX16_blame_137 : decode cX16_blame 137 = .ok (.iconst (-1), 1) := by decide +kernel
theorem dX16_blame_138 : decode cX16_blame 138 = .ok (.ixor, 1) := by decide +kernel
theorem dX16_blame_139 : decode cX16_blame 139 = .ok (.iand, 1) := by decide +kernel
theorem dX16_blame_140 : decode cX16_blame 140 = .ok (.iconst 1, 1) := by decide +kernel
theorem dX16_blame_141 : decode cX16_blame 141 = .ok (.iload_n 3, 1) := by decide +kernel
theorem dX16_blame_142 : decode cX16_blame 142 = .ok (.ishl, 1) := by decide +kernel
theorem dX16_blame_143 : decode cX16_blame 143 = .ok (.iconst (-1), 1) := by decide +kernel
theorem dX16_blame_144 : decode cX16_blame 144 = .ok (.ixor, 1) := by decide +kernel
theorem dX16_blame_145 : decode cX16_blame 145 = .ok (.iand, 1) := by decide +kernel
theorem dX16_blame_146 : decode cX16_blame 146 = .ok (.aload_n 0, 1) := by decide +kernel
theorem dX16_blame_147 : decode cX16_blame 147 = .ok (.getfield 31, 3) := by decide +kernel
theorem dX16_blame_150 : decode cX16_blame 150 = .ok (.getfield 226, 3) := by decide +kernel
theorem dX16_blame_153 : decode cX16_blame 153 = .ok (.iload_n 1, 1) := by decide +kernel
theorem dX16_blame_154 : decode cX16_blame 154 = .ok (.iaload, 1) := by decide +kernel
theorem dX16_blame_155 : decode cX16_blame 155 = .ok (.invokevirtual 351, 3) := by decide +kernel
theorem dX16_blame_158 : decode cX16_blame 158 = .ok (.ifCond .ne 10, 3) := by decide +kernel
theorem dX16_blame_161 : decode cX16_blame 161 = .ok (.iload 6, 2) := by decide +kernel
theorem dX16_blame_163 : decode cX16_blame 163 = .ok (.invokestatic 363, 3) := by decide +kernel
theorem dX16_blame_166 : decode cX16_blame 166 = .ok (.istore 5, 2) := by decide +kernel
theorem dX16_blame_168 : decode cX16_blame 168 = .ok (.iinc 6 1, 3) := by decide +kernel
theorem dX16_blame_171 : decode cX16_blame 171 = .ok (.goto (-92), 3) := by decide +kernel
theorem dX16_blame_174 : decode cX16_blame 174 = .ok (.aload_n 0, 1) := by decide +kernel
theorem dX16_blame_175 : decode cX16_blame 175 = .ok (.iload 5, 2) := by decide +kernel
theorem dX16_blame_177 : decode cX16_blame 177 = .ok (.invokevirtual 84, 3) := by decide +kernel
theorem dX16_blame_180 : decode cX16_blame 180 = .ok (.ireturn, 1) := by decide +kernel
theorem dX16_isShelf_0 : decode cX16_isShelf 0 = .ok (.iload_n 0, 1) := by decide +kernel
theorem dX16_isShelf_1 : decode cX16_isShelf 1 = .ok (.ifCond .lt 13, 3) := by decide +kernel
theorem dX16_isShelf_4 : decode cX16_isShelf 4 = .ok (.iload_n 0, 1) := by decide +kernel
theorem dX16_isShelf_5 : decode cX16_isShelf 5 = .ok (.bipush 20, 2) := by decide +kernel
theorem dX16_isShelf_7 : decode cX16_isShelf 7 = .ok (.if_icmp .ge 7, 3) := by decide +kernel
theorem dX16_isShelf_10 : decode cX16_isShelf 10 = .ok (.iconst 1, 1) := by decide +kernel
theorem dX16_isShelf_11 : decode cX16_isShelf 11 = .ok (.goto 4, 3) := by decide +kernel
theorem dX16_isShelf_14 : decode cX16_isShelf 14 = .ok (.iconst 0, 1) := by decide +kernel
theorem dX16_isShelf_15 : decode cX16_isShelf 15 = .ok (.ireturn, 1) := by decide +kernel
theorem dX16_lay_0 : decode cX16_lay 0 = .ok (.aload_n 0, 1) := by decide +kernel
theorem dX16_lay_1 : decode cX16_lay 1 = .ok (.iconst 0, 1) := by decide +kernel
theorem dX16_lay_2 : decode cX16_lay 2 = .ok (.putfield 1, 3) := by decide +kernel
theorem dX16_lay_5 : decode cX16_lay 5 = .ok (.iload_n 1, 1) := by decide +kernel
theorem dX16_lay_6 : decode cX16_lay 6 = .ok (.invokestatic 366, 3) := by decide +kernel
theorem dX16_lay_9 : decode cX16_lay 9 = .ok (.ifCond .ne 9, 3) := by decide +kernel
theorem dX16_lay_12 : decode cX16_lay 12 = .ok (.aload_n 0, 1) := by decide +kernel
theorem dX16_lay_13 : decode cX16_lay 13 = .ok (.iconst 1, 1) := by decide +kernel
theorem dX16_lay_14 : decode cX16_lay 14 = .ok (.invokevirtual 72, 3) := by decide +kernel
theorem dX16_lay_17 : decode cX16_lay 17 = .ok (.ireturn, 1) := by decide +kernel
theorem dX16_lay_18 : decode cX16_lay 18 = .ok (.iload_n 2, 1) := by decide +kernel
theorem dX16_lay_19 : decode cX16_lay 19 = .ok (.ifCond .lt 8, 3) := by decide +kernel
theorem dX16_lay_22 : decode cX16_lay 22 = .ok (.iload_n 2, 1) := by decide +kernel
theorem dX16_lay_23 : decode cX16_lay 23 = .ok (.iconst 4, 1) := by decide +kernel
theorem dX16_lay_24 : decode cX16_lay 24 = .ok (.if_icmp .le 9, 3) := by decide +kernel
theorem dX16_lay_27 : decode cX16_lay 27 = .ok (.aload_n 0, 1) := by decide +kernel
theorem dX16_lay_28 : decode cX16_lay 28 = .ok (.iconst 2, 1) := by decide +kernel
theorem dX16_lay_29 : decode cX16_lay 29 = .ok (.invokevirtual 72, 3) := by decide +kernel
theorem dX16_lay_32 : decode cX16_lay 32 = .ok (.ireturn, 1) := by decide +kernel
theorem dX16_lay_33 : decode cX16_lay 33 = .ok (.iload_n 2, 1) := by decide +kernel
theorem dX16_lay_34 : decode cX16_lay 34 = .ok (.ifCond .eq 43, 3) := by decide +kernel
theorem dX16_lay_37 : decode cX16_lay 37 = .ok (.iload_n 2, 1) := by decide +kernel
theorem dX16_lay_38 : decode cX16_lay 38 = .ok (.iconst 1, 1) := by decide +kernel
theorem dX16_lay_39 : decode cX16_lay 39 = .ok (.if_icmp .ne 14, 3) := by decide +kernel
theorem dX16_lay_42 : decode cX16_lay 42 = .ok (.aload_n 0, 1) := by decide +kernel
theorem dX16_lay_43 : decode cX16_lay 43 = .ok (.iload_n 3, 1) := by decide +kernel
theorem dX16_lay_44 : decode cX16_lay 44 = .ok (.invokevirtual 110, 3) := by decide +kernel
theorem dX16_lay_47 : decode cX16_lay 47 = .ok (.ifCond .eq 34, 3) := by decide +kernel
theorem dX16_lay_50 : decode cX16_lay 50 = .ok (.goto 27, 3) := by decide +kernel
theorem dX16_lay_53 : decode cX16_lay 53 = .ok (.iload_n 2, 1) := by decide +kernel
theorem dX16_lay_54 : decode cX16_lay 54 = .ok (.iconst 2, 1) := by decide +kernel
theorem dX16_lay_55 : decode cX16_lay 55 = .ok (.if_icmp .ne 14, 3) := by decide +kernel
theorem dX16_lay_58 : decode cX16_lay 58 = .ok (.aload_n 0, 1) := by decide +kernel
theorem dX16_lay_59 : decode cX16_lay 59 = .ok (.iload_n 3, 1) := by decide +kernel
theorem dX16_lay_60 : decode cX16_lay 60 = .ok (.invokevirtual 168, 3) := by decide +kernel
theorem dX16_lay_63 : decode cX16_lay 63 = .ok (.ifCond .eq 18, 3) := by decide +kernel
theorem dX16_lay_66 : decode cX16_lay 66 = .ok (.goto 11, 3) := by decide +kernel
theorem dX16_lay_69 : decode cX16_lay 69 = .ok (.aload_n 0, 1) := by decide +kernel
theorem dX16_lay_70 : decode cX16_lay 70 = .ok (.iload_n 3, 1) := by decide +kernel
theorem dX16_lay_71 : decode cX16_lay 71 = .ok (.invokevirtual 341, 3) := by decide +kernel
theorem dX16_lay_74 : decode cX16_lay 74 = .ok (.ifCond .eq 7, 3) := by decide +kernel
theorem dX16_lay_77 : decode cX16_lay 77 = .ok (.iconst 1, 1) := by decide +kernel
theorem dX16_lay_78 : decode cX16_lay 78 = .ok (.goto 4, 3) := by decide +kernel
theorem dX16_lay_81 : decode cX16_lay 81 = .ok (.iconst 0, 1) := by decide +kernel
theorem dX16_lay_82 : decode cX16_lay 82 = .ok (.istore 4, 2) := by decide +kernel
theorem dX16_lay_84 : decode cX16_lay 84 = .ok (.iload 4, 2) := by decide +kernel
theorem dX16_lay_86 : decode cX16_lay 86 = .ok (.ifCond .ne 9, 3) := by decide +kernel
theorem dX16_lay_89 : decode cX16_lay 89 = .ok (.aload_n 0, 1) := by decide +kernel
theorem dX16_lay_90 : decode cX16_lay 90 = .ok (.iconst 1, 1) := by decide +kernel
theorem dX16_lay_91 : decode cX16_lay 91 = .ok (.invokevirtual 72, 3) := by decide +kernel
theorem dX16_lay_94 : decode cX16_lay 94 = .ok (.ireturn, 1) := by decide +kernel
theorem dX16_lay_95 : decode cX16_lay 95 = .ok (.aload_n 0, 1) := by decide +kernel
theorem dX16_lay_96 : decode cX16_lay 96 = .ok (.iconst 5, 1) := by decide +kernel
theorem dX16_lay_97 : decode cX16_lay 97 = .ok (.iload_n 1, 1) := by decide +kernel
theorem dX16_lay_98 : decode cX16_lay 98 = .ok (.iconst 0, 1) := by decide +kernel
theorem dX16_lay_99 : decode cX16_lay 99 = .ok (.invokevirtual 80, 3) := by decide +kernel
theorem dX16_lay_102 : decode cX16_lay 102 = .ok (.getfield 62, 3) := by decide +kernel
theorem dX16_lay_105 : decode cX16_lay 105 = .ok (.aload_n 0, 1) := by decide +kernel
theorem dX16_lay_106 : decode cX16_lay 106 = .ok (.getfield 58, 3) := by decide +kernel
theorem dX16_lay_109 : decode cX16_lay 109 = .ok (.iload_n 1, 1) := by decide +kernel
theorem dX16_lay_110 : decode cX16_lay 110 = .ok (.aaload, 1) := by decide +kernel
theorem dX16_lay_111 : decode cX16_lay 111 = .ok (.invokevirtual 66, 3) := by decide +kernel
theorem dX16_lay_114 : decode cX16_lay 114 = .ok (.aload_n 0, 1) := by decide +kernel
theorem dX16_lay_115 : decode cX16_lay 115 = .ok (.getfield 58, 3) := by decide +kernel
theorem dX16_lay_118 : decode cX16_lay 118 = .ok (.iload_n 1, 1) := by decide +kernel
theorem dX16_lay_119 : decode cX16_lay 119 = .ok (.aaload, 1) := by decide +kernel
theorem dX16_lay_120 : decode cX16_lay 120 = .ok (.astore 5, 2) := by decide +kernel
theorem dX16_lay_122 : decode cX16_lay 122 = .ok (.aload 5, 2) := by decide +kernel
theorem dX16_lay_124 : decode cX16_lay 124 = .ok (.iload_n 2, 1) := by decide +kernel
theorem dX16_lay_125 : decode cX16_lay 125 = .ok (.putfield 369, 3) := by decide +kernel
theorem dX16_lay_128 : decode cX16_lay 128 = .ok (.aload 5, 2) := by decide +kernel
theorem dX16_lay_130 : decode cX16_lay 130 = .ok (.iload_n 3, 1) := by decide +kernel
theorem dX16_lay_131 : decode cX16_lay 131 = .ok (.putfield 372, 3) := by decide +kernel
theorem dX16_lay_134 : decode cX16_lay 134 = .ok (.aload 5, 2) := by decide +kernel
theorem dX16_lay_136 : decode cX16_lay 136 = .ok (.iload_n 2, 1) := by decide +kernel
theorem dX16_lay_137 : decode cX16_lay 137 = .ok (.iconst 3, 1) := by decide +kernel
theorem dX16_lay_138 : decode cX16_lay 138 = .ok (.if_icmp .ne 13, 3) := by decide +kernel
theorem dX16_lay_141 : decode cX16_lay 141 = .ok (.aload_n 0, 1) := by decide +kernel
theorem dX16_lay_142 : decode cX16_lay 142 = .ok (.getfield 31, 3) := by decide +kernel
theorem dX16_lay_145 : decode cX16_lay 145 = .ok (.getfield 236, 3) := by decide +kernel
theorem dX16_lay_148 : decode cX16_lay 148 = .ok (.goto 21, 3) := by decide +kernel
theorem dX16_lay_151 : decode cX16_lay 151 = .ok (.iload_n 2, 1) := by decide +kernel
theorem dX16_lay_152 : decode cX16_lay 152 = .ok (.iconst 4, 1) := by decide +kernel
theorem dX16_lay_153 : decode cX16_lay 153 = .ok (.if_icmp .ne 15, 3) := by decide +kernel
theorem dX16_lay_156 : decode cX16_lay 156 = .ok (.aload_n 0, 1) := by decide +kernel
theorem dX16_lay_157 : decode cX16_lay 157 = .ok (.getfield 31, 3) := by decide +kernel
theorem dX16_lay_160 : decode cX16_lay 160 = .ok (.getfield 226, 3) := by decide +kernel
theorem dX16_lay_163 : decode cX16_lay 163 = .ok (.iload_n 3, 1) := by decide +kernel
theorem dX16_lay_164 : decode cX16_lay 164 = .ok (.iaload, 1) := by decide +kernel
theorem dX16_lay_165 : decode cX16_lay 165 = .ok (.goto 4, 3) := by decide +kernel
theorem dX16_lay_168 : decode cX16_lay 168 = .ok (.iconst 0, 1) := by decide +kernel
theorem dX16_lay_169 : decode cX16_lay 169 = .ok (.putfield 374, 3) := by decide +kernel
theorem dX16_lay_172 : decode cX16_lay 172 = .ok (.iconst 0, 1) := by decide +kernel
theorem dX16_lay_173 : decode cX16_lay 173 = .ok (.istore 6, 2) := by decide +kernel
theorem dX16_lay_175 : decode cX16_lay 175 = .ok (.iload 6, 2) := by decide +kernel
theorem dX16_lay_177 : decode cX16_lay 177 = .ok (.aload 5, 2) := by decide +kernel
theorem dX16_lay_179 : decode cX16_lay 179 = .ok (.getfield 374, 3) := by decide +kernel
theorem dX16_lay_182 : decode cX16_lay 182 = .ok (.if_icmp .ge 63, 3) := by decide +kernel
theorem dX16_lay_185 : decode cX16_lay 185 = .ok (.iload_n 2, 1) := by decide +kernel
theorem dX16_lay_186 : decode cX16_lay 186 = .ok (.iconst 3, 1) := by decide +kernel
theorem dX16_lay_187 : decode cX16_lay 187 = .ok (.if_icmp .ne 29, 3) := by decide +kernel
theorem dX16_lay_190 : decode cX16_lay 190 = .ok (.aload 5, 2) := by decide +kernel
theorem dX16_lay_192 : decode cX16_lay 192 = .ok (.getfield 377, 3) := by decide +kernel
theorem dX16_lay_195 : decode cX16_lay 195 = .ok (.iload 6, 2) := by decide +kernel
theorem dX16_lay_197 : decode cX16_lay 197 = .ok (.aload_n 0, 1) := by decide +kernel
theorem dX16_lay_198 : decode cX16_lay 198 = .ok (.getfield 31, 3) := by decide +kernel
theorem dX16_lay_201 : decode cX16_lay 201 = .ok (.getfield 239, 3) := by decide +kernel
theorem dX16_lay_204 : decode cX16_lay 204 = .ok (.bipush 6, 2) := by decide +kernel
theorem dX16_lay_206 : decode cX16_lay 206 = .ok (.iload_n 3, 1) := by decide +kernel
theorem dX16_lay_207 : decode cX16_lay 207 = .ok (.imul, 1) := by decide +kernel
theorem dX16_lay_208 : decode cX16_lay 208 = .ok (.iload 6, 2) := by decide +kernel
theorem dX16_lay_210 : decode cX16_lay 210 = .ok (.iadd, 1) := by decide +kernel
theorem dX16_lay_211 : decode cX16_lay 211 = .ok (.iaload, 1) := by decide +kernel
theorem dX16_lay_212 : decode cX16_lay 212 = .ok (.iastore, 1) := by decide +kernel
theorem dX16_lay_213 : decode cX16_lay 213 = .ok (.goto 26, 3) := by decide +kernel
theorem dX16_lay_216 : decode cX16_lay 216 = .ok (.aload 5, 2) := by decide +kernel
theorem dX16_lay_218 : decode cX16_lay 218 = .ok (.getfield 378, 3) := by decide +kernel
theorem dX16_lay_221 : decode cX16_lay 221 = .ok (.iload 6, 2) := by decide +kernel
theorem dX16_lay_223 : decode cX16_lay 223 = .ok (.aload_n 0, 1) := by decide +kernel
theorem dX16_lay_224 : decode cX16_lay 224 = .ok (.getfield 31, 3) := by decide +kernel
theorem dX16_lay_227 : decode cX16_lay 227 = .ok (.getfield 229, 3) := by decide +kernel
theorem dX16_lay_230 : decode cX16_lay 230 = .ok (.bipush 16, 2) := by decide +kernel
theorem dX16_lay_232 : decode cX16_lay 232 = .ok (.iload_n 3, 1) := by decide +kernel
theorem dX16_lay_233 : decode cX16_lay 233 = .ok (.imul, 1) := by decide +kernel
theorem dX16_lay_234 : decode cX16_lay 234 = .ok (.iload 6, 2) := by decide +kernel
theorem dX16_lay_236 : decode cX16_lay 236 = .ok (.iadd, 1) := by decide +kernel
theorem dX16_lay_237 : decode cX16_lay 237 = .ok (.laload, 1) := by decide +kernel
theorem dX16_lay_238 : decode cX16_lay 238 = .ok (.lastore, 1) := by decide +kernel
theorem dX16_lay_239 : decode cX16_lay 239 = .ok (.iinc 6 1, 3) := by decide +kernel
theorem dX16_lay_242 : decode cX16_lay 242 = .ok (.goto (-67), 3) := by decide +kernel
theorem dX16_lay_245 : decode cX16_lay 245 = .ok (.aload_n 0, 1) := by decide +kernel
theorem dX16_lay_246 : decode cX16_lay 246 = .ok (.iconst 1, 1) := by decide +kernel
theorem dX16_lay_247 : decode cX16_lay 247 = .ok (.invokevirtual 84, 3) := by decide +kernel
theorem dX16_lay_250 : decode cX16_lay 250 = .ok (.ireturn, 1) := by decide +kernel
theorem dX16_lies_0 : decode cX16_lies 0 = .ok (.aload_n 0, 1) := by decide +kernel
theorem dX16_lies_1 : decode cX16_lies 1 = .ok (.iconst 0, 1) := by decide +kernel
theorem dX16_lies_2 : decode cX16_lies 2 = .ok (.putfield 1, 3) := by decide +kernel
theorem dX16_lies_5 : decode cX16_lies 5 = .ok (.iload_n 1, 1) := by decide +kernel
theorem dX16_lies_6 : decode cX16_lies 6 = .ok (.invokestatic 366, 3) := by decide +kernel
theorem dX16_lies_9 : decode cX16_lies 9 = .ok (.ifCond .eq 19, 3) := by decide +kernel
theorem dX16_lies_12 : decode cX16_lies 12 = .ok (.aload_n 0, 1) := by decide +kernel
theorem dX16_lies_13 : decode cX16_lies 13 = .ok (.aload_n 0, 1) := by decide +kernel
theorem dX16_lies_14 : decode cX16_lies 14 = .ok (.getfield 58, 3) := by decide +kernel
theorem dX16_lies_17 : decode cX16_lies 17 = .ok (.iload_n 1, 1) := by decide +kernel
theorem dX16_lies_18 : decode cX16_lies 18 = .ok (.aaload, 1) := by decide +kernel
theorem dX16_lies_19 : decode cX16_lies 19 = .ok (.getfield 369, 3) := by decide +kernel
theorem dX16_lies_22 : decode cX16_lies 22 = .ok (.invokevirtual 84, 3) := by decide +kernel
theorem dX16_lies_25 : decode cX16_lies 25 = .ok (.goto 8, 3) := by decide +kernel
theorem dX16_lies_28 : decode cX16_lies 28 = .ok (.aload_n 0, 1) := by decide +kernel
theorem dX16_lies_29 : decode cX16_lies 29 = .ok (.iconst 1, 1) := by decide +kernel
theorem dX16_lies_30 : decode cX16_lies 30 = .ok (.invokevirtual 72, 3) := by decide +kernel
theorem dX16_lies_33 : decode cX16_lies 33 = .ok (.ireturn, 1) := by decide +kernel
theorem dX16_taken_0 : decode cX16_taken 0 = .ok (.aload_n 0, 1) := by decide +kernel
theorem dX16_taken_1 : decode cX16_taken 1 = .ok (.iconst 0, 1) := by decide +kernel
theorem dX16_taken_2 : decode cX16_taken 2 = .ok (.putfield 1, 3) := by decide +kernel
theorem dX16_taken_5 : decode cX16_taken 5 = .ok (.iload_n 1, 1) := by decide +kernel
theorem dX16_taken_6 : decode cX16_taken 6 = .ok (.invokestatic 366, 3) := by decide +kernel
theorem dX16_taken_9 : decode cX16_taken 9 = .ok (.ifCond .ne 10, 3) := by decide +kernel
theorem dX16_taken_12 : decode cX16_taken 12 = .ok (.aload_n 0, 1) := by decide +kernel
theorem dX16_taken_13 : decode cX16_taken 13 = .ok (.iconst 1, 1) := by decide +kernel
theorem dX16_taken_14 : decode cX16_taken 14 = .ok (.invokevirtual 72, 3) := by decide +kernel
theorem dX16_taken_17 : decode cX16_taken 17 = .ok (.i2l, 1) := by decide +kernel
theorem dX16_taken_18 : decode cX16_taken 18 = .ok (.lreturn, 1) := by decide +kernel
theorem dX16_taken_19 : decode cX16_taken 19 = .ok (.iload_n 2, 1) := by decide +kernel
theorem dX16_taken_20 : decode cX16_taken 20 = .ok (.iconst 1, 1) := by decide +kernel
theorem dX16_taken_21 : decode cX16_taken 21 = .ok (.if_icmp .lt 8, 3) := by decide +kernel
theorem dX16_taken_24 : decode cX16_taken 24 = .ok (.iload_n 2, 1) := by decide +kernel
theorem dX16_taken_25 : decode cX16_taken 25 = .ok (.iconst 4, 1) := by decide +kernel
theorem dX16_taken_26 : decode cX16_taken 26 = .ok (.if_icmp .le 10, 3) := by decide +kernel
theorem dX16_taken_29 : decode cX16_taken 29 = .ok (.aload_n 0, 1) := by decide +kernel
theorem dX16_taken_30 : decode cX16_taken 30 = .ok (.iconst 2, 1) := by decide +kernel
theorem dX16_taken_31 : decode cX16_taken 31 = .ok (.invokevirtual 72, 3) := by decide +kernel
theorem dX16_taken_34 : decode cX16_taken 34 = .ok (.i2l, 1) := by decide +kernel
theorem dX16_taken_35 : decode cX16_taken 35 = .ok (.lreturn, 1) := by decide +kernel
theorem dX16_taken_36 : decode cX16_taken 36 = .ok (.aload_n 0, 1) := by decide +kernel
theorem dX16_taken_37 : decode cX16_taken 37 = .ok (.getfield 58, 3) := by decide +kernel
theorem dX16_taken_40 : decode cX16_taken 40 = .ok (.iload_n 1, 1) := by decide +kernel
theorem dX16_taken_41 : decode cX16_taken 41 = .ok (.aaload, 1) := by decide +kernel
theorem dX16_taken_42 : decode cX16_taken 42 = .ok (.astore 4, 2) := by decide +kernel
theorem dX16_taken_44 : decode cX16_taken 44 = .ok (.aload 4, 2) := by decide +kernel
theorem dX16_taken_46 : decode cX16_taken 46 = .ok (.getfield 369, 3) := by decide +kernel
theorem dX16_taken_49 : decode cX16_taken 49 = .ok (.iload_n 2, 1) := by decide +kernel
theorem dX16_taken_50 : decode cX16_taken 50 = .ok (.if_icmp .eq 11, 3) := by decide +kernel
theorem dX16_taken_53 : decode cX16_taken 53 = .ok (.aload_n 0, 1) := by decide +kernel
theorem dX16_taken_54 : decode cX16_taken 54 = .ok (.bipush 7, 2) := by decide +kernel
theorem dX16_taken_56 : decode cX16_taken 56 = .ok (.invokevirtual 72, 3) := by decide +kernel
theorem dX16_taken_59 : decode cX16_taken 59 = .ok (.i2l, 1) := by decide +kernel
theorem dX16_taken_60 : decode cX16_taken 60 = .ok (.lreturn, 1) := by decide +kernel
theorem dX16_taken_61 : decode cX16_taken 61 = .ok (.iload_n 2, 1) := by decide +kernel
theorem dX16_taken_62 : decode cX16_taken 62 = .ok (.iconst 3, 1) := by decide +kernel
theorem dX16_taken_63 : decode cX16_taken 63 = .ok (.if_icmp .ge 14, 3) := by decide +kernel
theorem dX16_taken_66 : decode cX16_taken 66 = .ok (.aload_n 0, 1) := by decide +kernel
theorem dX16_taken_67 : decode cX16_taken 67 = .ok (.aload 4, 2) := by decide +kernel
theorem dX16_taken_69 : decode cX16_taken 69 = .ok (.getfield 372, 3) := by decide +kernel
theorem dX16_taken_72 : decode cX16_taken 72 = .ok (.invokevirtual 84, 3) := by decide +kernel
theorem dX16_taken_75 : decode cX16_taken 75 = .ok (.i2l, 1) := by decide +kernel
theorem dX16_taken_76 : decode cX16_taken 76 = .ok (.lreturn, 1) := by decide +kernel
theorem dX16_taken_77 : decode cX16_taken 77 = .ok (.iload_n 3, 1) := by decide +kernel
theorem dX16_taken_78 : decode cX16_taken 78 = .ok (.ifCond .lt 12, 3) := by decide +kernel
theorem dX16_taken_81 : decode cX16_taken 81 = .ok (.iload_n 3, 1) := by decide +kernel
theorem dX16_taken_82 : decode cX16_taken 82 = .ok (.aload 4, 2) := by decide +kernel
theorem dX16_taken_84 : decode cX16_taken 84 = .ok (.getfield 374, 3) := by decide +kernel
theorem dX16_taken_87 : decode cX16_taken 87 = .ok (.if_icmp .lt 10, 3) := by decide +kernel
theorem dX16_taken_90 : decode cX16_taken 90 = .ok (.aload_n 0, 1) := by decide +kernel
theorem dX16_taken_91 : decode cX16_taken 91 = .ok (.iconst 1, 1) := by decide +kernel
theorem dX16_taken_92 : decode cX16_taken 92 = .ok (.invokevirtual 72, 3) := by decide +kernel
theorem dX16_taken_95 : decode cX16_taken 95 = .ok (.i2l, 1) := by decide +kernel
theorem dX16_taken_96 : decode cX16_taken 96 = .ok (.lreturn, 1) := by decide +kernel
theorem dX16_taken_97 : decode cX16_taken 97 = .ok (.aload_n 0, 1) := by decide +kernel
theorem dX16_taken_98 : decode cX16_taken 98 = .ok (.iconst 0, 1) := by decide +kernel
theorem dX16_taken_99 : decode cX16_taken 99 = .ok (.putfield 7, 3) := by decide +kernel
theorem dX16_taken_102 : decode cX16_taken 102 = .ok (.iload_n 2, 1) := by decide +kernel
theorem dX16_taken_103 : decode cX16_taken 103 = .ok (.iconst 3, 1) := by decide +kernel
theorem dX16_taken_104 : decode cX16_taken 104 = .ok (.if_icmp .ne 14, 3) := by decide +kernel
theorem dX16_taken_107 : decode cX16_taken 107 = .ok (.aload 4, 2) := by decide +kernel
theorem dX16_taken_109 : decode cX16_taken 109 = .ok (.getfield 377, 3) := by decide +kernel
theorem dX16_taken_112 : decode cX16_taken 112 = .ok (.iload_n 3, 1) := by decide +kernel
theorem dX16_taken_113 : decode cX16_taken 113 = .ok (.iaload, 1) := by decide +kernel
theorem dX16_taken_114 : decode cX16_taken 114 = .ok (.i2l, 1) := by decide +kernel
theorem dX16_taken_115 : decode cX16_taken 115 = .ok (.goto 10, 3) := by decide +kernel
theorem dX16_taken_118 : decode cX16_taken 118 = .ok (.aload 4, 2) := by decide +kernel
theorem dX16_taken_120 : decode cX16_taken 120 = .ok (.getfield 378, 3) := by decide +kernel
theorem dX16_taken_123 : decode cX16_taken 123 = .ok (.iload_n 3, 1) := by decide +kernel
theorem dX16_taken_124 : decode cX16_taken 124 = .ok (.laload, 1) := by decide +kernel
theorem dX16_taken_125 : decode cX16_taken 125 = .ok (.lreturn, 1) := by decide +kernel
theorem dX16_copy_0 : decode cX16_copy 0 = .ok (.aload_n 0, 1) := by decide +kernel
theorem dX16_copy_1 : decode cX16_copy 1 = .ok (.iconst 0, 1) := by decide +kernel
theorem dX16_copy_2 : decode cX16_copy 2 = .ok (.putfield 1, 3) := by decide +kernel
theorem dX16_copy_5 : decode cX16_copy 5 = .ok (.iload_n 1, 1) := by decide +kernel
theorem dX16_copy_6 : decode cX16_copy 6 = .ok (.invokestatic 366, 3) := by decide +kernel
theorem dX16_copy_9 : decode cX16_copy 9 = .ok (.ifCond .eq 10, 3) := by decide +kernel
theorem dX16_copy_12 : decode cX16_copy 12 = .ok (.iload_n 3, 1) := by decide +kernel
theorem dX16_copy_13 : decode cX16_copy 13 = .ok (.invokestatic 366, 3) := by decide +kernel
theorem dX16_copy_16 : decode cX16_copy 16 = .ok (.ifCond .ne 9, 3) := by decide +kernel
theorem dX16_copy_19 : decode cX16_copy 19 = .ok (.aload_n 0, 1) := by decide +kernel
theorem dX16_copy_20 : decode cX16_copy 20 = .ok (.iconst 1, 1) := by decide +kernel
theorem dX16_copy_21 : decode cX16_copy 21 = .ok (.invokevirtual 72, 3) := by decide +kernel
theorem dX16_copy_24 : decode cX16_copy 24 = .ok (.ireturn, 1) := by decide +kernel
theorem dX16_copy_25 : decode cX16_copy 25 = .ok (.aload_n 0, 1) := by decide +kernel
theorem dX16_copy_26 : decode cX16_copy 26 = .ok (.getfield 58, 3) := by decide +kernel
theorem dX16_copy_29 : decode cX16_copy 29 = .ok (.iload_n 1, 1) := by decide +kernel
theorem dX16_copy_30 : decode cX16_copy 30 = .ok (.aaload, 1) := by decide +kernel
theorem dX16_copy_31 : decode cX16_copy 31 = .ok (.astore 6, 2) := by decide +kernel
theorem dX16_copy_33 : decode cX16_copy 33 = .ok (.aload_n 0, 1) := by decide +kernel
theorem dX16_copy_34 : decode cX16_copy 34 = .ok (.getfield 58, 3) := by decide +kernel
theorem dX16_copy_37 : decode cX16_copy 37 = .ok (.iload_n 3, 1) := by decide +kernel
theorem dX16_copy_38 : decode cX16_copy 38 = .ok (.aaload, 1) := by decide +kernel
theorem dX16_copy_39 : decode cX16_copy 39 = .ok (.astore 7, 2) := by decide +kernel
theorem dX16_copy_41 : decode cX16_copy 41 = .ok (.aload 6, 2) := by decide +kernel
theorem dX16_copy_43 : decode cX16_copy 43 = .ok (.getfield 369, 3) := by decide +kernel
theorem dX16_copy_46 : decode cX16_copy 46 = .ok (.iconst 3, 1) := by decide +kernel
theorem dX16_copy_47 : decode cX16_copy 47 = .ok (.if_icmp .ne 12, 3) := by decide +kernel
theorem dX16_copy_50 : decode cX16_copy 50 = .ok (.aload 7, 2) := by decide +kernel
theorem dX16_copy_52 : decode cX16_copy 52 = .ok (.getfield 369, 3) := by decide +kernel
theorem dX16_copy_55 : decode cX16_copy 55 = .ok (.iconst 3, 1) := by decide +kernel
theorem dX16_copy_56 : decode cX16_copy 56 = .ok (.if_icmp .eq 10, 3) := by decide +kernel
theorem dX16_copy_59 : decode cX16_copy 59 = .ok (.aload_n 0, 1) := by decide +kernel
theorem dX16_copy_60 : decode cX16_copy 60 = .ok (.bipush 7, 2) := by decide +kernel
theorem dX16_copy_62 : decode cX16_copy 62 = .ok (.invokevirtual 72, 3) := by decide +kernel
theorem dX16_copy_65 : decode cX16_copy 65 = .ok (.ireturn, 1) := by decide +kernel
theorem dX16_copy_66 : decode cX16_copy 66 = .ok (.iload_n 2, 1) := by decide +kernel
theorem dX16_copy_67 : decode cX16_copy 67 = .ok (.ifCond .lt 38, 3) := by decide +kernel
theorem dX16_copy_70 : decode cX16_copy 70 = .ok (.iload 4, 2) := by decide +kernel
theorem dX16_copy_72 : decode cX16_copy 72 = .ok (.ifCond .lt 33, 3) := by decide +kernel
theorem dX16_copy_75 : decode cX16_copy 75 = .ok (.iload 5, 2) := by decide +kernel
theorem dX16_copy_77 : decode cX16_copy 77 = .ok (.ifCond .lt 28, 3) := by decide +kernel
theorem dX16_copy_80 : decode cX16_copy 80 = .ok (.iload 5, 2) := by decide +kernel
theorem dX16_copy_82 : decode cX16_copy 82 = .ok (.aload 6, 2) := by decide +kernel
theorem dX16_copy_84 : decode cX16_copy 84 = .ok (.getfield 374, 3) := by decide +kernel
theorem dX16_copy_87 : decode cX16_copy 87 = .ok (.iload_n 2, 1) := by decide +kernel
theorem dX16_copy_88 : decode cX16_copy 88 = .ok (.isub, 1) := by decide +kernel
theorem dX16_copy_89 : decode cX16_copy 89 = .ok (.if_icmp .gt 16, 3) := by decide +kernel
theorem dX16_copy_92 : decode cX16_copy 92 = .ok (.iload 5, 2) := by decide +kernel
theorem dX16_copy_94 : decode cX16_copy 94 = .ok (.aload 7, 2) := by decide +kernel
theorem dX16_copy_96 : decode cX16_copy 96 = .ok (.getfield 374, 3) := by decide +kernel
theorem dX16_copy_99 : decode cX16_copy 99 = .ok (.iload 4, 2) := by decide +kernel
theorem dX16_copy_101 : decode cX16_copy 101 = .ok (.isub, 1) := by decide +kernel
theorem dX16_copy_102 : decode cX16_copy 102 = .ok (.if_icmp .le 9, 3) := by decide +kernel
theorem dX16_copy_105 : decode cX16_copy 105 = .ok (.aload_n 0, 1) := by decide +kernel
theorem dX16_copy_106 : decode cX16_copy 106 = .ok (.iconst 2, 1) := by decide +kernel
theorem dX16_copy_107 : decode cX16_copy 107 = .ok (.invokevirtual 72, 3) := by decide +kernel
theorem dX16_copy_110 : decode cX16_copy 110 = .ok (.ireturn, 1) := by decide +kernel
theorem dX16_copy_111 : decode cX16_copy 111 = .ok (.aload_n 0, 1) := by decide +kernel
theorem dX16_copy_112 : decode cX16_copy 112 = .ok (.iconst 5, 1) := by decide +kernel
theorem dX16_copy_113 : decode cX16_copy 113 = .ok (.iload_n 3, 1) := by decide +kernel
theorem dX16_copy_114 : decode cX16_copy 114 = .ok (.iconst 0, 1) := by decide +kernel
theorem dX16_copy_115 : decode cX16_copy 115 = .ok (.invokevirtual 80, 3) := by decide +kernel
theorem dX16_copy_118 : decode cX16_copy 118 = .ok (.getfield 62, 3) := by decide +kernel
theorem dX16_copy_121 : decode cX16_copy 121 = .ok (.aload 7, 2) := by decide +kernel
theorem dX16_copy_123 : decode cX16_copy 123 = .ok (.invokevirtual 66, 3) := by decide +kernel
theorem dX16_copy_126 : decode cX16_copy 126 = .ok (.iconst 0, 1) := by decide +kernel
theorem dX16_copy_127 : decode cX16_copy 127 = .ok (.istore 8, 2) := by decide +kernel
theorem dX16_copy_129 : decode cX16_copy 129 = .ok (.iload 8, 2) := by decide +kernel
theorem dX16_copy_131 : decode cX16_copy 131 = .ok (.iload 5, 2) := by decide +kernel
theorem dX16_copy_133 : decode cX16_copy 133 = .ok (.if_icmp .ge 26, 3) := by decide +kernel
theorem dX16_copy_136 : decode cX16_copy 136 = .ok (.aload_n 0, 1) := by decide +kernel
theorem dX16_copy_137 : decode cX16_copy 137 = .ok (.getfield 200, 3) := by decide +kernel
theorem dX16_copy_140 : decode cX16_copy 140 = .ok (.iload 8, 2) := by decide +kernel
theorem dX16_copy_142 : decode cX16_copy 142 = .ok (.aload 6, 2) := by decide +kernel
theorem dX16_copy_144 : decode cX16_copy 144 = .ok (.getfield 377, 3) := by decide +kernel
theorem dX16_copy_147 : decode cX16_copy 147 = .ok (.iload_n 2, 1) := by decide +kernel
theorem dX16_copy_148 : decode cX16_copy 148 = .ok (.iload 8, 2) := by decide +kernel
theorem dX16_copy_150 : decode cX16_copy 150 = .ok (.iadd, 1) := by decide +kernel
theorem dX16_copy_151 : decode cX16_copy 151 = .ok (.iaload, 1) := by decide +kernel
theorem dX16_copy_152 : decode cX16_copy 152 = .ok (.iastore, 1) := by decide +kernel
theorem dX16_copy_153 : decode cX16_copy 153 = .ok (.iinc 8 1, 3) := by decide +kernel
theorem dX16_copy_156 : decode cX16_copy 156 = .ok (.goto (-27), 3) := by decide +kernel
theorem dX16_copy_159 : decode cX16_copy 159 = .ok (.iconst 0, 1) := by decide +kernel
theorem dX16_copy_160 : decode cX16_copy 160 = .ok (.istore 8, 2) := by decide +kernel
theorem dX16_copy_162 : decode cX16_copy 162 = .ok (.iload 8, 2) := by decide +kernel
theorem dX16_copy_164 : decode cX16_copy 164 = .ok (.iload 5, 2) := by decide +kernel
theorem dX16_copy_166 : decode cX16_copy 166 = .ok (.if_icmp .ge 27, 3) := by decide +kernel
theorem dX16_copy_169 : decode cX16_copy 169 = .ok (.aload 7, 2) := by decide +kernel
theorem dX16_copy_171 : decode cX16_copy 171 = .ok (.getfield 377, 3) := by decide +kernel
theorem dX16_copy_174 : decode cX16_copy 174 = .ok (.iload 4, 2) := by decide +kernel
theorem dX16_copy_176 : decode cX16_copy 176 = .ok (.iload 8, 2) := by decide +kernel
theorem dX16_copy_178 : decode cX16_copy 178 = .ok (.iadd, 1) := by decide +kernel
theorem dX16_copy_179 : decode cX16_copy 179 = .ok (.aload_n 0, 1) := by decide +kernel
theorem dX16_copy_180 : decode cX16_copy 180 = .ok (.getfield 200, 3) := by decide +kernel
theorem dX16_copy_183 : decode cX16_copy 183 = .ok (.iload 8, 2) := by decide +kernel
theorem dX16_copy_185 : decode cX16_copy 185 = .ok (.iaload, 1) := by decide +kernel
theorem dX16_copy_186 : decode cX16_copy 186 = .ok (.iastore, 1) := by decide +kernel
theorem dX16_copy_187 : decode cX16_copy 187 = .ok (.iinc 8 1, 3) := by decide +kernel
theorem dX16_copy_190 : decode cX16_copy 190 = .ok (.goto (-28), 3) := by decide +kernel
theorem dX16_copy_193 : decode cX16_copy 193 = .ok (.aload_n 0, 1) := by decide +kernel
theorem dX16_copy_194 : decode cX16_copy 194 = .ok (.iconst 1, 1) := by decide +kernel
theorem dX16_copy_195 : decode cX16_copy 195 = .ok (.invokevirtual 84, 3) := by decide +kernel
theorem dX16_copy_198 : decode cX16_copy 198 = .ok (.ireturn, 1) := by decide +kernel
theorem dX16_size_0 : decode cX16_size 0 = .ok (.aload_n 0, 1) := by decide +kernel
theorem dX16_size_1 : decode cX16_size 1 = .ok (.iconst 0, 1) := by decide +kernel
theorem dX16_size_2 : decode cX16_size 2 = .ok (.putfield 1, 3) := by decide +kernel
theorem dX16_size_5 : decode cX16_size 5 = .ok (.iload_n 1, 1) := by decide +kernel
theorem dX16_size_6 : decode cX16_size 6 = .ok (.tableswitch 62 0 4 #[34, 39, 44, 49, 57], 34) := by decide +kernel
theorem dX16_size_40 : decode cX16_size 40 = .ok (.aload_n 0, 1) := by decide +kernel
theorem dX16_size_41 : decode cX16_size 41 = .ok (.getfield 28, 3) := by decide +kernel
theorem dX16_size_44 : decode cX16_size 44 = .ok (.ireturn, 1) := by decide +kernel
theorem dX16_size_45 : decode cX16_size 45 = .ok (.aload_n 0, 1) := by decide +kernel
theorem dX16_size_46 : decode cX16_size 46 = .ok (.getfield 40, 3) := by decide +kernel
theorem dX16_size_49 : decode cX16_size 49 = .ok (.ireturn, 1) := by decide +kernel
theorem dX16_size_50 : decode cX16_size 50 = .ok (.aload_n 0, 1) := by decide +kernel
theorem dX16_size_51 : decode cX16_size 51 = .ok (.getfield 55, 3) := by decide +kernel
theorem dX16_size_54 : decode cX16_size 54 = .ok (.ireturn, 1) := by decide +kernel
theorem dX16_size_55 : decode cX16_size 55 = .ok (.aload_n 0, 1) := by decide +kernel
theorem dX16_size_56 : decode cX16_size 56 = .ok (.getfield 31, 3) := by decide +kernel
theorem dX16_size_59 : decode cX16_size 59 = .ok (.getfield 35, 3) := by decide +kernel
theorem dX16_size_62 : decode cX16_size 62 = .ok (.ireturn, 1) := by decide +kernel
theorem dX16_size_63 : decode cX16_size 63 = .ok (.aload_n 0, 1) := by decide +kernel
theorem dX16_size_64 : decode cX16_size 64 = .ok (.getfield 10, 3) := by decide +kernel
theorem dX16_size_67 : decode cX16_size 67 = .ok (.ireturn, 1) := by decide +kernel
theorem dX16_size_68 : decode cX16_size 68 = .ok (.iconst (-1), 1) := by decide +kernel
theorem dX16_size_69 : decode cX16_size 69 = .ok (.ireturn, 1) := by decide +kernel
theorem dX16_status_0 : decode cX16_status 0 = .ok (.aload_n 0, 1) := by decide +kernel
theorem dX16_status_1 : decode cX16_status 1 = .ok (.iconst 0, 1) := by decide +kernel
theorem dX16_status_2 : decode cX16_status 2 = .ok (.putfield 1, 3) := by decide +kernel
theorem dX16_status_5 : decode cX16_status 5 = .ok (.aload_n 0, 1) := by decide +kernel
theorem dX16_status_6 : decode cX16_status 6 = .ok (.getfield 7, 3) := by decide +kernel
theorem dX16_status_9 : decode cX16_status 9 = .ok (.ireturn, 1) := by decide +kernel
