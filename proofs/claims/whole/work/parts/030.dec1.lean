theorem dX0_init_0 : decode cX0_init 0 = .ok (.aload_n 0, 1) := by decide +kernel
theorem dX0_init_1 : decode cX0_init 1 = .ok (.invokespecial 3, 3) := by decide +kernel
theorem dX0_init_4 : decode cX0_init 4 = .ok (.aload_n 0, 1) := by decide +kernel
theorem dX0_init_5 : decode cX0_init 5 = .ok (.sipush 128, 3) := by decide +kernel
theorem dX0_init_8 : decode cX0_init 8 = .ok (.newarray .int, 2) := by decide +kernel
theorem dX0_init_10 : decode cX0_init 10 = .ok (.putfield 9, 3) := by decide +kernel
theorem dX0_init_13 : decode cX0_init 13 = .ok (.aload_n 0, 1) := by decide +kernel
theorem dX0_init_14 : decode cX0_init 14 = .ok (.bipush 7, 2) := by decide +kernel
theorem dX0_init_16 : decode cX0_init 16 = .ok (.newarray .int, 2) := by decide +kernel
theorem dX0_init_18 : decode cX0_init 18 = .ok (.putfield 15, 3) := by decide +kernel
theorem dX0_init_21 : decode cX0_init 21 = .ok (.return_, 1) := by decide +kernel
theorem dX0_pair_0 : decode cX0_pair 0 = .ok (.aload_n 1, 1) := by decide +kernel
theorem dX0_pair_1 : decode cX0_pair 1 = .ok (.invokevirtual 18, 3) := by decide +kernel
theorem dX0_pair_4 : decode cX0_pair 4 = .ok (.istore_n 2, 1) := by decide +kernel
theorem dX0_pair_5 : decode cX0_pair 5 = .ok (.aload_n 0, 1) := by decide +kernel
theorem dX0_pair_6 : decode cX0_pair 6 = .ok (.getfield 9, 3) := by decide +kernel
theorem dX0_pair_9 : decode cX0_pair 9 = .ok (.iconst 0, 1) := by decide +kernel
theorem dX0_pair_10 : decode cX0_pair 10 = .ok (.iconst 0, 1) := by decide +kernel
theorem dX0_pair_11 : decode cX0_pair 11 = .ok (.iastore, 1) := by decide +kernel
theorem dX0_pair_12 : decode cX0_pair 12 = .ok (.iconst 1, 1) := by decide +kernel
theorem dX0_pair_13 : decode cX0_pair 13 = .ok (.istore_n 3, 1) := by decide +kernel
theorem dX0_pair_14 : decode cX0_pair 14 = .ok (.iload_n 3, 1) := by decide +kernel
theorem dX0_pair_15 : decode cX0_pair 15 = .ok (.iload_n 2, 1) := by decide +kernel
theorem dX0_pair_16 : decode cX0_pair 16 = .ok (.if_icmp .gt 21, 3) := by decide +kernel
theorem dX0_pair_19 : decode cX0_pair 19 = .ok (.aload_n 0, 1) := by decide +kernel
theorem dX0_pair_20 : decode cX0_pair 20 = .ok (.getfield 9, 3) := by decide +kernel
theorem dX0_pair_23 : decode cX0_pair 23 = .ok (.iload_n 3, 1) := by decide +kernel
theorem dX0_pair_24 : decode cX0_pair 24 = .ok (.aload_n 0, 1) := by decide +kernel
theorem dX0_pair_25 : decode cX0_pair 25 = .ok (.aload_n 1, 1) := by decide +kernel
theorem dX0_pair_26 : decode cX0_pair 26 = .ok (.iload_n 3, 1) := by decide +kernel
theorem dX0_pair_27 : decode cX0_pair 27 = .ok (.invokevirtual 24, 3) := by decide +kernel
theorem dX0_pair_30 : decode cX0_pair 30 = .ok (.iastore, 1) := by decide +kernel
theorem dX0_pair_31 : decode cX0_pair 31 = .ok (.iinc 3 1, 3) := by decide +kernel
theorem dX0_pair_34 : decode cX0_pair 34 = .ok (.goto (-20), 3) := by decide +kernel
theorem dX0_pair_37 : decode cX0_pair 37 = .ok (.aload_n 0, 1) := by decide +kernel
theorem dX0_pair_38 : decode cX0_pair 38 = .ok (.getfield 15, 3) := by decide +kernel
theorem dX0_pair_41 : decode cX0_pair 41 = .ok (.bipush (-2), 2) := by decide +kernel
theorem dX0_pair_43 : decode cX0_pair 43 = .ok (.invokestatic 28, 3) := by decide +kernel
theorem dX0_pair_46 : decode cX0_pair 46 = .ok (.iload_n 2, 1) := by decide +kernel
theorem dX0_pair_47 : decode cX0_pair 47 = .ok (.istore_n 3, 1) := by decide +kernel
theorem dX0_pair_48 : decode cX0_pair 48 = .ok (.iconst 0, 1) := by decide +kernel
theorem dX0_pair_49 : decode cX0_pair 49 = .ok (.istore 4, 2) := by decide +kernel
theorem dX0_pair_51 : decode cX0_pair 51 = .ok (.iload 4, 2) := by decide +kernel
theorem dX0_pair_53 : decode cX0_pair 53 = .ok (.aload_n 1, 1) := by decide +kernel
theorem dX0_pair_54 : decode cX0_pair 54 = .ok (.getfield 34, 3) := by decide +kernel
theorem dX0_pair_57 : decode cX0_pair 57 = .ok (.if_icmp .ge 28, 3) := by decide +kernel
theorem dX0_pair_60 : decode cX0_pair 60 = .ok (.iload_n 3, 1) := by decide +kernel
theorem dX0_pair_61 : decode cX0_pair 61 = .ok (.iload 4, 2) := by decide +kernel
theorem dX0_pair_63 : decode cX0_pair 63 = .ok (.ishr, 1) := by decide +kernel
theorem dX0_pair_64 : decode cX0_pair 64 = .ok (.iconst 1, 1) := by decide +kernel
theorem dX0_pair_65 : decode cX0_pair 65 = .ok (.iand, 1) := by decide +kernel
theorem dX0_pair_66 : decode cX0_pair 66 = .ok (.iconst 1, 1) := by decide +kernel
theorem dX0_pair_67 : decode cX0_pair 67 = .ok (.if_icmp .ne 12, 3) := by decide +kernel
theorem dX0_pair_70 : decode cX0_pair 70 = .ok (.aload_n 0, 1) := by decide +kernel
theorem dX0_pair_71 : decode cX0_pair 71 = .ok (.aload_n 1, 1) := by decide +kernel
theorem dX0_pair_72 : decode cX0_pair 72 = .ok (.iload 4, 2) := by decide +kernel
theorem dX0_pair_74 : decode cX0_pair 74 = .ok (.iload_n 3, 1) := by decide +kernel
theorem dX0_pair_75 : decode cX0_pair 75 = .ok (.invokevirtual 38, 3) := by decide +kernel
theorem dX0_pair_78 : decode cX0_pair 78 = .ok (.istore_n 3, 1) := by decide +kernel
theorem dX0_pair_79 : decode cX0_pair 79 = .ok (.iinc 4 1, 3) := by decide +kernel
theorem dX0_pair_82 : decode cX0_pair 82 = .ok (.goto (-31), 3) := by decide +kernel
theorem dX0_pair_85 : decode cX0_pair 85 = .ok (.aload_n 0, 1) := by decide +kernel
theorem dX0_pair_86 : decode cX0_pair 86 = .ok (.getfield 9, 3) := by decide +kernel
theorem dX0_pair_89 : decode cX0_pair 89 = .ok (.iload_n 2, 1) := by decide +kernel
theorem dX0_pair_90 : decode cX0_pair 90 = .ok (.iaload, 1) := by decide +kernel
theorem dX0_pair_91 : decode cX0_pair 91 = .ok (.ireturn, 1) := by decide +kernel
theorem dX0_pairsAmong_0 : decode cX0_pairsAmong 0 = .ok (.iload_n 2, 1) := by decide +kernel
theorem dX0_pairsAmong_1 : decode cX0_pairsAmong 1 = .ok (.invokestatic 42, 3) := by decide +kernel
theorem dX0_pairsAmong_4 : decode cX0_pairsAmong 4 = .ok (.istore_n 3, 1) := by decide +kernel
theorem dX0_pairsAmong_5 : decode cX0_pairsAmong 5 = .ok (.iload_n 2, 1) := by decide +kernel
theorem dX0_pairsAmong_6 : decode cX0_pairsAmong 6 = .ok (.iconst 1, 1) := by decide +kernel
theorem dX0_pairsAmong_7 : decode cX0_pairsAmong 7 = .ok (.iload_n 3, 1) := by decide +kernel
theorem dX0_pairsAmong_8 : decode cX0_pairsAmong 8 = .ok (.ishl, 1) := by decide +kernel
theorem dX0_pairsAmong_9 : decode cX0_pairsAmong 9 = .ok (.iconst (-1), 1) := by decide +kernel
theorem dX0_pairsAmong_10 : decode cX0_pairsAmong 10 = .ok (.ixor, 1) := by decide +kernel
theorem dX0_pairsAmong_11 : decode cX0_pairsAmong 11 = .ok (.iand, 1) := by decide +kernel
theorem dX0_pairsAmong_12 : decode cX0_pairsAmong 12 = .ok (.istore 4, 2) := by decide +kernel
theorem dX0_pairsAmong_14 : decode cX0_pairsAmong 14 = .ok (.aload_n 0, 1) := by decide +kernel
theorem dX0_pairsAmong_15 : decode cX0_pairsAmong 15 = .ok (.getfield 9, 3) := by decide +kernel
theorem dX0_pairsAmong_18 : decode cX0_pairsAmong 18 = .ok (.iload 4, 2) := by decide +kernel
theorem dX0_pairsAmong_20 : decode cX0_pairsAmong 20 = .ok (.iaload, 1) := by decide +kernel
theorem dX0_pairsAmong_21 : decode cX0_pairsAmong 21 = .ok (.istore 5, 2) := by decide +kernel
theorem dX0_pairsAmong_23 : decode cX0_pairsAmong 23 = .ok (.aload_n 1, 1) := by decide +kernel
theorem dX0_pairsAmong_24 : decode cX0_pairsAmong 24 = .ok (.iload_n 3, 1) := by decide +kernel
theorem dX0_pairsAmong_25 : decode cX0_pairsAmong 25 = .ok (.invokevirtual 48, 3) := by decide +kernel
theorem dX0_pairsAmong_28 : decode cX0_pairsAmong 28 = .ok (.iload 4, 2) := by decide +kernel
theorem dX0_pairsAmong_30 : decode cX0_pairsAmong 30 = .ok (.iand, 1) := by decide +kernel
theorem dX0_pairsAmong_31 : decode cX0_pairsAmong 31 = .ok (.istore 6, 2) := by decide +kernel
theorem dX0_pairsAmong_33 : decode cX0_pairsAmong 33 = .ok (.iload_n 3, 1) := by decide +kernel
theorem dX0_pairsAmong_34 : decode cX0_pairsAmong 34 = .ok (.iconst 1, 1) := by decide +kernel
theorem dX0_pairsAmong_35 : decode cX0_pairsAmong 35 = .ok (.iadd, 1) := by decide +kernel
theorem dX0_pairsAmong_36 : decode cX0_pairsAmong 36 = .ok (.istore 7, 2) := by decide +kernel
theorem dX0_pairsAmong_38 : decode cX0_pairsAmong 38 = .ok (.iload 7, 2) := by decide +kernel
theorem dX0_pairsAmong_40 : decode cX0_pairsAmong 40 = .ok (.aload_n 1, 1) := by decide +kernel
theorem dX0_pairsAmong_41 : decode cX0_pairsAmong 41 = .ok (.getfield 34, 3) := by decide +kernel
theorem dX0_pairsAmong_44 : decode cX0_pairsAmong 44 = .ok (.if_icmp .ge 43, 3) := by decide +kernel
theorem dX0_pairsAmong_47 : decode cX0_pairsAmong 47 = .ok (.iload 6, 2) := by decide +kernel
theorem dX0_pairsAmong_49 : decode cX0_pairsAmong 49 = .ok (.iload 7, 2) := by decide +kernel
theorem dX0_pairsAmong_51 : decode cX0_pairsAmong 51 = .ok (.ishr, 1) := by decide +kernel
theorem dX0_pairsAmong_52 : decode cX0_pairsAmong 52 = .ok (.iconst 1, 1) := by decide +kernel
theorem dX0_pairsAmong_53 : decode cX0_pairsAmong 53 = .ok (.iand, 1) := by decide +kernel
theorem dX0_pairsAmong_54 : decode cX0_pairsAmong 54 = .ok (.iconst 1, 1) := by decide +kernel
theorem dX0_pairsAmong_55 : decode cX0_pairsAmong 55 = .ok (.if_icmp .ne 26, 3) := by decide +kernel
theorem dX0_pairsAmong_58 : decode cX0_pairsAmong 58 = .ok (.iload 5, 2) := by decide +kernel
theorem dX0_pairsAmong_60 : decode cX0_pairsAmong 60 = .ok (.iconst 1, 1) := by decide +kernel
theorem dX0_pairsAmong_61 : decode cX0_pairsAmong 61 = .ok (.aload_n 0, 1) := by decide +kernel
theorem dX0_pairsAmong_62 : decode cX0_pairsAmong 62 = .ok (.getfield 9, 3) := by decide +kernel
theorem dX0_pairsAmong_65 : decode cX0_pairsAmong 65 = .ok (.iload 4, 2) := by decide +kernel
theorem dX0_pairsAmong_67 : decode cX0_pairsAmong 67 = .ok (.iconst 1, 1) := by decide +kernel
theorem dX0_pairsAmong_68 : decode cX0_pairsAmong 68 = .ok (.iload 7, 2) := by decide +kernel
theorem dX0_pairsAmong_70 : decode cX0_pairsAmong 70 = .ok (.ishl, 1) := by decide +kernel
theorem dX0_pairsAmong_71 : decode cX0_pairsAmong 71 = .ok (.iconst (-1), 1) := by decide +kernel
theorem dX0_pairsAmong_72 : decode cX0_pairsAmong 72 = .ok (.ixor, 1) := by decide +kernel
theorem dX0_pairsAmong_73 : decode cX0_pairsAmong 73 = .ok (.iand, 1) := by decide +kernel
theorem dX0_pairsAmong_74 : decode cX0_pairsAmong 74 = .ok (.iaload, 1) := by decide +kernel
theorem dX0_pairsAmong_75 : decode cX0_pairsAmong 75 = .ok (.iadd, 1) := by decide +kernel
theorem dX0_pairsAmong_76 : decode cX0_pairsAmong 76 = .ok (.invokestatic 51, 3) := by decide +kernel
theorem dX0_pairsAmong_79 : decode cX0_pairsAmong 79 = .ok (.istore 5, 2) := by decide +kernel
theorem dX0_pairsAmong_81 : decode cX0_pairsAmong 81 = .ok (.iinc 7 1, 3) := by decide +kernel
theorem dX0_pairsAmong_84 : decode cX0_pairsAmong 84 = .ok (.goto (-46), 3) := by decide +kernel
theorem dX0_pairsAmong_87 : decode cX0_pairsAmong 87 = .ok (.iload 5, 2) := by decide +kernel
theorem dX0_pairsAmong_89 : decode cX0_pairsAmong 89 = .ok (.ireturn, 1) := by decide +kernel
theorem dX0_wed_0 : decode cX0_wed 0 = .ok (.iload_n 3, 1) := by decide +kernel
theorem dX0_wed_1 : decode cX0_wed 1 = .ok (.iconst 1, 1) := by decide +kernel
theorem dX0_wed_2 : decode cX0_wed 2 = .ok (.iload_n 2, 1) := by decide +kernel
theorem dX0_wed_3 : decode cX0_wed 3 = .ok (.ishl, 1) := by decide +kernel
theorem dX0_wed_4 : decode cX0_wed 4 = .ok (.iconst (-1), 1) := by decide +kernel
theorem dX0_wed_5 : decode cX0_wed 5 = .ok (.ixor, 1) := by decide +kernel
theorem dX0_wed_6 : decode cX0_wed 6 = .ok (.iand, 1) := by decide +kernel
theorem dX0_wed_7 : decode cX0_wed 7 = .ok (.istore 4, 2) := by decide +kernel
theorem dX0_wed_9 : decode cX0_wed 9 = .ok (.aload_n 1, 1) := by decide +kernel
theorem dX0_wed_10 : decode cX0_wed 10 = .ok (.iload_n 2, 1) := by decide +kernel
theorem dX0_wed_11 : decode cX0_wed 11 = .ok (.invokevirtual 48, 3) := by decide +kernel
theorem dX0_wed_14 : decode cX0_wed 14 = .ok (.iload 4, 2) := by decide +kernel
theorem dX0_wed_16 : decode cX0_wed 16 = .ok (.iand, 1) := by decide +kernel
theorem dX0_wed_17 : decode cX0_wed 17 = .ok (.istore 5, 2) := by decide +kernel
theorem dX0_wed_19 : decode cX0_wed 19 = .ok (.iload_n 2, 1) := by decide +kernel
theorem dX0_wed_20 : decode cX0_wed 20 = .ok (.iconst 1, 1) := by decide +kernel
theorem dX0_wed_21 : decode cX0_wed 21 = .ok (.iadd, 1) := by decide +kernel
theorem dX0_wed_22 : decode cX0_wed 22 = .ok (.istore 6, 2) := by decide +kernel
theorem dX0_wed_24 : decode cX0_wed 24 = .ok (.iload 6, 2) := by decide +kernel
theorem dX0_wed_26 : decode cX0_wed 26 = .ok (.aload_n 1, 1) := by decide +kernel
theorem dX0_wed_27 : decode cX0_wed 27 = .ok (.getfield 34, 3) := by decide +kernel
theorem dX0_wed_30 : decode cX0_wed 30 = .ok (.if_icmp .ge 68, 3) := by decide +kernel
theorem dX0_wed_33 : decode cX0_wed 33 = .ok (.iload 4, 2) := by decide +kernel
theorem dX0_wed_35 : decode cX0_wed 35 = .ok (.iconst 1, 1) := by decide +kernel
theorem dX0_wed_36 : decode cX0_wed 36 = .ok (.iload 6, 2) := by decide +kernel
theorem dX0_wed_38 : decode cX0_wed 38 = .ok (.ishl, 1) := by decide +kernel
theorem dX0_wed_39 : decode cX0_wed 39 = .ok (.iconst (-1), 1) := by decide +kernel
theorem dX0_wed_40 : decode cX0_wed 40 = .ok (.ixor, 1) := by decide +kernel
theorem dX0_wed_41 : decode cX0_wed 41 = .ok (.iand, 1) := by decide +kernel
theorem dX0_wed_42 : decode cX0_wed 42 = .ok (.istore 7, 2) := by decide +kernel
theorem dX0_wed_44 : decode cX0_wed 44 = .ok (.iload 5, 2) := by decide +kernel
theorem dX0_wed_46 : decode cX0_wed 46 = .ok (.iload 6, 2) := by decide +kernel
theorem dX0_wed_48 : decode cX0_wed 48 = .ok (.ishr, 1) := by decide +kernel
theorem dX0_wed_49 : decode cX0_wed 49 = .ok (.iconst 1, 1) := by decide +kernel
theorem dX0_wed_50 : decode cX0_wed 50 = .ok (.iand, 1) := by decide +kernel
theorem dX0_wed_51 : decode cX0_wed 51 = .ok (.iconst 1, 1) := by decide +kernel
theorem dX0_wed_52 : decode cX0_wed 52 = .ok (.if_icmp .ne 40, 3) := by decide +kernel
theorem dX0_wed_55 : decode cX0_wed 55 = .ok (.iconst 1, 1) := by decide +kernel
theorem dX0_wed_56 : decode cX0_wed 56 = .ok (.aload_n 0, 1) := by decide +kernel
theorem dX0_wed_57 : decode cX0_wed 57 = .ok (.getfield 9, 3) := by decide +kernel
theorem dX0_wed_60 : decode cX0_wed 60 = .ok (.iload 7, 2) := by decide +kernel
theorem dX0_wed_62 : decode cX0_wed 62 = .ok (.iaload, 1) := by decide +kernel
theorem dX0_wed_63 : decode cX0_wed 63 = .ok (.iadd, 1) := by decide +kernel
theorem dX0_wed_64 : decode cX0_wed 64 = .ok (.aload_n 0, 1) := by decide +kernel
theorem dX0_wed_65 : decode cX0_wed 65 = .ok (.getfield 9, 3) := by decide +kernel
theorem dX0_wed_68 : decode cX0_wed 68 = .ok (.iload_n 3, 1) := by decide +kernel
theorem dX0_wed_69 : decode cX0_wed 69 = .ok (.iaload, 1) := by decide +kernel
theorem dX0_wed_70 : decode cX0_wed 70 = .ok (.if_icmp .ne 22, 3) := by decide +kernel
theorem dX0_wed_73 : decode cX0_wed 73 = .ok (.aload_n 0, 1) := by decide +kernel
theorem dX0_wed_74 : decode cX0_wed 74 = .ok (.getfield 15, 3) := by decide +kernel
theorem dX0_wed_77 : decode cX0_wed 77 = .ok (.iload_n 2, 1) := by decide +kernel
theorem dX0_wed_78 : decode cX0_wed 78 = .ok (.iload 6, 2) := by decide +kernel
theorem dX0_wed_80 : decode cX0_wed 80 = .ok (.iastore, 1) := by decide +kernel
theorem dX0_wed_81 : decode cX0_wed 81 = .ok (.aload_n 0, 1) := by decide +kernel
theorem dX0_wed_82 : decode cX0_wed 82 = .ok (.getfield 15, 3) := by decide +kernel
theorem dX0_wed_85 : decode cX0_wed 85 = .ok (.iload 6, 2) := by decide +kernel
theorem dX0_wed_87 : decode cX0_wed 87 = .ok (.iload_n 2, 1) := by decide +kernel
theorem dX0_wed_88 : decode cX0_wed 88 = .ok (.iastore, 1) := by decide +kernel
theorem dX0_wed_89 : decode cX0_wed 89 = .ok (.iload 7, 2) := by decide +kernel
theorem dX0_wed_91 : decode cX0_wed 91 = .ok (.ireturn, 1) := by decide +kernel
theorem dX0_wed_92 : decode cX0_wed 92 = .ok (.iinc 6 1, 3) := by decide +kernel
theorem dX0_wed_95 : decode cX0_wed 95 = .ok (.goto (-71), 3) := by decide +kernel
theorem dX0_wed_98 : decode cX0_wed 98 = .ok (.iload 4, 2) := by decide +kernel
theorem dX0_wed_100 : decode cX0_wed 100 = .ok (.ireturn, 1) := by decide +kernel
theorem dX1_init_0 : decode cX1_init 0 = .ok (.aload_n 0, 1) := by decide +kernel
theorem dX1_init_1 : decode cX1_init 1 = .ok (.invokespecial 3, 3) := by decide +kernel
theorem dX1_init_4 : decode cX1_init 4 = .ok (.aload_n 0, 1) := by decide +kernel
theorem dX1_init_5 : decode cX1_init 5 = .ok (.bipush 7, 2) := by decide +kernel
theorem dX1_init_7 : decode cX1_init 7 = .ok (.newarray .int, 2) := by decide +kernel
theorem dX1_init_9 : decode cX1_init 9 = .ok (.putfield 9, 3) := by decide +kernel
theorem dX1_init_12 : decode cX1_init 12 = .ok (.aload_n 0, 1) := by decide +kernel
theorem dX1_init_13 : decode cX1_init 13 = .ok (.bipush 7, 2) := by decide +kernel
theorem dX1_init_15 : decode cX1_init 15 = .ok (.newarray .int, 2) := by decide +kernel
theorem dX1_init_17 : decode cX1_init 17 = .ok (.putfield 15, 3) := by decide +kernel
theorem dX1_init_20 : decode cX1_init 20 = .ok (.return_, 1) := by decide +kernel
theorem dX1_begin_0 : decode cX1_begin 0 = .ok (.aload_n 1, 1) := by decide +kernel
theorem dX1_begin_1 : decode cX1_begin 1 = .ok (.getfield 18, 3) := by decide +kernel
theorem dX1_begin_4 : decode cX1_begin 4 = .ok (.iconst 0, 1) := by decide +kernel
theorem dX1_begin_5 : decode cX1_begin 5 = .ok (.aload_n 0, 1) := by decide +kernel
theorem dX1_begin_6 : decode cX1_begin 6 = .ok (.getfield 9, 3) := by decide +kernel
theorem dX1_begin_9 : decode cX1_begin 9 = .ok (.iconst 0, 1) := by decide +kernel
theorem dX1_begin_10 : decode cX1_begin 10 = .ok (.bipush 7, 2) := by decide +kernel
theorem dX1_begin_12 : decode cX1_begin 12 = .ok (.invokestatic 21, 3) := by decide +kernel
theorem dX1_begin_15 : decode cX1_begin 15 = .ok (.return_, 1) := by decide +kernel
theorem dX1_tellTo_0 : decode cX1_tellTo 0 = .ok (.aload_n 0, 1) := by decide +kernel
theorem dX1_tellTo_1 : decode cX1_tellTo 1 = .ok (.getfield 9, 3) := by decide +kernel
theorem dX1_tellTo_4 : decode cX1_tellTo 4 = .ok (.iconst 0, 1) := by decide +kernel
theorem dX1_tellTo_5 : decode cX1_tellTo 5 = .ok (.aload_n 1, 1) := by decide +kernel
theorem dX1_tellTo_6 : decode cX1_tellTo 6 = .ok (.getfield 18, 3) := by decide +kernel
theorem dX1_tellTo_9 : decode cX1_tellTo 9 = .ok (.iconst 0, 1) := by decide +kernel
theorem dX1_tellTo_10 : decode cX1_tellTo 10 = .ok (.bipush 7, 2) := by decide +kernel
theorem dX1_tellTo_12 : decode cX1_tellTo 12 = .ok (.invokestatic 21, 3) := by decide +kernel
theorem dX1_tellTo_15 : decode cX1_tellTo 15 = .ok (.return_, 1) := by decide +kernel
theorem dX1_pull_0 : decode cX1_pull 0 = .ok (.aload_n 0, 1) := by decide +kernel
theorem dX1_pull_1 : decode cX1_pull 1 = .ok (.getfield 15, 3) := by decide +kernel
theorem dX1_pull_4 : decode cX1_pull 4 = .ok (.iconst 0, 1) := by decide +kernel
theorem dX1_pull_5 : decode cX1_pull 5 = .ok (.invokestatic 27, 3) := by decide +kernel
theorem dX1_pull_8 : decode cX1_pull 8 = .ok (.iconst 0, 1) := by decide +kernel
theorem dX1_pull_9 : decode cX1_pull 9 = .ok (.istore_n 2, 1) := by decide +kernel
theorem dX1_pull_10 : decode cX1_pull 10 = .ok (.iload_n 2, 1) := by decide +kernel
theorem dX1_pull_11 : decode cX1_pull 11 = .ok (.aload_n 1, 1) := by decide +kernel
theorem dX1_pull_12 : decode cX1_pull 12 = .ok (.getfield 33, 3) := by decide +kernel
theorem dX1_pull_15 : decode cX1_pull 15 = .ok (.if_icmp .ge 41, 3) := by decide +kernel
theorem dX1_pull_18 : decode cX1_pull 18 = .ok (.aload_n 0, 1) := by decide +kernel
theorem dX1_pull_19 : decode cX1_pull 19 = .ok (.getfield 15, 3) := by decide +kernel
theorem dX1_pull_22 : decode cX1_pull 22 = .ok (.aload_n 1, 1) := by decide +kernel
theorem dX1_pull_23 : decode cX1_pull 23 = .ok (.getfield 39, 3) := by decide +kernel
theorem dX1_pull_26 : decode cX1_pull 26 = .ok (.iload_n 2, 1) := by decide +kernel
theorem dX1_pull_27 : decode cX1_pull 27 = .ok (.iaload, 1) := by decide +kernel
theorem dX1_pull_28 : decode cX1_pull 28 = .ok (.dup2, 1) := by decide +kernel
theorem dX1_pull_29 : decode cX1_pull 29 = .ok (.iaload, 1) := by decide +kernel
theorem dX1_pull_30 : decode cX1_pull 30 = .ok (.aload_n 1, 1) := by decide +kernel
theorem dX1_pull_31 : decode cX1_pull 31 = .ok (.getfield 42, 3) := by decide +kernel
theorem dX1_pull_34 : decode cX1_pull 34 = .ok (.iload_n 2, 1) := by decide +kernel
theorem dX1_pull_35 : decode cX1_pull 35 = .ok (.iaload, 1) := by decide +kernel
theorem dX1_pull_36 : decode cX1_pull 36 = .ok (.aload_n 0, 1) := by decide +kernel
theorem dX1_pull_37 : decode cX1_pull 37 = .ok (.getfield 9, 3) := by decide +kernel
theorem dX1_pull_40 : decode cX1_pull 40 = .ok (.aload_n 1, 1) := by decide +kernel
theorem dX1_pull_41 : decode cX1_pull 41 = .ok (.getfield 45, 3) := by decide +kernel
theorem dX1_pull_44 : decode cX1_pull 44 = .ok (.iload_n 2, 1) := by decide +kernel
theorem dX1_pull_45 : decode cX1_pull 45 = .ok (.iaload, 1) := by decide +kernel
theorem dX1_pull_46 : decode cX1_pull 46 = .ok (.iaload, 1) := by decide +kernel
theorem dX1_pull_47 : decode cX1_pull 47 = .ok (.imul, 1) := by decide +kernel
theorem dX1_pull_48 : decode cX1_pull 48 = .ok (.iadd, 1) := by decide +kernel
theorem dX1_pull_49 : decode cX1_pull 49 = .ok (.iastore, 1) := by decide +kernel
theorem dX1_pull_50 : decode cX1_pull 50 = .ok (.iinc 2 1, 3) := by decide +kernel
theorem dX1_pull_53 : decode cX1_pull 53 = .ok (.goto (-43), 3) := by decide +kernel
theorem dX1_pull_56 : decode cX1_pull 56 = .ok (.return_, 1) := by decide +kernel
theorem dX1_step_0 : decode cX1_step 0 = .ok (.aload_n 0, 1) := by decide +kernel
theorem dX1_step_1 : decode cX1_step 1 = .ok (.aload_n 1, 1) := by decide +kernel
theorem dX1_step_2 : decode cX1_step 2 = .ok (.invokevirtual 48, 3) := by decide +kernel
theorem dX1_step_5 : decode cX1_step 5 = .ok (.iconst 0, 1) := by decide +kernel
theorem dX1_step_6 : decode cX1_step 6 = .ok (.istore_n 2, 1) := by decide +kernel
theorem dX1_step_7 : decode cX1_step 7 = .ok (.iconst 0, 1) := by decide +kernel
theorem dX1_step_8 : decode cX1_step 8 = .ok (.istore_n 3, 1) := by decide +kernel
theorem dX1_step_9 : decode cX1_step 9 = .ok (.iload_n 3, 1) := by decide +kernel
theorem dX1_step_10 : decode cX1_step 10 = .ok (.aload_n 1, 1) := by decide +kernel
theorem dX1_step_11 : decode cX1_step 11 = .ok (.getfield 52, 3) := by decide +kernel
theorem dX1_step_14 : decode cX1_step 14 = .ok (.if_icmp .ge 47, 3) := by decide +kernel
theorem dX1_step_17 : decode cX1_step 17 = .ok (.aload_n 0, 1) := by decide +kernel
theorem dX1_step_18 : decode cX1_step 18 = .ok (.aload_n 1, 1) := by decide +kernel
theorem dX1_step_19 : decode cX1_step 19 = .ok (.getfield 55, 3) := by decide +kernel
theorem dX1_step_22 : decode cX1_step 22 = .ok (.iload_n 3, 1) := by decide +kernel
theorem dX1_step_23 : decode cX1_step 23 = .ok (.iaload, 1) := by decide +kernel
theorem dX1_step_24 : decode cX1_step 24 = .ok (.iload_n 3, 1) := by decide +kernel
theorem dX1_step_25 : decode cX1_step 25 = .ok (.invokevirtual 58, 3) := by decide +kernel
theorem dX1_step_28 : decode cX1_step 28 = .ok (.istore 4, 2) := by decide +kernel
theorem dX1_step_30 : decode cX1_step 30 = .ok (.iload 4, 2) := by decide +kernel
theorem dX1_step_32 : decode cX1_step 32 = .ok (.aload_n 0, 1) := by decide +kernel
theorem dX1_step_33 : decode cX1_step 33 = .ok (.getfield 9, 3) := by decide +kernel
theorem dX1_step_36 : decode cX1_step 36 = .ok (.iload_n 3, 1) := by decide +kernel
theorem dX1_step_37 : decode cX1_step 37 = .ok (.iaload, 1) := by decide +kernel
theorem dX1_step_38 : decode cX1_step 38 = .ok (.if_icmp .eq 17, 3) := by decide +kernel
theorem dX1_step_41 : decode cX1_step 41 = .ok (.aload_n 0, 1) := by decide +kernel
theorem dX1_step_42 : decode cX1_step 42 = .ok (.getfield 9, 3) := by decide +kernel
theorem dX1_step_45 : decode cX1_step 45 = .ok (.iload_n 3, 1) := by decide +kernel
theorem dX1_step_46 : decode cX1_step 46 = .ok (.iload 4, 2) := by decide +kernel
theorem dX1_step_48 : decode cX1_step 48 = .ok (.iastore, 1) := by decide +kernel
theorem dX1_step_49 : decode cX1_step 49 = .ok (.iload_n 2, 1) := by decide +kernel
theorem dX1_step_50 : decode cX1_step 50 = .ok (.iconst 1, 1) := by decide +kernel
theorem dX1_step_51 : decode cX1_step 51 = .ok (.iload_n 3, 1) := by decide +kernel
theorem dX1_step_52 : decode cX1_step 52 = .ok (.ishl, 1) := by decide +kernel
theorem dX1_step_53 : decode cX1_step 53 = .ok (.ior, 1) := by decide +kernel
theorem dX1_step_54 : decode cX1_step 54 = .ok (.istore_n 2, 1) := by decide +kernel
theorem dX1_step_55 : decode cX1_step 55 = .ok (.iinc 3 1, 3) := by decide +kernel
theorem dX1_step_58 : decode cX1_step 58 = .ok (.goto (-49), 3) := by decide +kernel
theorem dX1_step_61 : decode cX1_step 61 = .ok (.iload_n 2, 1) := by decide +kernel
theorem dX1_step_62 : decode cX1_step 62 = .ok (.ireturn, 1) := by decide +kernel
theorem dX1_turnedBelief_0 : decode cX1_turnedBelief 0 = .ok (.aload_n 0, 1) := by decide +kernel
theorem dX1_turnedBelief_1 : decode cX1_turnedBelief 1 = .ok (.getfield 15, 3) := by decide +kernel
theorem dX1_turnedBelief_4 : decode cX1_turnedBelief 4 = .ok (.iload_n 2, 1) := by decide +kernel
theorem dX1_turnedBelief_5 : decode cX1_turnedBelief 5 = .ok (.iaload, 1) := by decide +kernel
theorem dX1_turnedBelief_6 : decode cX1_turnedBelief 6 = .ok (.ifCond .eq 33, 3) := by decide +kernel
theorem dX1_turnedBelief_9 : decode cX1_turnedBelief 9 = .ok (.iload_n 1, 1) := by decide +kernel
theorem dX1_turnedBelief_10 : decode cX1_turnedBelief 10 = .ok (.iconst 2, 1) := by decide +kernel
theorem dX1_turnedBelief_11 : decode cX1_turnedBelief 11 = .ok (.if_icmp .ne 13, 3) := by decide +kernel
theorem dX1_turnedBelief_14 : decode cX1_turnedBelief 14 = .ok (.aload_n 0, 1) := by decide +kernel
theorem dX1_turnedBelief_15 : decode cX1_turnedBelief 15 = .ok (.getfield 9, 3) := by decide +kernel
theorem dX1_turnedBelief_18 : decode cX1_turnedBelief 18 = .ok (.iload_n 2, 1) := by decide +kernel
theorem dX1_turnedBelief_19 : decode cX1_turnedBelief 19 = .ok (.iaload, 1) := by decide +kernel
theorem dX1_turnedBelief_20 : decode cX1_turnedBelief 20 = .ok (.iconst 1, 1) := by decide +kernel
theorem dX1_turnedBelief_21 : decode cX1_turnedBelief 21 = .ok (.if_icmp .eq 18, 3) := by decide +kernel
theorem dX1_turnedBelief_24 : decode cX1_turnedBelief 24 = .ok (.iload_n 1, 1) := by decide +kernel
theorem dX1_turnedBelief_25 : decode cX1_turnedBelief 25 = .ok (.iconst 1, 1) := by decide +kernel
theorem dX1_turnedBelief_26 : decode cX1_turnedBelief 26 = .ok (.if_icmp .ne 20, 3) := by decide +kernel
theorem dX1_turnedBelief_29 : decode cX1_turnedBelief 29 = .ok (.aload_n 0, 1) := by decide +kernel
theorem dX1_turnedBelief_30 : decode cX1_turnedBelief 30 = .ok (.getfield 9, 3) := by decide +kernel
theorem dX1_turnedBelief_33 : decode cX1_turnedBelief 33 = .ok (.iload_n 2, 1) := by decide +kernel
theorem dX1_turnedBelief_34 : decode cX1_turnedBelief 34 = .ok (.iaload, 1) := by decide +kernel
theorem dX1_turnedBelief_35 : decode cX1_turnedBelief 35 = .ok (.iconst (-1), 1) := by decide +kernel
theorem dX1_turnedBelief_36 : decode cX1_turnedBelief 36 = .ok (.if_icmp .ne 10, 3) := by decide +kernel
theorem dX1_turnedBelief_39 : decode cX1_turnedBelief 39 = .ok (.aload_n 0, 1) := by decide +kernel
theorem dX1_turnedBelief_40 : decode cX1_turnedBelief 40 = .ok (.getfield 9, 3) := by decide +kernel
theorem dX1_turnedBelief_43 : decode cX1_turnedBelief 43 = .ok (.iload_n 2, 1) := by decide +kernel
theorem dX1_turnedBelief_44 : decode cX1_turnedBelief 44 = .ok (.iaload, 1) := by decide +kernel
theorem dX1_turnedBelief_45 : decode cX1_turnedBelief 45 = .ok (.ireturn, 1) := by decide +kernel
theorem dX1_turnedBelief_46 : decode cX1_turnedBelief 46 = .ok (.aload_n 0, 1) := by decide +kernel
theorem dX1_turnedBelief_47 : decode cX1_turnedBelief 47 = .ok (.getfield 15, 3) := by decide +kernel
theorem dX1_turnedBelief_50 : decode cX1_turnedBelief 50 = .ok (.iload_n 2, 1) := by decide +kernel
theorem dX1_turnedBelief_51 : decode cX1_turnedBelief 51 = .ok (.iaload, 1) := by decide +kernel
theorem dX1_turnedBelief_52 : decode cX1_turnedBelief 52 = .ok (.ifCond .le 7, 3) := by decide +kernel
theorem dX1_turnedBelief_55 : decode cX1_turnedBelief 55 = .ok (.iconst 1, 1) := by decide +kernel
theorem dX1_turnedBelief_56 : decode cX1_turnedBelief 56 = .ok (.goto 4, 3) := by decide +kernel
theorem dX1_turnedBelief_59 : decode cX1_turnedBelief 59 = .ok (.iconst (-1), 1) := by decide +kernel
theorem dX1_turnedBelief_60 : decode cX1_turnedBelief 60 = .ok (.ireturn, 1) := by decide +kernel
theorem dX1_go_0 : decode cX1_go 0 = .ok (.iconst 0, 1) := by decide +kernel
theorem dX1_go_1 : decode cX1_go 1 = .ok (.istore_n 3, 1) := by decide +kernel
theorem dX1_go_2 : decode cX1_go 2 = .ok (.iload_n 3, 1) := by decide +kernel
theorem dX1_go_3 : decode cX1_go 3 = .ok (.iload_n 2, 1) := by decide +kernel
theorem dX1_go_4 : decode cX1_go 4 = .ok (.if_icmp .ge 18, 3) := by decide +kernel
theorem dX1_go_7 : decode cX1_go 7 = .ok (.aload_n 0, 1) := by decide +kernel
theorem dX1_go_8 : decode cX1_go 8 = .ok (.aload_n 1, 1) := by decide +kernel
theorem dX1_go_9 : decode cX1_go 9 = .ok (.invokevirtual 62, 3) := by decide +kernel
theorem dX1_go_12 : decode cX1_go 12 = .ok (.ifCond .ne 4, 3) := by decide +kernel
theorem dX1_go_15 : decode cX1_go 15 = .ok (.return_, 1) := by decide +kernel
theorem dX1_go_16 : decode cX1_go 16 = .ok (.iinc 3 1, 3) := by decide +kernel
theorem dX1_go_19 : decode cX1_go 19 = .ok (.goto (-17), 3) := by decide +kernel
theorem dX1_go_22 : decode cX1_go 22 = .ok (.return_, 1) := by decide +kernel
theorem dX1_believing_0 : decode cX1_believing 0 = .ok (.iconst 0, 1) := by decide +kernel
theorem dX1_believing_1 : decode cX1_believing 1 = .ok (.istore_n 2, 1) := by decide +kernel
theorem dX1_believing_2 : decode cX1_believing 2 = .ok (.iconst 0, 1) := by decide +kernel
theorem dX1_believing_3 : decode cX1_believing 3 = .ok (.istore_n 3, 1) := by decide +kernel
theorem dX1_believing_4 : decode cX1_believing 4 = .ok (.iload_n 3, 1) := by decide +kernel
theorem dX1_believing_5 : decode cX1_believing 5 = .ok (.aload_n 1, 1) := by decide +kernel
theorem dX1_believing_6 : decode cX1_believing 6 = .ok (.getfield 52, 3) := by decide +kernel
theorem dX1_believing_9 : decode cX1_believing 9 = .ok (.if_icmp .ge 25, 3) := by decide +kernel
theorem dX1_believing_12 : decode cX1_believing 12 = .ok (.aload_n 0, 1) := by decide +kernel
theorem dX1_believing_13 : decode cX1_believing 13 = .ok (.getfield 9, 3) := by decide +kernel
theorem dX1_believing_16 : decode cX1_believing 16 = .ok (.iload_n 3, 1) := by decide +kernel
theorem dX1_believing_17 : decode cX1_believing 17 = .ok (.iaload, 1) := by decide +kernel
theorem dX1_believing_18 : decode cX1_believing 18 = .ok (.iconst 1, 1) := by decide +kernel
theorem dX1_believing_19 : decode cX1_believing 19 = .ok (.if_icmp .ne 9, 3) := by decide +kernel
theorem dX1_believing_22 : decode cX1_believing 22 = .ok (.iload_n 2, 1) := by decide +kernel
theorem dX1_believing_23 : decode cX1_believing 23 = .ok (.iconst 1, 1) := by decide +kernel
theorem dX1_believing_24 : decode cX1_believing 24 = .ok (.iload_n 3, 1) := by decide +kernel
theorem dX1_believing_25 : decode cX1_believing 25 = .ok (.ishl, 1) := by decide +kernel
theorem dX1_believing_26 : decode cX1_believing 26 = .ok (.ior, 1) := by decide +kernel
theorem dX1_believing_27 : decode cX1_believing 27 = .ok (.istore_n 2, 1) := by decide +kernel
theorem dX1_believing_28 : decode cX1_believing 28 = .ok (.iinc 3 1, 3) := by decide +kernel
theorem dX1_believing_31 : decode cX1_believing 31 = .ok (.goto (-27), 3) := by decide +kernel
theorem dX1_believing_34 : decode cX1_believing 34 = .ok (.iload_n 2, 1) := by decide +kernel
theorem dX1_believing_35 : decode cX1_believing 35 = .ok (.ireturn, 1) := by decide +kernel
theorem dX1_roundsToRest_0 : decode cX1_roundsToRest 0 = .ok (.iconst 0, 1) := by decide +kernel
theorem dX1_roundsToRest_1 : decode cX1_roundsToRest 1 = .ok (.istore_n 2, 1) := by decide +kernel
theorem dX1_roundsToRest_2 : decode cX1_roundsToRest 2 = .ok (.iload_n 2, 1) := by decide +kernel
theorem dX1_roundsToRest_3 : decode cX1_roundsToRest 3 = .ok (.bipush 20, 2) := by decide +kernel
theorem dX1_roundsToRest_5 : decode cX1_roundsToRest 5 = .ok (.if_icmp .gt 19, 3) := by decide +kernel
theorem dX1_roundsToRest_8 : decode cX1_roundsToRest 8 = .ok (.aload_n 0, 1) := by decide +kernel
theorem dX1_roundsToRest_9 : decode cX1_roundsToRest 9 = .ok (.aload_n 1, 1) := by decide +kernel
theorem dX1_roundsToRest_10 : decode cX1_roundsToRest 10 = .ok (.invokevirtual 62, 3) := by decide +kernel
theorem dX1_roundsToRest_13 : decode cX1_roundsToRest 13 = .ok (.ifCond .ne 5, 3) := by decide +kernel
theorem dX1_roundsToRest_16 : decode cX1_roundsToRest 16 = .ok (.iload_n 2, 1) := by decide +kernel
theorem dX1_roundsToRest_17 : decode cX1_roundsToRest 17 = .ok (.ireturn, 1) := by decide +kernel
theorem dX1_roundsToRest_18 : decode cX1_roundsToRest 18 = .ok (.iinc 2 1, 3) := by decide +kernel
theorem dX1_roundsToRest_21 : decode cX1_roundsToRest 21 = .ok (.goto (-19), 3) := by decide +kernel
theorem dX1_roundsToRest_24 : decode cX1_roundsToRest 24 = .ok (.bipush (-2), 2) := by decide +kernel
theorem dX1_roundsToRest_26 : decode cX1_roundsToRest 26 = .ok (.ireturn, 1) := by decide +kernel
theorem dX1_believingIfWon_0 : decode cX1_believingIfWon 0 = .ok (.aload_n 0, 1) := by decide +kernel
theorem dX1_believingIfWon_1 : decode cX1_believingIfWon 1 = .ok (.aload_n 2, 1) := by decide +kernel
theorem dX1_believingIfWon_2 : decode cX1_believingIfWon 2 = .ok (.invokevirtual 66, 3) := by decide +kernel
theorem dX1_believingIfWon_5 : decode cX1_believingIfWon 5 = .ok (.iconst 0, 1) := by decide +kernel
theorem dX1_believingIfWon_6 : decode cX1_believingIfWon 6 = .ok (.istore 4, 2) := by decide +kernel
theorem dX1_believingIfWon_8 : decode cX1_believingIfWon 8 = .ok (.iload 4, 2) := by decide +kernel
theorem dX1_believingIfWon_10 : decode cX1_believingIfWon 10 = .ok (.aload_n 1, 1) := by decide +kernel
theorem dX1_believingIfWon_11 : decode cX1_believingIfWon 11 = .ok (.getfield 52, 3) := by decide +kernel
theorem dX1_believingIfWon_14 : decode cX1_believingIfWon 14 = .ok (.if_icmp .ge 27, 3) := by decide +kernel
theorem dX1_believingIfWon_17 : decode cX1_believingIfWon 17 = .ok (.iload_n 3, 1) := by decide +kernel
theorem dX1_believingIfWon_18 : decode cX1_believingIfWon 18 = .ok (.iload 4, 2) := by decide +kernel
theorem dX1_believingIfWon_20 : decode cX1_believingIfWon 20 = .ok (.ishr, 1) := by decide +kernel
theorem dX1_believingIfWon_21 : decode cX1_believingIfWon 21 = .ok (.iconst 1, 1) := by decide +kernel
theorem dX1_believingIfWon_22 : decode cX1_believingIfWon 22 = .ok (.iand, 1) := by decide +kernel
theorem dX1_believingIfWon_23 : decode cX1_believingIfWon 23 = .ok (.iconst 1, 1) := by decide +kernel
theorem dX1_believingIfWon_24 : decode cX1_believingIfWon 24 = .ok (.if_icmp .ne 11, 3) := by decide +kernel
theorem dX1_believingIfWon_27 : decode cX1_believingIfWon 27 = .ok (.aload_n 0, 1) := by decide +kernel
theorem dX1_believingIfWon_28 : decode cX1_believingIfWon 28 = .ok (.getfield 9, 3) := by decide +kernel
theorem dX1_believingIfWon_31 : decode cX1_believingIfWon 31 = .ok (.iload 4, 2) := by decide +kernel
theorem dX1_believingIfWon_33 : decode cX1_believingIfWon 33 = .ok (.iconst 1, 1) := by decide +kernel
theorem dX1_believingIfWon_34 : decode cX1_believingIfWon 34 = .ok (.iastore, 1) := by decide +kernel
theorem dX1_believingIfWon_35 : decode cX1_believingIfWon 35 = .ok (.iinc 4 1, 3) := by decide +kernel
theorem dX1_believingIfWon_38 : decode cX1_believingIfWon 38 = .ok (.goto (-30), 3) := by decide +kernel
theorem dX1_believingIfWon_41 : decode cX1_believingIfWon 41 = .ok (.aload_n 0, 1) := by decide +kernel
theorem dX1_believingIfWon_42 : decode cX1_believingIfWon 42 = .ok (.aload_n 1, 1) := by decide +kernel
theorem dX1_believingIfWon_43 : decode cX1_believingIfWon 43 = .ok (.bipush 20, 2) := by decide +kernel
theorem dX1_believingIfWon_45 : decode cX1_believingIfWon 45 = .ok (.invokevirtual 70, 3) := by decide +kernel
theorem dX1_believingIfWon_48 : decode cX1_believingIfWon 48 = .ok (.aload_n 0, 1) := by decide +kernel
theorem dX1_believingIfWon_49 : decode cX1_believingIfWon 49 = .ok (.aload_n 1, 1) := by decide +kernel
theorem dX1_believingIfWon_50 : decode cX1_believingIfWon 50 = .ok (.invokevirtual 74, 3) := by decide +kernel
theorem dX1_believingIfWon_53 : decode cX1_believingIfWon 53 = .ok (.ireturn, 1) := by decide +kernel
theorem dX1_fewestToWin_0 : decode cX1_fewestToWin 0 = .ok (.aload_n 1, 1) := by decide +kernel
theorem dX1_fewestToWin_1 : decode cX1_fewestToWin 1 = .ok (.invokevirtual 77, 3) := by decide +kernel
theorem dX1_fewestToWin_4 : decode cX1_fewestToWin 4 = .ok (.istore_n 3, 1) := by decide +kernel
theorem dX1_fewestToWin_5 : decode cX1_fewestToWin 5 = .ok (.bipush (-2), 2) := by decide +kernel
theorem dX1_fewestToWin_7 : decode cX1_fewestToWin 7 = .ok (.istore 4, 2) := by decide +kernel
theorem dX1_fewestToWin_9 : decode cX1_fewestToWin 9 = .ok (.bipush 8, 2) := by decide +kernel
theorem dX1_fewestToWin_11 : decode cX1_fewestToWin 11 = .ok (.istore 5, 2) := by decide +kernel
theorem dX1_fewestToWin_13 : decode cX1_fewestToWin 13 = .ok (.iconst 0, 1) := by decide +kernel
theorem dX1_fewestToWin_14 : decode cX1_fewestToWin 14 = .ok (.istore 6, 2) := by decide +kernel
theorem dX1_fewestToWin_16 : decode cX1_fewestToWin 16 = .ok (.iload 6, 2) := by decide +kernel
theorem dX1_fewestToWin_18 : decode cX1_fewestToWin 18 = .ok (.iload_n 3, 1) := by decide +kernel
theorem dX1_fewestToWin_19 : decode cX1_fewestToWin 19 = .ok (.if_icmp .gt 42, 3) := by decide +kernel
theorem dX1_fewestToWin_22 : decode cX1_fewestToWin 22 = .ok (.iload 6, 2) := by decide +kernel
theorem dX1_fewestToWin_24 : decode cX1_fewestToWin 24 = .ok (.invokestatic 81, 3) := by decide +kernel
theorem dX1_fewestToWin_27 : decode cX1_fewestToWin 27 = .ok (.iload 5, 2) := by decide +kernel
theorem dX1_fewestToWin_29 : decode cX1_fewestToWin 29 = .ok (.if_icmp .ge 26, 3) := by decide +kernel
theorem dX1_fewestToWin_32 : decode cX1_fewestToWin 32 = .ok (.aload_n 0, 1) := by decide +kernel
theorem dX1_fewestToWin_33 : decode cX1_fewestToWin 33 = .ok (.aload_n 1, 1) := by decide +kernel
theorem dX1_fewestToWin_34 : decode cX1_fewestToWin 34 = .ok (.aload_n 2, 1) := by decide +kernel
theorem dX1_fewestToWin_35 : decode cX1_fewestToWin 35 = .ok (.iload 6, 2) := by decide +kernel
theorem dX1_fewestToWin_37 : decode cX1_fewestToWin 37 = .ok (.invokevirtual 87, 3) := by decide +kernel
theorem dX1_fewestToWin_40 : decode cX1_fewestToWin 40 = .ok (.iload_n 3, 1) := by decide +kernel
theorem dX1_fewestToWin_41 : decode cX1_fewestToWin 41 = .ok (.if_icmp .ne 14, 3) := by decide +kernel
theorem dX1_fewestToWin_44 : decode cX1_fewestToWin 44 = .ok (.iload 6, 2) := by decide +kernel
theorem dX1_fewestToWin_46 : decode cX1_fewestToWin 46 = .ok (.istore 4, 2) := by decide +kernel
theorem dX1_fewestToWin_48 : decode cX1_fewestToWin 48 = .ok (.iload 6, 2) := by decide +kernel
theorem dX1_fewestToWin_50 : decode cX1_fewestToWin 50 = .ok (.invokestatic 81, 3) := by decide +kernel
theorem dX1_fewestToWin_53 : decode cX1_fewestToWin 53 = .ok (.istore 5, 2) := by decide +kernel
theorem dX1_fewestToWin_55 : decode cX1_fewestToWin 55 = .ok (.iinc 6 1, 3) := by decide +kernel
theorem dX1_fewestToWin_58 : decode cX1_fewestToWin 58 = .ok (.goto (-42), 3) := by decide +kernel
theorem dX1_fewestToWin_61 : decode cX1_fewestToWin 61 = .ok (.iload 4, 2) := by decide +kernel
theorem dX1_fewestToWin_63 : decode cX1_fewestToWin 63 = .ok (.ireturn, 1) := by decide +kernel
theorem dX1_bestPreacher_0 : decode cX1_bestPreacher 0 = .ok (.bipush (-2), 2) := by decide +kernel
theorem dX1_bestPreacher_2 : decode cX1_bestPreacher 2 = .ok (.istore_n 3, 1) := by decide +kernel
theorem dX1_bestPreacher_3 : decode cX1_bestPreacher 3 = .ok (.iconst (-1), 1) := by decide +kernel
theorem dX1_bestPreacher_4 : decode cX1_bestPreacher 4 = .ok (.istore 4, 2) := by decide +kernel
theorem dX1_bestPreacher_6 : decode cX1_bestPreacher 6 = .ok (.iconst 0, 1) := by decide +kernel
theorem dX1_bestPreacher_7 : decode cX1_bestPreacher 7 = .ok (.istore 5, 2) := by decide +kernel
theorem dX1_bestPreacher_9 : decode cX1_bestPreacher 9 = .ok (.iload 5, 2) := by decide +kernel
theorem dX1_bestPreacher_11 : decode cX1_bestPreacher 11 = .ok (.aload_n 1, 1) := by decide +kernel
theorem dX1_bestPreacher_12 : decode cX1_bestPreacher 12 = .ok (.getfield 52, 3) := by decide +kernel
theorem dX1_bestPreacher_15 : decode cX1_bestPreacher 15 = .ok (.if_icmp .ge 38, 3) := by decide +kernel
theorem dX1_bestPreacher_18 : decode cX1_bestPreacher 18 = .ok (.aload_n 0, 1) := by decide +kernel
theorem dX1_bestPreacher_19 : decode cX1_bestPreacher 19 = .ok (.aload_n 1, 1) := by decide +kernel
theorem dX1_bestPreacher_20 : decode cX1_bestPreacher 20 = .ok (.aload_n 2, 1) := by decide +kernel
theorem dX1_bestPreacher_21 : decode cX1_bestPreacher 21 = .ok (.iconst 1, 1) := by decide +kernel
theorem dX1_bestPreacher_22 : decode cX1_bestPreacher 22 = .ok (.iload 5, 2) := by decide +kernel
theorem dX1_bestPreacher_24 : decode cX1_bestPreacher 24 = .ok (.ishl, 1) := by decide +kernel
theorem dX1_bestPreacher_25 : decode cX1_bestPreacher 25 = .ok (.invokevirtual 87, 3) := by decide +kernel
theorem dX1_bestPreacher_28 : decode cX1_bestPreacher 28 = .ok (.invokestatic 81, 3) := by decide +kernel
theorem dX1_bestPreacher_31 : decode cX1_bestPreacher 31 = .ok (.istore 6, 2) := by decide +kernel
theorem dX1_bestPreacher_33 : decode cX1_bestPreacher 33 = .ok (.iload 6, 2) := by decide +kernel
theorem dX1_bestPreacher_35 : decode cX1_bestPreacher 35 = .ok (.iload 4, 2) := by decide +kernel
theorem dX1_bestPreacher_37 : decode cX1_bestPreacher 37 = .ok (.if_icmp .le 10, 3) := by decide +kernel
theorem dX1_bestPreacher_40 : decode cX1_bestPreacher 40 = .ok (.iload 5, 2) := by decide +kernel
theorem dX1_bestPreacher_42 : decode cX1_bestPreacher 42 = .ok (.istore_n 3, 1) := by decide +kernel
theorem dX1_bestPreacher_43 : decode cX1_bestPreacher 43 = .ok (.iload 6, 2) := by decide +kernel
theorem dX1_bestPreacher_45 : decode cX1_bestPreacher 45 = .ok (.istore 4, 2) := by decide +kernel
theorem dX1_bestPreacher_47 : decode cX1_bestPreacher 47 = .ok (.iinc 5 1, 3) := by decide +kernel
theorem dX1_bestPreacher_50 : decode cX1_bestPreacher 50 = .ok (.goto (-41), 3) := by decide +kernel
theorem dX1_bestPreacher_53 : decode cX1_bestPreacher 53 = .ok (.iload_n 3, 1) := by decide +kernel
theorem dX1_bestPreacher_54 : decode cX1_bestPreacher 54 = .ok (.ireturn, 1) := by decide +kernel
theorem dX2_init_0 : decode cX2_init 0 = .ok (.aload_n 0, 1) := by decide +kernel
theorem dX2_init_1 : decode cX2_init 1 = .ok (.invokespecial 3, 3) := by decide +kernel
theorem dX2_init_4 : decode cX2_init 4 = .ok (.aload_n 0, 1) := by decide +kernel
theorem dX2_init_5 : decode cX2_init 5 = .ok (.bipush 7, 2) := by decide +kernel
theorem dX2_init_7 : decode cX2_init 7 = .ok (.newarray .int, 2) := by decide +kernel
theorem dX2_init_9 : decode cX2_init 9 = .ok (.putfield 9, 3) := by decide +kernel
theorem dX2_init_12 : decode cX2_init 12 = .ok (.aload_n 0, 1) := by decide +kernel
theorem dX2_init_13 : decode cX2_init 13 = .ok (.bipush 7, 2) := by decide +kernel
theorem dX2_init_15 : decode cX2_init 15 = .ok (.newarray .long, 2) := by decide +kernel
theorem dX2_init_17 : decode cX2_init 17 = .ok (.putfield 15, 3) := by decide +kernel
theorem dX2_init_20 : decode cX2_init 20 = .ok (.aload_n 0, 1) := by decide +kernel
theorem dX2_init_21 : decode cX2_init 21 = .ok (.bipush 7, 2) := by decide +kernel
theorem dX2_init_23 : decode cX2_init 23 = .ok (.newarray .int, 2) := by decide +kernel
theorem dX2_init_25 : decode cX2_init 25 = .ok (.putfield 19, 3) := by decide +kernel
theorem dX2_init_28 : decode cX2_init 28 = .ok (.aload_n 0, 1) := by decide +kernel
theorem dX2_init_29 : decode cX2_init 29 = .ok (.bipush 7, 2) := by decide +kernel
theorem dX2_init_31 : decode cX2_init 31 = .ok (.newarray .int, 2) := by decide +kernel
theorem dX2_init_33 : decode cX2_init 33 = .ok (.putfield 22, 3) := by decide +kernel
theorem dX2_init_36 : decode cX2_init 36 = .ok (.aload_n 0, 1) := by decide +kernel
theorem dX2_init_37 : decode cX2_init 37 = .ok (.bipush 9, 2) := by decide +kernel
theorem dX2_init_39 : decode cX2_init 39 = .ok (.newarray .int, 2) := by decide +kernel
theorem dX2_init_41 : decode cX2_init 41 = .ok (.putfield 25, 3) := by decide +kernel
theorem dX2_init_44 : decode cX2_init 44 = .ok (.aload_n 0, 1) := by decide +kernel
theorem dX2_init_45 : decode cX2_init 45 = .ok (.bipush 9, 2) := by decide +kernel
theorem dX2_init_47 : decode cX2_init 47 = .ok (.newarray .int, 2) := by decide +kernel
theorem dX2_init_49 : decode cX2_init 49 = .ok (.putfield 28, 3) := by decide +kernel
theorem dX2_init_52 : decode cX2_init 52 = .ok (.aload_n 0, 1) := by decide +kernel
theorem dX2_init_53 : decode cX2_init 53 = .ok (.bipush 9, 2) := by decide +kernel
theorem dX2_init_55 : decode cX2_init 55 = .ok (.newarray .int, 2) := by decide +kernel
theorem dX2_init_57 : decode cX2_init 57 = .ok (.putfield 31, 3) := by decide +kernel
theorem dX2_init_60 : decode cX2_init 60 = .ok (.return_, 1) := by decide +kernel
theorem dX2_clear_0 : decode cX2_clear 0 = .ok (.aload_n 0, 1) := by decide +kernel
theorem dX2_clear_1 : decode cX2_clear 1 = .ok (.iconst 0, 1) := by decide +kernel
theorem dX2_clear_2 : decode cX2_clear 2 = .ok (.putfield 34, 3) := by decide +kernel
theorem dX2_clear_5 : decode cX2_clear 5 = .ok (.aload_n 0, 1) := by decide +kernel
theorem dX2_clear_6 : decode cX2_clear 6 = .ok (.iconst 0, 1) := by decide +kernel
theorem dX2_clear_7 : decode cX2_clear 7 = .ok (.putfield 38, 3) := by decide +kernel
theorem dX2_clear_10 : decode cX2_clear 10 = .ok (.aload_n 0, 1) := by decide +kernel
theorem dX2_clear_11 : decode cX2_clear 11 = .ok (.iconst 0, 1) := by decide +kernel
theorem dX2_clear_12 : decode cX2_clear 12 = .ok (.putfield 41, 3) := by decide +kernel
theorem dX2_clear_15 : decode cX2_clear 15 = .ok (.aload_n 0, 1) := by decide +kernel
theorem dX2_clear_16 : decode cX2_clear 16 = .ok (.getfield 22, 3) := by decide +kernel
theorem dX2_clear_19 : decode cX2_clear 19 = .ok (.iconst 0, 1) := by decide +kernel
theorem dX2_clear_20 : decode cX2_clear 20 = .ok (.invokestatic 44, 3) := by decide +kernel
theorem dX2_clear_23 : decode cX2_clear 23 = .ok (.return_, 1) := by decide +kernel
theorem dX2_has_0 : decode cX2_has 0 = .ok (.iload_n 1, 1) := by decide +kernel
theorem dX2_has_1 : decode cX2_has 1 = .ok (.ifCond .lt 15, 3) := by decide +kernel
theorem dX2_has_4 : decode cX2_has 4 = .ok (.iload_n 1, 1) := by decide +kernel
theorem dX2_has_5 : decode cX2_has 5 = .ok (.aload_n 0, 1) := by decide +kernel
theorem dX2_has_6 : decode cX2_has 6 = .ok (.getfield 34, 3) := by decide +kernel
theorem dX2_has_9 : decode cX2_has 9 = .ok (.if_icmp .ge 7, 3) := by decide +kernel
theorem dX2_has_12 : decode cX2_has 12 = .ok (.iconst 1, 1) := by decide +kernel
theorem dX2_has_13 : decode cX2_has 13 = .ok (.goto 4, 3) := by decide +kernel
theorem dX2_has_16 : decode cX2_has 16 = .ok (.iconst 0, 1) := by decide +kernel
theorem dX2_has_17 : decode cX2_has 17 = .ok (.ireturn, 1) := by decide +kernel
theorem dX2_everybody_0 : decode cX2_everybody 0 = .ok (.iconst 1, 1) := by decide +kernel
theorem dX2_everybody_1 : decode cX2_everybody 1 = .ok (.aload_n 0, 1) := by decide +kernel
theorem dX2_everybody_2 : decode cX2_everybody 2 = .ok (.getfield 34, 3) := by decide +kernel
theorem dX2_everybody_5 : decode cX2_everybody 5 = .ok (.ishl, 1) := by decide +kernel
theorem dX2_everybody_6 : decode cX2_everybody 6 = .ok (.iconst 1, 1) := by decide +kernel
theorem dX2_everybody_7 : decode cX2_everybody 7 = .ok (.isub, 1) := by decide +kernel
theorem dX2_everybody_8 : decode cX2_everybody 8 = .ok (.ireturn, 1) := by decide +kernel
theorem dX2_areKin_0 : decode cX2_areKin 0 = .ok (.aload_n 0, 1) := by decide +kernel
theorem dX2_areKin_1 : decode cX2_areKin 1 = .ok (.getfield 22, 3) := by decide +kernel
theorem dX2_areKin_4 : decode cX2_areKin 4 = .ok (.iload_n 1, 1) := by decide +kernel
theorem dX2_areKin_5 : decode cX2_areKin 5 = .ok (.iaload, 1) := by decide +kernel
theorem dX2_areKin_6 : decode cX2_areKin 6 = .ok (.iload_n 2, 1) := by decide +kernel
theorem dX2_areKin_7 : decode cX2_areKin 7 = .ok (.ishr, 1) := by decide +kernel
theorem dX2_areKin_8 : decode cX2_areKin 8 = .ok (.iconst 1, 1) := by decide +kernel
theorem dX2_areKin_9 : decode cX2_areKin 9 = .ok (.iand, 1) := by decide +kernel
theorem dX2_areKin_10 : decode cX2_areKin 10 = .ok (.iconst 1, 1) := by decide +kernel
theorem dX2_areKin_11 : decode cX2_areKin 11 = .ok (.if_icmp .ne 7, 3) := by decide +kernel
theorem dX2_areKin_14 : decode cX2_areKin 14 = .ok (.iconst 1, 1) := by decide +kernel
theorem dX2_areKin_15 : decode cX2_areKin 15 = .ok (.goto 4, 3) := by decide +kernel
theorem dX2_areKin_18 : decode cX2_areKin 18 = .ok (.iconst 0, 1) := by decide +kernel
theorem dX2_areKin_19 : decode cX2_areKin 19 = .ok (.ireturn, 1) := by decide +kernel
theorem dX2_addKin_0 : decode cX2_addKin 0 = .ok (.aload_n 0, 1) := by decide +kernel
theorem dX2_addKin_1 : decode cX2_addKin 1 = .ok (.getfield 22, 3) := by decide +kernel
theorem dX2_addKin_4 : decode cX2_addKin 4 = .ok (.iload_n 1, 1) := by decide +kernel
theorem dX2_addKin_5 : decode cX2_addKin 5 = .ok (.dup2, 1) := by decide +kernel
theorem dX2_addKin_6 : decode cX2_addKin 6 = .ok (.iaload, 1) := by decide +kernel
theorem dX2_addKin_7 : decode cX2_addKin 7 = .ok (.iconst 1, 1) := by decide +kernel
theorem dX2_addKin_8 : decode cX2_addKin 8 = .ok (.iload_n 2, 1) := by decide +kernel
theorem dX2_addKin_9 : decode cX2_addKin 9 = .ok (.ishl, 1) := by decide +kernel
theorem dX2_addKin_10 : decode cX2_addKin 10 = .ok (.ior, 1) := by decide +kernel
theorem dX2_addKin_11 : decode cX2_addKin 11 = .ok (.iastore, 1) := by decide +kernel
theorem dX2_addKin_12 : decode cX2_addKin 12 = .ok (.aload_n 0, 1) := by decide +kernel
theorem dX2_addKin_13 : decode cX2_addKin 13 = .ok (.getfield 22, 3) := by decide +kernel
theorem dX2_addKin_16 : decode cX2_addKin 16 = .ok (.iload_n 2, 1) := by decide +kernel
theorem dX2_addKin_17 : decode cX2_addKin 17 = .ok (.dup2, 1) := by decide +kernel
theorem dX2_addKin_18 : decode cX2_addKin 18 = .ok (.iaload, 1) := by decide +kernel
theorem dX2_addKin_19 : decode cX2_addKin 19 = .ok (.iconst 1, 1) := by decide +kernel
theorem dX2_addKin_20 : decode cX2_addKin 20 = .ok (.iload_n 1, 1) := by decide +kernel
theorem dX2_addKin_21 : decode cX2_addKin 21 = .ok (.ishl, 1) := by decide +kernel
theorem dX2_addKin_22 : decode cX2_addKin 22 = .ok (.ior, 1) := by decide +kernel
theorem dX2_addKin_23 : decode cX2_addKin 23 = .ok (.iastore, 1) := by decide +kernel
theorem dX2_addKin_24 : decode cX2_addKin 24 = .ok (.aload_n 0, 1) := by decide +kernel
theorem dX2_addKin_25 : decode cX2_addKin 25 = .ok (.dup, 1) := by decide +kernel
theorem dX2_addKin_26 : decode cX2_addKin 26 = .ok (.getfield 38, 3) := by decide +kernel
theorem dX2_addKin_29 : decode cX2_addKin 29 = .ok (.iconst 1, 1) := by decide +kernel
theorem dX2_addKin_30 : decode cX2_addKin 30 = .ok (.iadd, 1) := by decide +kernel
theorem dX2_addKin_31 : decode cX2_addKin 31 = .ok (.putfield 38, 3) := by decide +kernel
theorem dX2_addKin_34 : decode cX2_addKin 34 = .ok (.return_, 1) := by decide +kernel
theorem dX2_heeds_0 : decode cX2_heeds 0 = .ok (.iconst 0, 1) := by decide +kernel
theorem dX2_heeds_1 : decode cX2_heeds 1 = .ok (.istore_n 3, 1) := by decide +kernel
theorem dX2_heeds_2 : decode cX2_heeds 2 = .ok (.iload_n 3, 1) := by decide +kernel
theorem dX2_heeds_3 : decode cX2_heeds 3 = .ok (.aload_n 0, 1) := by decide +kernel
theorem dX2_heeds_4 : decode cX2_heeds 4 = .ok (.getfield 41, 3) := by decide +kernel
theorem dX2_heeds_7 : decode cX2_heeds 7 = .ok (.if_icmp .ge 31, 3) := by decide +kernel
theorem dX2_heeds_10 : decode cX2_heeds 10 = .ok (.aload_n 0, 1) := by decide +kernel
theorem dX2_heeds_11 : decode cX2_heeds 11 = .ok (.getfield 25, 3) := by decide +kernel
theorem dX2_heeds_14 : decode cX2_heeds 14 = .ok (.iload_n 3, 1) := by decide +kernel
theorem dX2_heeds_15 : decode cX2_heeds 15 = .ok (.iaload, 1) := by decide +kernel
theorem dX2_heeds_16 : decode cX2_heeds 16 = .ok (.iload_n 1, 1) := by decide +kernel
theorem dX2_heeds_17 : decode cX2_heeds 17 = .ok (.if_icmp .ne 15, 3) := by decide +kernel
theorem dX2_heeds_20 : decode cX2_heeds 20 = .ok (.aload_n 0, 1) := by decide +kernel
theorem dX2_heeds_21 : decode cX2_heeds 21 = .ok (.getfield 28, 3) := by decide +kernel
theorem dX2_heeds_24 : decode cX2_heeds 24 = .ok (.iload_n 3, 1) := by decide +kernel
theorem dX2_heeds_25 : decode cX2_heeds 25 = .ok (.iaload, 1) := by decide +kernel
theorem dX2_heeds_26 : decode cX2_heeds 26 = .ok (.iload_n 2, 1) := by decide +kernel
theorem dX2_heeds_27 : decode cX2_heeds 27 = .ok (.if_icmp .ne 5, 3) := by decide +kernel
theorem dX2_heeds_30 : decode cX2_heeds 30 = .ok (.iconst 1, 1) := by decide +kernel
theorem dX2_heeds_31 : decode cX2_heeds 31 = .ok (.ireturn, 1) := by decide +kernel
theorem dX2_heeds_32 : decode cX2_heeds 32 = .ok (.iinc 3 1, 3) := by decide +kernel
theorem dX2_heeds_35 : decode cX2_heeds 35 = .ok (.goto (-33), 3) := by decide +kernel
theorem dX2_heeds_38 : decode cX2_heeds 38 = .ok (.iconst 0, 1) := by decide +kernel
theorem dX2_heeds_39 : decode cX2_heeds 39 = .ok (.ireturn, 1) := by decide +kernel
theorem dX2_addHeed_0 : decode cX2_addHeed 0 = .ok (.aload_n 0, 1) := by decide +kernel
theorem dX2_addHeed_1 : decode cX2_addHeed 1 = .ok (.getfield 41, 3) := by decide +kernel
theorem dX2_addHeed_4 : decode cX2_addHeed 4 = .ok (.bipush 9, 2) := by decide +kernel
theorem dX2_addHeed_6 : decode cX2_addHeed 6 = .ok (.if_icmp .lt 4, 3) := by decide +kernel
theorem dX2_addHeed_9 : decode cX2_addHeed 9 = .ok (.return_, 1) := by decide +kernel
theorem dX2_addHeed_10 : decode cX2_addHeed 10 = .ok (.aload_n 0, 1) := by decide +kernel
theorem dX2_addHeed_11 : decode cX2_addHeed 11 = .ok (.getfield 25, 3) := by decide +kernel
theorem dX2_addHeed_14 : decode cX2_addHeed 14 = .ok (.aload_n 0, 1) := by decide +kernel
theorem dX2_addHeed_15 : decode cX2_addHeed 15 = .ok (.getfield 41, 3) := by decide +kernel
theorem dX2_addHeed_18 : decode cX2_addHeed 18 = .ok (.iload_n 1, 1) := by decide +kernel
theorem dX2_addHeed_19 : decode cX2_addHeed 19 = .ok (.iastore, 1) := by decide +kernel
theorem dX2_addHeed_20 : decode cX2_addHeed 20 = .ok (.aload_n 0, 1) := by decide +kernel
theorem dX2_addHeed_21 : decode cX2_addHeed 21 = .ok (.getfield 28, 3) := by decide +kernel
theorem dX2_addHeed_24 : decode cX2_addHeed 24 = .ok (.aload_n 0, 1) := by decide +kernel
theorem dX2_addHeed_25 : decode cX2_addHeed 25 = .ok (.getfield 41, 3) := by decide +kernel
theorem dX2_addHeed_28 : decode cX2_addHeed 28 = .ok (.iload_n 2, 1) := by decide +kernel
theorem dX2_addHeed_29 : decode cX2_addHeed 29 = .ok (.iastore, 1) := by decide +kernel
theorem dX2_addHeed_30 : decode cX2_addHeed 30 = .ok (.aload_n 0, 1) := by decide +kernel
theorem dX2_addHeed_31 : decode cX2_addHeed 31 = .ok (.getfield 31, 3) := by decide +kernel
theorem dX2_addHeed_34 : decode cX2_addHeed 34 = .ok (.aload_n 0, 1) := by decide +kernel
theorem dX2_addHeed_35 : decode cX2_addHeed 35 = .ok (.getfield 41, 3) := by decide +kernel
theorem dX2_addHeed_38 : decode cX2_addHeed 38 = .ok (.iload_n 3, 1) := by decide +kernel
theorem dX2_addHeed_39 : decode cX2_addHeed 39 = .ok (.iastore, 1) := by decide +kernel
theorem dX2_addHeed_40 : decode cX2_addHeed 40 = .ok (.aload_n 0, 1) := by decide +kernel
theorem dX2_addHeed_41 : decode cX2_addHeed 41 = .ok (.dup, 1) := by decide +kernel
theorem dX2_addHeed_42 : decode cX2_addHeed 42 = .ok (.getfield 41, 3) := by decide +kernel
theorem dX2_addHeed_45 : decode cX2_addHeed 45 = .ok (.iconst 1, 1) := by decide +kernel
theorem dX2_addHeed_46 : decode cX2_addHeed 46 = .ok (.iadd, 1) := by decide +kernel
theorem dX2_addHeed_47 : decode cX2_addHeed 47 = .ok (.putfield 41, 3) := by decide +kernel
theorem dX2_addHeed_50 : decode cX2_addHeed 50 = .ok (.return_, 1) := by decide +kernel
theorem dX2_sameTown_0 : decode cX2_sameTown 0 = .ok (.iconst 0, 1) := by decide +kernel
theorem dX2_sameTown_1 : decode cX2_sameTown 1 = .ok (.istore_n 2, 1) := by decide +kernel
theorem dX2_sameTown_2 : decode cX2_sameTown 2 = .ok (.iconst 0, 1) := by decide +kernel
theorem dX2_sameTown_3 : decode cX2_sameTown 3 = .ok (.istore_n 3, 1) := by decide +kernel
theorem dX2_sameTown_4 : decode cX2_sameTown 4 = .ok (.iload_n 3, 1) := by decide +kernel
theorem dX2_sameTown_5 : decode cX2_sameTown 5 = .ok (.aload_n 0, 1) := by decide +kernel
theorem dX2_sameTown_6 : decode cX2_sameTown 6 = .ok (.getfield 34, 3) := by decide +kernel
theorem dX2_sameTown_9 : decode cX2_sameTown 9 = .ok (.if_icmp .ge 36, 3) := by decide +kernel
theorem dX2_sameTown_12 : decode cX2_sameTown 12 = .ok (.iload_n 3, 1) := by decide +kernel
theorem dX2_sameTown_13 : decode cX2_sameTown 13 = .ok (.iload_n 1, 1) := by decide +kernel
theorem dX2_sameTown_14 : decode cX2_sameTown 14 = .ok (.if_icmp .eq 25, 3) := by decide +kernel
theorem dX2_sameTown_17 : decode cX2_sameTown 17 = .ok (.aload_n 0, 1) := by decide +kernel
theorem dX2_sameTown_18 : decode cX2_sameTown 18 = .ok (.getfield 15, 3) := by decide +kernel
theorem dX2_sameTown_21 : decode cX2_sameTown 21 = .ok (.iload_n 3, 1) := by decide +kernel
theorem dX2_sameTown_22 : decode cX2_sameTown 22 = .ok (.laload, 1) := by decide +kernel
theorem dX2_sameTown_23 : decode cX2_sameTown 23 = .ok (.aload_n 0, 1) := by decide +kernel
theorem dX2_sameTown_24 : decode cX2_sameTown 24 = .ok (.getfield 15, 3) := by decide +kernel
theorem dX2_sameTown_27 : decode cX2_sameTown 27 = .ok (.iload_n 1, 1) := by decide +kernel
theorem dX2_sameTown_28 : decode cX2_sameTown 28 = .ok (.laload, 1) := by decide +kernel
theorem dX2_sameTown_29 : decode cX2_sameTown 29 = .ok (.lcmp, 1) := by decide +kernel
theorem dX2_sameTown_30 : decode cX2_sameTown 30 = .ok (.ifCond .ne 9, 3) := by decide +kernel
theorem dX2_sameTown_33 : decode cX2_sameTown 33 = .ok (.iload_n 2, 1) := by decide +kernel
theorem dX2_sameTown_34 : decode cX2_sameTown 34 = .ok (.iconst 1, 1) := by decide +kernel
theorem dX2_sameTown_35 : decode cX2_sameTown 35 = .ok (.iload_n 3, 1) := by decide +kernel
theorem dX2_sameTown_36 : decode cX2_sameTown 36 = .ok (.ishl, 1) := by decide +kernel
theorem dX2_sameTown_37 : decode cX2_sameTown 37 = .ok (.ior, 1) := by decide +kernel
theorem dX2_sameTown_38 : decode cX2_sameTown 38 = .ok (.istore_n 2, 1) := by decide +kernel
theorem dX2_sameTown_39 : decode cX2_sameTown 39 = .ok (.iinc 3 1, 3) := by decide +kernel
theorem dX2_sameTown_42 : decode cX2_sameTown 42 = .ok (.goto (-38), 3) := by decide +kernel
theorem dX2_sameTown_45 : decode cX2_sameTown 45 = .ok (.iload_n 2, 1) := by decide +kernel
theorem dX2_sameTown_46 : decode cX2_sameTown 46 = .ok (.ireturn, 1) := by decide +kernel
theorem dX2_marriable_0 : decode cX2_marriable 0 = .ok (.aload_n 0, 1) := by decide +kernel
theorem dX2_marriable_1 : decode cX2_marriable 1 = .ok (.iconst 3, 1) := by decide +kernel
theorem dX2_marriable_2 : decode cX2_marriable 2 = .ok (.invokevirtual 50, 3) := by decide +kernel
theorem dX2_marriable_5 : decode cX2_marriable 5 = .ok (.istore_n 2, 1) := by decide +kernel
theorem dX2_marriable_6 : decode cX2_marriable 6 = .ok (.iload_n 2, 1) := by decide +kernel
theorem dX2_marriable_7 : decode cX2_marriable 7 = .ok (.iload_n 1, 1) := by decide +kernel
theorem dX2_marriable_8 : decode cX2_marriable 8 = .ok (.ishr, 1) := by decide +kernel
theorem dX2_marriable_9 : decode cX2_marriable 9 = .ok (.iconst 1, 1) := by decide +kernel
theorem dX2_marriable_10 : decode cX2_marriable 10 = .ok (.iand, 1) := by decide +kernel
theorem dX2_marriable_11 : decode cX2_marriable 11 = .ok (.iconst 1, 1) := by decide +kernel
theorem dX2_marriable_12 : decode cX2_marriable 12 = .ok (.if_icmp .ne 7, 3) := by decide +kernel
theorem dX2_marriable_15 : decode cX2_marriable 15 = .ok (.iconst 0, 1) := by decide +kernel
theorem dX2_marriable_16 : decode cX2_marriable 16 = .ok (.goto 21, 3) := by decide +kernel
theorem dX2_marriable_19 : decode cX2_marriable 19 = .ok (.aload_n 0, 1) := by decide +kernel
theorem dX2_marriable_20 : decode cX2_marriable 20 = .ok (.iload_n 1, 1) := by decide +kernel
theorem dX2_marriable_21 : decode cX2_marriable 21 = .ok (.invokevirtual 54, 3) := by decide +kernel
theorem dX2_marriable_24 : decode cX2_marriable 24 = .ok (.aload_n 0, 1) := by decide +kernel
theorem dX2_marriable_25 : decode cX2_marriable 25 = .ok (.getfield 22, 3) := by decide +kernel
theorem dX2_marriable_28 : decode cX2_marriable 28 = .ok (.iload_n 1, 1) := by decide +kernel
theorem dX2_marriable_29 : decode cX2_marriable 29 = .ok (.iaload, 1) := by decide +kernel
theorem dX2_marriable_30 : decode cX2_marriable 30 = .ok (.iconst (-1), 1) := by decide +kernel
theorem dX2_marriable_31 : decode cX2_marriable 31 = .ok (.ixor, 1) := by decide +kernel
theorem dX2_marriable_32 : decode cX2_marriable 32 = .ok (.iand, 1) := by decide +kernel
theorem dX2_marriable_33 : decode cX2_marriable 33 = .ok (.iload_n 2, 1) := by decide +kernel
theorem dX2_marriable_34 : decode cX2_marriable 34 = .ok (.iconst (-1), 1) := by decide +kernel
theorem dX2_marriable_35 : decode cX2_marriable 35 = .ok (.ixor, 1) := by decide +kernel
theorem dX2_marriable_36 : decode cX2_marriable 36 = .ok (.iand, 1) := by decide +kernel
theorem dX2_marriable_37 : decode cX2_marriable 37 = .ok (.ireturn, 1) := by decide +kernel
theorem dX2_gentlemen_0 : decode cX2_gentlemen 0 = .ok (.aload_n 0, 1) := by decide +kernel
theorem dX2_gentlemen_1 : decode cX2_gentlemen 1 = .ok (.iconst 1, 1) := by decide +kernel
theorem dX2_gentlemen_2 : decode cX2_gentlemen 2 = .ok (.invokevirtual 50, 3) := by decide +kernel
theorem dX2_gentlemen_5 : decode cX2_gentlemen 5 = .ok (.aload_n 0, 1) := by decide +kernel
theorem dX2_gentlemen_6 : decode cX2_gentlemen 6 = .ok (.iconst 0, 1) := by decide +kernel
theorem dX2_gentlemen_7 : decode cX2_gentlemen 7 = .ok (.invokevirtual 50, 3) := by decide +kernel
theorem dX2_gentlemen_10 : decode cX2_gentlemen 10 = .ok (.ior, 1) := by decide +kernel
theorem dX2_gentlemen_11 : decode cX2_gentlemen 11 = .ok (.ireturn, 1) := by decide +kernel
theorem dX2_ofKind_0 : decode cX2_ofKind 0 = .ok (.iconst 0, 1) := by decide +kernel
theorem dX2_ofKind_1 : decode cX2_ofKind 1 = .ok (.istore_n 2, 1) := by decide +kernel
theorem dX2_ofKind_2 : decode cX2_ofKind 2 = .ok (.iconst 0, 1) := by decide +kernel
theorem dX2_ofKind_3 : decode cX2_ofKind 3 = .ok (.istore_n 3, 1) := by decide +kernel
theorem dX2_ofKind_4 : decode cX2_ofKind 4 = .ok (.iload_n 3, 1) := by decide +kernel
theorem dX2_ofKind_5 : decode cX2_ofKind 5 = .ok (.aload_n 0, 1) := by decide +kernel
theorem dX2_ofKind_6 : decode cX2_ofKind 6 = .ok (.getfield 34, 3) := by decide +kernel
theorem dX2_ofKind_9 : decode cX2_ofKind 9 = .ok (.if_icmp .ge 25, 3) := by decide +kernel
theorem dX2_ofKind_12 : decode cX2_ofKind 12 = .ok (.aload_n 0, 1) := by decide +kernel
theorem dX2_ofKind_13 : decode cX2_ofKind 13 = .ok (.getfield 9, 3) := by decide +kernel
theorem dX2_ofKind_16 : decode cX2_ofKind 16 = .ok (.iload_n 3, 1) := by decide +kernel
theorem dX2_ofKind_17 : decode cX2_ofKind 17 = .ok (.iaload, 1) := by decide +kernel
theorem dX2_ofKind_18 : decode cX2_ofKind 18 = .ok (.iload_n 1, 1) := by decide +kernel
theorem dX2_ofKind_19 : decode cX2_ofKind 19 = .ok (.if_icmp .ne 9, 3) := by decide +kernel
theorem dX2_ofKind_22 : decode cX2_ofKind 22 = .ok (.iload_n 2, 1) := by decide +kernel
theorem dX2_ofKind_23 : decode cX2_ofKind 23 = .ok (.iconst 1, 1) := by decide +kernel
theorem dX2_ofKind_24 : decode cX2_ofKind 24 = .ok (.iload_n 3, 1) := by decide +kernel
theorem dX2_ofKind_25 : decode cX2_ofKind 25 = .ok (.ishl, 1) := by decide +kernel
theorem dX2_ofKind_26 : decode cX2_ofKind 26 = .ok (.ior, 1) := by decide +kernel
theorem dX2_ofKind_27 : decode cX2_ofKind 27 = .ok (.istore_n 2, 1) := by decide +kernel
theorem dX2_ofKind_28 : decode cX2_ofKind 28 = .ok (.iinc 3 1, 3) := by decide +kernel
theorem dX2_ofKind_31 : decode cX2_ofKind 31 = .ok (.goto (-27), 3) := by decide +kernel
theorem dX2_ofKind_34 : decode cX2_ofKind 34 = .ok (.iload_n 2, 1) := by decide +kernel
theorem dX2_ofKind_35 : decode cX2_ofKind 35 = .ok (.ireturn, 1) := by decide +kernel
theorem dX2_eatersAhead_0 : decode cX2_eatersAhead 0 = .ok (.aload_n 0, 1) := by decide +kernel
theorem dX2_eatersAhead_1 : decode cX2_eatersAhead 1 = .ok (.iconst 3, 1) := by decide +kernel
theorem dX2_eatersAhead_2 : decode cX2_eatersAhead 2 = .ok (.invokevirtual 50, 3) := by decide +kernel
theorem dX2_eatersAhead_5 : decode cX2_eatersAhead 5 = .ok (.istore_n 2, 1) := by decide +kernel
theorem dX2_eatersAhead_6 : decode cX2_eatersAhead 6 = .ok (.iconst 1, 1) := by decide +kernel
theorem dX2_eatersAhead_7 : decode cX2_eatersAhead 7 = .ok (.iload_n 1, 1) := by decide +kernel
theorem dX2_eatersAhead_8 : decode cX2_eatersAhead 8 = .ok (.ishl, 1) := by decide +kernel
theorem dX2_eatersAhead_9 : decode cX2_eatersAhead 9 = .ok (.iconst 1, 1) := by decide +kernel
theorem dX2_eatersAhead_10 : decode cX2_eatersAhead 10 = .ok (.isub, 1) := by decide +kernel
theorem dX2_eatersAhead_11 : decode cX2_eatersAhead 11 = .ok (.istore_n 3, 1) := by decide +kernel
theorem dX2_eatersAhead_12 : decode cX2_eatersAhead 12 = .ok (.iload_n 2, 1) := by decide +kernel
theorem dX2_eatersAhead_13 : decode cX2_eatersAhead 13 = .ok (.iload_n 1, 1) := by decide +kernel
theorem dX2_eatersAhead_14 : decode cX2_eatersAhead 14 = .ok (.ishr, 1) := by decide +kernel
theorem dX2_eatersAhead_15 : decode cX2_eatersAhead 15 = .ok (.iconst 1, 1) := by decide +kernel
theorem dX2_eatersAhead_16 : decode cX2_eatersAhead 16 = .ok (.iand, 1) := by decide +kernel
theorem dX2_eatersAhead_17 : decode cX2_eatersAhead 17 = .ok (.iconst 1, 1) := by decide +kernel
theorem dX2_eatersAhead_18 : decode cX2_eatersAhead 18 = .ok (.if_icmp .ne 7, 3) := by decide +kernel
theorem dX2_eatersAhead_21 : decode cX2_eatersAhead 21 = .ok (.iconst 1, 1) := by decide +kernel
theorem dX2_eatersAhead_22 : decode cX2_eatersAhead 22 = .ok (.goto 4, 3) := by decide +kernel
theorem dX2_eatersAhead_25 : decode cX2_eatersAhead 25 = .ok (.iconst 0, 1) := by decide +kernel
theorem dX2_eatersAhead_26 : decode cX2_eatersAhead 26 = .ok (.istore 4, 2) := by decide +kernel
theorem dX2_eatersAhead_28 : decode cX2_eatersAhead 28 = .ok (.iload 4, 2) := by decide +kernel
theorem dX2_eatersAhead_30 : decode cX2_eatersAhead 30 = .ok (.ifCond .eq 9, 3) := by decide +kernel
theorem dX2_eatersAhead_33 : decode cX2_eatersAhead 33 = .ok (.iload_n 2, 1) := by decide +kernel
theorem dX2_eatersAhead_34 : decode cX2_eatersAhead 34 = .ok (.iload_n 3, 1) := by decide +kernel
theorem dX2_eatersAhead_35 : decode cX2_eatersAhead 35 = .ok (.iand, 1) := by decide +kernel
theorem dX2_eatersAhead_36 : decode cX2_eatersAhead 36 = .ok (.goto 6, 3) := by decide +kernel
theorem dX2_eatersAhead_39 : decode cX2_eatersAhead 39 = .ok (.iload_n 2, 1) := by decide +kernel
theorem dX2_eatersAhead_40 : decode cX2_eatersAhead 40 = .ok (.iload_n 3, 1) := by decide +kernel
theorem dX2_eatersAhead_41 : decode cX2_eatersAhead 41 = .ok (.ior, 1) := by decide +kernel
theorem dX2_eatersAhead_42 : decode cX2_eatersAhead 42 = .ok (.invokestatic 57, 3) := by decide +kernel
theorem dX2_eatersAhead_45 : decode cX2_eatersAhead 45 = .ok (.ireturn, 1) := by decide +kernel
theorem dX2_firstEaters_0 : decode cX2_firstEaters 0 = .ok (.iconst 0, 1) := by decide +kernel
theorem dX2_firstEaters_1 : decode cX2_firstEaters 1 = .ok (.istore_n 2, 1) := by decide +kernel
theorem dX2_firstEaters_2 : decode cX2_firstEaters 2 = .ok (.iconst 0, 1) := by decide +kernel
theorem dX2_firstEaters_3 : decode cX2_firstEaters 3 = .ok (.istore_n 3, 1) := by decide +kernel
theorem dX2_firstEaters_4 : decode cX2_firstEaters 4 = .ok (.iload_n 3, 1) := by decide +kernel
theorem dX2_firstEaters_5 : decode cX2_firstEaters 5 = .ok (.aload_n 0, 1) := by decide +kernel
theorem dX2_firstEaters_6 : decode cX2_firstEaters 6 = .ok (.getfield 34, 3) := by decide +kernel
theorem dX2_firstEaters_9 : decode cX2_firstEaters 9 = .ok (.if_icmp .ge 24, 3) := by decide +kernel
theorem dX2_firstEaters_12 : decode cX2_firstEaters 12 = .ok (.aload_n 0, 1) := by decide +kernel
theorem dX2_firstEaters_13 : decode cX2_firstEaters 13 = .ok (.iload_n 3, 1) := by decide +kernel
theorem dX2_firstEaters_14 : decode cX2_firstEaters 14 = .ok (.invokevirtual 62, 3) := by decide +kernel
theorem dX2_firstEaters_17 : decode cX2_firstEaters 17 = .ok (.iload_n 1, 1) := by decide +kernel
theorem dX2_firstEaters_18 : decode cX2_firstEaters 18 = .ok (.if_icmp .ge 9, 3) := by decide +kernel
theorem dX2_firstEaters_21 : decode cX2_firstEaters 21 = .ok (.iload_n 2, 1) := by decide +kernel
theorem dX2_firstEaters_22 : decode cX2_firstEaters 22 = .ok (.iconst 1, 1) := by decide +kernel
theorem dX2_firstEaters_23 : decode cX2_firstEaters 23 = .ok (.iload_n 3, 1) := by decide +kernel
theorem dX2_firstEaters_24 : decode cX2_firstEaters 24 = .ok (.ishl, 1) := by decide +kernel
theorem dX2_firstEaters_25 : decode cX2_firstEaters 25 = .ok (.ior, 1) := by decide +kernel
theorem dX2_firstEaters_26 : decode cX2_firstEaters 26 = .ok (.istore_n 2, 1) := by decide +kernel
theorem dX2_firstEaters_27 : decode cX2_firstEaters 27 = .ok (.iinc 3 1, 3) := by decide +kernel
theorem dX2_firstEaters_30 : decode cX2_firstEaters 30 = .ok (.goto (-26), 3) := by decide +kernel
theorem dX2_firstEaters_33 : decode cX2_firstEaters 33 = .ok (.iload_n 2, 1) := by decide +kernel
theorem dX2_firstEaters_34 : decode cX2_firstEaters 34 = .ok (.ireturn, 1) := by decide +kernel
theorem dX3_init_0 : decode cX3_init 0 = .ok (.aload_n 0, 1) := by decide +kernel
theorem dX3_init_1 : decode cX3_init 1 = .ok (.invokespecial 3, 3) := by decide +kernel
theorem dX3_init_4 : decode cX3_init 4 = .ok (.aload_n 0, 1) := by decide +kernel
theorem dX3_init_5 : decode cX3_init 5 = .ok (.bipush 6, 2) := by decide +kernel
theorem dX3_init_7 : decode cX3_init 7 = .ok (.newarray .int, 2) := by decide +kernel
theorem dX3_init_9 : decode cX3_init 9 = .ok (.putfield 9, 3) := by decide +kernel
theorem dX3_init_12 : decode cX3_init 12 = .ok (.aload_n 0, 1) := by decide +kernel
theorem dX3_init_13 : decode cX3_init 13 = .ok (.bipush 6, 2) := by decide +kernel
theorem dX3_init_15 : decode cX3_init 15 = .ok (.newarray .int, 2) := by decide +kernel
theorem dX3_init_17 : decode cX3_init 17 = .ok (.putfield 15, 3) := by decide +kernel
theorem dX3_init_20 : decode cX3_init 20 = .ok (.aload_n 0, 1) := by decide +kernel
theorem dX3_init_21 : decode cX3_init 21 = .ok (.bipush 6, 2) := by decide +kernel
theorem dX3_init_23 : decode cX3_init 23 = .ok (.newarray .int, 2) := by decide +kernel
theorem dX3_init_25 : decode cX3_init 25 = .ok (.putfield 18, 3) := by decide +kernel
theorem dX3_init_28 : decode cX3_init 28 = .ok (.aload_n 0, 1) := by decide +kernel
theorem dX3_init_29 : decode cX3_init 29 = .ok (.bipush 6, 2) := by decide +kernel
theorem dX3_init_31 : decode cX3_init 31 = .ok (.newarray .int, 2) := by decide +kernel
theorem dX3_init_33 : decode cX3_init 33 = .ok (.putfield 21, 3) := by decide +kernel
theorem dX3_init_36 : decode cX3_init 36 = .ok (.aload_n 0, 1) := by decide +kernel
theorem dX3_init_37 : decode cX3_init 37 = .ok (.bipush 6, 2) := by decide +kernel
theorem dX3_init_39 : decode cX3_init 39 = .ok (.newarray .int, 2) := by decide +kernel
theorem dX3_init_41 : decode cX3_init 41 = .ok (.putfield 24, 3) := by decide +kernel
theorem dX3_init_44 : decode cX3_init 44 = .ok (.return_, 1) := by decide +kernel
theorem dX3_clear_0 : decode cX3_clear 0 = .ok (.aload_n 0, 1) := by decide +kernel
theorem dX3_clear_1 : decode cX3_clear 1 = .ok (.iconst 0, 1) := by decide +kernel
theorem dX3_clear_2 : decode cX3_clear 2 = .ok (.putfield 27, 3) := by decide +kernel
theorem dX3_clear_5 : decode cX3_clear 5 = .ok (.aload_n 0, 1) := by decide +kernel
theorem dX3_clear_6 : decode cX3_clear 6 = .ok (.iconst 0, 1) := by decide +kernel
theorem dX3_clear_7 : decode cX3_clear 7 = .ok (.putfield 31, 3) := by decide +kernel
theorem dX3_clear_10 : decode cX3_clear 10 = .ok (.aload_n 0, 1) := by decide +kernel
theorem dX3_clear_11 : decode cX3_clear 11 = .ok (.iconst 0, 1) := by decide +kernel
theorem dX3_clear_12 : decode cX3_clear 12 = .ok (.putfield 34, 3) := by decide +kernel
theorem dX3_clear_15 : decode cX3_clear 15 = .ok (.aload_n 0, 1) := by decide +kernel
theorem dX3_clear_16 : decode cX3_clear 16 = .ok (.iconst 0, 1) := by decide +kernel
theorem dX3_clear_17 : decode cX3_clear 17 = .ok (.putfield 37, 3) := by decide +kernel
theorem dX3_clear_20 : decode cX3_clear 20 = .ok (.return_, 1) := by decide +kernel
theorem dX3_has_0 : decode cX3_has 0 = .ok (.iload_n 1, 1) := by decide +kernel
theorem dX3_has_1 : decode cX3_has 1 = .ok (.ifCond .lt 15, 3) := by decide +kernel
theorem dX3_has_4 : decode cX3_has 4 = .ok (.iload_n 1, 1) := by decide +kernel
theorem dX3_has_5 : decode cX3_has 5 = .ok (.aload_n 0, 1) := by decide +kernel
theorem dX3_has_6 : decode cX3_has 6 = .ok (.getfield 27, 3) := by decide +kernel
theorem dX3_has_9 : decode cX3_has 9 = .ok (.if_icmp .ge 7, 3) := by decide +kernel
theorem dX3_has_12 : decode cX3_has 12 = .ok (.iconst 1, 1) := by decide +kernel
theorem dX3_has_13 : decode cX3_has 13 = .ok (.goto 4, 3) := by decide +kernel
theorem dX3_has_16 : decode cX3_has 16 = .ok (.iconst 0, 1) := by decide +kernel
theorem dX3_has_17 : decode cX3_has 17 = .ok (.ireturn, 1) := by decide +kernel
theorem dX3_isTaken_0 : decode cX3_isTaken 0 = .ok (.iconst 0, 1) := by decide +kernel
theorem dX3_isTaken_1 : decode cX3_isTaken 1 = .ok (.istore_n 3, 1) := by decide +kernel
theorem dX3_isTaken_2 : decode cX3_isTaken 2 = .ok (.iload_n 3, 1) := by decide +kernel
theorem dX3_isTaken_3 : decode cX3_isTaken 3 = .ok (.aload_n 0, 1) := by decide +kernel
theorem dX3_isTaken_4 : decode cX3_isTaken 4 = .ok (.getfield 27, 3) := by decide +kernel
theorem dX3_isTaken_7 : decode cX3_isTaken 7 = .ok (.if_icmp .ge 31, 3) := by decide +kernel
theorem dX3_isTaken_10 : decode cX3_isTaken 10 = .ok (.aload_n 0, 1) := by decide +kernel
theorem dX3_isTaken_11 : decode cX3_isTaken 11 = .ok (.getfield 15, 3) := by decide +kernel
theorem dX3_isTaken_14 : decode cX3_isTaken 14 = .ok (.iload_n 3, 1) := by decide +kernel
theorem dX3_isTaken_15 : decode cX3_isTaken 15 = .ok (.iaload, 1) := by decide +kernel
theorem dX3_isTaken_16 : decode cX3_isTaken 16 = .ok (.iload_n 1, 1) := by decide +kernel
theorem dX3_isTaken_17 : decode cX3_isTaken 17 = .ok (.if_icmp .ne 15, 3) := by decide +kernel
theorem dX3_isTaken_20 : decode cX3_isTaken 20 = .ok (.aload_n 0, 1) := by decide +kernel
theorem dX3_isTaken_21 : decode cX3_isTaken 21 = .ok (.getfield 18, 3) := by decide +kernel
theorem dX3_isTaken_24 : decode cX3_isTaken 24 = .ok (.iload_n 3, 1) := by decide +kernel
theorem dX3_isTaken_25 : decode cX3_isTaken 25 = .ok (.iaload, 1) := by decide +kernel
theorem dX3_isTaken_26 : decode cX3_isTaken 26 = .ok (.iload_n 2, 1) := by decide +kernel
theorem dX3_isTaken_27 : decode cX3_isTaken 27 = .ok (.if_icmp .ne 5, 3) := by decide +kernel
theorem dX3_isTaken_30 : decode cX3_isTaken 30 = .ok (.iconst 1, 1) := by decide +kernel
theorem dX3_isTaken_31 : decode cX3_isTaken 31 = .ok (.ireturn, 1) := by decide +kernel
theorem dX3_isTaken_32 : decode cX3_isTaken 32 = .ok (.iinc 3 1, 3) := by decide +kernel
theorem dX3_isTaken_35 : decode cX3_isTaken 35 = .ok (.goto (-33), 3) := by decide +kernel
theorem dX3_isTaken_38 : decode cX3_isTaken 38 = .ok (.iload_n 1, 1) := by decide +kernel
theorem dX3_isTaken_39 : decode cX3_isTaken 39 = .ok (.aload_n 0, 1) := by decide +kernel
theorem dX3_isTaken_40 : decode cX3_isTaken 40 = .ok (.getfield 40, 3) := by decide +kernel
theorem dX3_isTaken_43 : decode cX3_isTaken 43 = .ok (.if_icmp .ne 15, 3) := by decide +kernel
theorem dX3_isTaken_46 : decode cX3_isTaken 46 = .ok (.iload_n 2, 1) := by decide +kernel
theorem dX3_isTaken_47 : decode cX3_isTaken 47 = .ok (.aload_n 0, 1) := by decide +kernel
theorem dX3_isTaken_48 : decode cX3_isTaken 48 = .ok (.getfield 43, 3) := by decide +kernel
theorem dX3_isTaken_51 : decode cX3_isTaken 51 = .ok (.if_icmp .ne 7, 3) := by decide +kernel
theorem dX3_isTaken_54 : decode cX3_isTaken 54 = .ok (.iconst 1, 1) := by decide +kernel
theorem dX3_isTaken_55 : decode cX3_isTaken 55 = .ok (.goto 4, 3) := by decide +kernel
theorem dX3_isTaken_58 : decode cX3_isTaken 58 = .ok (.iconst 0, 1) := by decide +kernel
theorem dX3_isTaken_59 : decode cX3_isTaken 59 = .ok (.ireturn, 1) := by decide +kernel
theorem dX3_heatAlone_0 : decode cX3_heatAlone 0 = .ok (.aload_n 0, 1) := by decide +kernel
theorem dX3_heatAlone_1 : decode cX3_heatAlone 1 = .ok (.getfield 15, 3) := by decide +kernel
theorem dX3_heatAlone_4 : decode cX3_heatAlone 4 = .ok (.iload_n 1, 1) := by decide +kernel
theorem dX3_heatAlone_5 : decode cX3_heatAlone 5 = .ok (.iaload, 1) := by decide +kernel
theorem dX3_heatAlone_6 : decode cX3_heatAlone 6 = .ok (.aload_n 0, 1) := by decide +kernel
theorem dX3_heatAlone_7 : decode cX3_heatAlone 7 = .ok (.getfield 40, 3) := by decide +kernel
theorem dX3_heatAlone_10 : decode cX3_heatAlone 10 = .ok (.isub, 1) := by decide +kernel
theorem dX3_heatAlone_11 : decode cX3_heatAlone 11 = .ok (.invokestatic 46, 3) := by decide +kernel
theorem dX3_heatAlone_14 : decode cX3_heatAlone 14 = .ok (.aload_n 0, 1) := by decide +kernel
theorem dX3_heatAlone_15 : decode cX3_heatAlone 15 = .ok (.getfield 18, 3) := by decide +kernel
theorem dX3_heatAlone_18 : decode cX3_heatAlone 18 = .ok (.iload_n 1, 1) := by decide +kernel
theorem dX3_heatAlone_19 : decode cX3_heatAlone 19 = .ok (.iaload, 1) := by decide +kernel
theorem dX3_heatAlone_20 : decode cX3_heatAlone 20 = .ok (.aload_n 0, 1) := by decide +kernel
theorem dX3_heatAlone_21 : decode cX3_heatAlone 21 = .ok (.getfield 43, 3) := by decide +kernel
theorem dX3_heatAlone_24 : decode cX3_heatAlone 24 = .ok (.isub, 1) := by decide +kernel
theorem dX3_heatAlone_25 : decode cX3_heatAlone 25 = .ok (.invokestatic 46, 3) := by decide +kernel
theorem dX3_heatAlone_28 : decode cX3_heatAlone 28 = .ok (.iadd, 1) := by decide +kernel
theorem dX3_heatAlone_29 : decode cX3_heatAlone 29 = .ok (.istore_n 3, 1) := by decide +kernel
theorem dX3_heatAlone_30 : decode cX3_heatAlone 30 = .ok (.iconst 0, 1) := by decide +kernel
theorem dX3_heatAlone_31 : decode cX3_heatAlone 31 = .ok (.iload_n 2, 1) := by decide +kernel
theorem dX3_heatAlone_32 : decode cX3_heatAlone 32 = .ok (.iconst 4, 1) := by decide +kernel
theorem dX3_heatAlone_33 : decode cX3_heatAlone 33 = .ok (.iload_n 3, 1) := by decide +kernel
theorem dX3_heatAlone_34 : decode cX3_heatAlone 34 = .ok (.imul, 1) := by decide +kernel
theorem dX3_heatAlone_35 : decode cX3_heatAlone 35 = .ok (.isub, 1) := by decide +kernel
theorem dX3_heatAlone_36 : decode cX3_heatAlone 36 = .ok (.invokestatic 52, 3) := by decide +kernel
theorem dX3_heatAlone_39 : decode cX3_heatAlone 39 = .ok (.ireturn, 1) := by decide +kernel
theorem dX4_init_0 : decode cX4_init 0 = .ok (.aload_n 0, 1) := by decide +kernel
theorem dX4_init_1 : decode cX4_init 1 = .ok (.invokespecial 3, 3) := by decide +kernel
theorem dX4_init_4 : decode cX4_init 4 = .ok (.aload_n 0, 1) := by decide +kernel
theorem dX4_init_5 : decode cX4_init 5 = .ok (.bipush 7, 2) := by decide +kernel
theorem dX4_init_7 : decode cX4_init 7 = .ok (.newarray .int, 2) := by decide +kernel
theorem dX4_init_9 : decode cX4_init 9 = .ok (.putfield 9, 3) := by decide +kernel
theorem dX4_init_12 : decode cX4_init 12 = .ok (.aload_n 0, 1) := by decide +kernel
theorem dX4_init_13 : decode cX4_init 13 = .ok (.bipush 7, 2) := by decide +kernel
theorem dX4_init_15 : decode cX4_init 15 = .ok (.newarray .int, 2) := by decide +kernel
theorem dX4_init_17 : decode cX4_init 17 = .ok (.putfield 15, 3) := by decide +kernel
theorem dX4_init_20 : decode cX4_init 20 = .ok (.return_, 1) := by decide +kernel
theorem dX4_clear_0 : decode cX4_clear 0 = .ok (.aload_n 0, 1) := by decide +kernel
theorem dX4_clear_1 : decode cX4_clear 1 = .ok (.getfield 9, 3) := by decide +kernel
theorem dX4_clear_4 : decode cX4_clear 4 = .ok (.bipush (-2), 2) := by decide +kernel
theorem dX4_clear_6 : decode cX4_clear 6 = .ok (.invokestatic 18, 3) := by decide +kernel
theorem dX4_clear_9 : decode cX4_clear 9 = .ok (.aload_n 0, 1) := by decide +kernel
theorem dX4_clear_10 : decode cX4_clear 10 = .ok (.getfield 15, 3) := by decide +kernel
theorem dX4_clear_13 : decode cX4_clear 13 = .ok (.iconst 0, 1) := by decide +kernel
theorem dX4_clear_14 : decode cX4_clear 14 = .ok (.invokestatic 18, 3) := by decide +kernel
theorem dX4_clear_17 : decode cX4_clear 17 = .ok (.aload_n 0, 1) := by decide +kernel
theorem dX4_clear_18 : decode cX4_clear 18 = .ok (.iconst 0, 1) := by decide +kernel
theorem dX4_clear_19 : decode cX4_clear 19 = .ok (.putfield 24, 3) := by decide +kernel
theorem dX4_clear_22 : decode cX4_clear 22 = .ok (.aload_n 0, 1) := by decide +kernel
theorem dX4_clear_23 : decode cX4_clear 23 = .ok (.iconst 0, 1) := by decide +kernel
theorem dX4_clear_24 : decode cX4_clear 24 = .ok (.putfield 28, 3) := by decide +kernel
theorem dX4_clear_27 : decode cX4_clear 27 = .ok (.return_, 1) := by decide +kernel
theorem dX4_copyFrom_0 : decode cX4_copyFrom 0 = .ok (.aload_n 1, 1) := by decide +kernel
theorem dX4_copyFrom_1 : decode cX4_copyFrom 1 = .ok (.getfield 9, 3) := by decide +kernel
theorem dX4_copyFrom_4 : decode cX4_copyFrom 4 = .ok (.iconst 0, 1) := by decide +kernel
theorem dX4_copyFrom_5 : decode cX4_copyFrom 5 = .ok (.aload_n 0, 1) := by decide +kernel
theorem dX4_copyFrom_6 : decode cX4_copyFrom 6 = .ok (.getfield 9, 3) := by decide +kernel
theorem dX4_copyFrom_9 : decode cX4_copyFrom 9 = .ok (.iconst 0, 1) := by decide +kernel
theorem dX4_copyFrom_10 : decode cX4_copyFrom 10 = .ok (.bipush 7, 2) := by decide +kernel
theorem dX4_copyFrom_12 : decode cX4_copyFrom 12 = .ok (.invokestatic 31, 3) := by decide +kernel
theorem dX4_copyFrom_15 : decode cX4_copyFrom 15 = .ok (.aload_n 1, 1) := by decide +kernel
theorem dX4_copyFrom_16 : decode cX4_copyFrom 16 = .ok (.getfield 15, 3) := by decide +kernel
theorem dX4_copyFrom_19 : decode cX4_copyFrom 19 = .ok (.iconst 0, 1) := by decide +kernel
theorem dX4_copyFrom_20 : decode cX4_copyFrom 20 = .ok (.aload_n 0, 1) := by decide +kernel
theorem dX4_copyFrom_21 : decode cX4_copyFrom 21 = .ok (.getfield 15, 3) := by decide +kernel
theorem dX4_copyFrom_24 : decode cX4_copyFrom 24 = .ok (.iconst 0, 1) := by decide +kernel
theorem dX4_copyFrom_25 : decode cX4_copyFrom 25 = .ok (.bipush 7, 2) := by decide +kernel
theorem dX4_copyFrom_27 : decode cX4_copyFrom 27 = .ok (.invokestatic 31, 3) := by decide +kernel
theorem dX4_copyFrom_30 : decode cX4_copyFrom 30 = .ok (.aload_n 0, 1) := by decide +kernel
theorem dX4_copyFrom_31 : decode cX4_copyFrom 31 = .ok (.aload_n 1, 1) := by decide +kernel
theorem dX4_copyFrom_32 : decode cX4_copyFrom 32 = .ok (.getfield 24, 3) := by decide +kernel
theorem dX4_copyFrom_35 : decode cX4_copyFrom 35 = .ok (.putfield 24, 3) := by decide +kernel
theorem dX4_copyFrom_38 : decode cX4_copyFrom 38 = .ok (.aload_n 0, 1) := by decide +kernel
theorem dX4_copyFrom_39 : decode cX4_copyFrom 39 = .ok (.aload_n 1, 1) := by decide +kernel
theorem dX4_copyFrom_40 : decode cX4_copyFrom 40 = .ok (.getfield 28, 3) := by decide +kernel
theorem dX4_copyFrom_43 : decode cX4_copyFrom 43 = .ok (.putfield 28, 3) := by decide +kernel
theorem dX4_copyFrom_46 : decode cX4_copyFrom 46 = .ok (.return_, 1) := by decide +kernel
theorem dX4_writeTo_0 : decode cX4_writeTo 0 = .ok (.aload_n 1, 1) := by decide +kernel
theorem dX4_writeTo_1 : decode cX4_writeTo 1 = .ok (.arraylength, 1) := by decide +kernel
theorem dX4_writeTo_2 : decode cX4_writeTo 2 = .ok (.bipush 16, 2) := by decide +kernel
theorem dX4_writeTo_4 : decode cX4_writeTo 4 = .ok (.if_icmp .ge 4, 3) := by decide +kernel
theorem dX4_writeTo_7 : decode cX4_writeTo 7 = .ok (.return_, 1) := by decide +kernel
theorem dX4_writeTo_8 : decode cX4_writeTo 8 = .ok (.aload_n 0, 1) := by decide +kernel
theorem dX4_writeTo_9 : decode cX4_writeTo 9 = .ok (.getfield 9, 3) := by decide +kernel
theorem dX4_writeTo_12 : decode cX4_writeTo 12 = .ok (.iconst 0, 1) := by decide +kernel
theorem dX4_writeTo_13 : decode cX4_writeTo 13 = .ok (.aload_n 1, 1) := by decide +kernel
theorem dX4_writeTo_14 : decode cX4_writeTo 14 = .ok (.iconst 0, 1) := by decide +kernel
theorem dX4_writeTo_15 : decode cX4_writeTo 15 = .ok (.bipush 7, 2) := by decide +kernel
theorem dX4_writeTo_17 : decode cX4_writeTo 17 = .ok (.invokestatic 31, 3) := by decide +kernel
theorem dX4_writeTo_20 : decode cX4_writeTo 20 = .ok (.aload_n 0, 1) := by decide +kernel
theorem dX4_writeTo_21 : decode cX4_writeTo 21 = .ok (.getfield 15, 3) := by decide +kernel
theorem dX4_writeTo_24 : decode cX4_writeTo 24 = .ok (.iconst 0, 1) := by decide +kernel
theorem dX4_writeTo_25 : decode cX4_writeTo 25 = .ok (.aload_n 1, 1) := by decide +kernel
theorem dX4_writeTo_26 : decode cX4_writeTo 26 = .ok (.bipush 7, 2) := by decide +kernel
theorem dX4_writeTo_28 : decode cX4_writeTo 28 = .ok (.bipush 7, 2) := by decide +kernel
theorem dX4_writeTo_30 : decode cX4_writeTo 30 = .ok (.invokestatic 31, 3) := by decide +kernel
theorem dX4_writeTo_33 : decode cX4_writeTo 33 = .ok (.aload_n 1, 1) := by decide +kernel
theorem dX4_writeTo_34 : decode cX4_writeTo 34 = .ok (.bipush 14, 2) := by decide +kernel
theorem dX4_writeTo_36 : decode cX4_writeTo 36 = .ok (.aload_n 0, 1) := by decide +kernel
theorem dX4_writeTo_37 : decode cX4_writeTo 37 = .ok (.getfield 24, 3) := by decide +kernel
theorem dX4_writeTo_40 : decode cX4_writeTo 40 = .ok (.iastore, 1) := by decide +kernel
theorem dX4_writeTo_41 : decode cX4_writeTo 41 = .ok (.aload_n 1, 1) := by decide +kernel
theorem dX4_writeTo_42 : decode cX4_writeTo 42 = .ok (.bipush 15, 2) := by decide +kernel
theorem dX4_writeTo_44 : decode cX4_writeTo 44 = .ok (.aload_n 0, 1) := by decide +kernel
theorem dX4_writeTo_45 : decode cX4_writeTo 45 = .ok (.getfield 28, 3) := by decide +kernel
theorem dX4_writeTo_48 : decode cX4_writeTo 48 = .ok (.iastore, 1) := by decide +kernel
theorem dX4_writeTo_49 : decode cX4_writeTo 49 = .ok (.return_, 1) := by decide +kernel
theorem dX4_readFrom_0 : decode cX4_readFrom 0 = .ok (.aload_n 1, 1) := by decide +kernel
theorem dX4_readFrom_1 : decode cX4_readFrom 1 = .ok (.arraylength, 1) := by decide +kernel
theorem dX4_readFrom_2 : decode cX4_readFrom 2 = .ok (.bipush 16, 2) := by decide +kernel
theorem dX4_readFrom_4 : decode cX4_readFrom 4 = .ok (.if_icmp .ge 4, 3) := by decide +kernel
theorem dX4_readFrom_7 : decode cX4_readFrom 7 = .ok (.return_, 1) := by decide +kernel
theorem dX4_readFrom_8 : decode cX4_readFrom 8 = .ok (.aload_n 1, 1) := by decide +kernel
theorem dX4_readFrom_9 : decode cX4_readFrom 9 = .ok (.iconst 0, 1) := by decide +kernel
theorem dX4_readFrom_10 : decode cX4_readFrom 10 = .ok (.aload_n 0, 1) := by decide +kernel
theorem dX4_readFrom_11 : decode cX4_readFrom 11 = .ok (.getfield 9, 3) := by decide +kernel
theorem dX4_readFrom_14 : decode cX4_readFrom 14 = .ok (.iconst 0, 1) := by decide +kernel
theorem dX4_readFrom_15 : decode cX4_readFrom 15 = .ok (.bipush 7, 2) := by decide +kernel
theorem dX4_readFrom_17 : decode cX4_readFrom 17 = .ok (.invokestatic 31, 3) := by decide +kernel
theorem dX4_readFrom_20 : decode cX4_readFrom 20 = .ok (.aload_n 1, 1) := by decide +kernel
theorem dX4_readFrom_21 : decode cX4_readFrom 21 = .ok (.bipush 7, 2) := by decide +kernel
theorem dX4_readFrom_23 : decode cX4_readFrom 23 = .ok (.aload_n 0, 1) := by decide +kernel
theorem dX4_readFrom_24 : decode cX4_readFrom 24 = .ok (.getfield 15, 3) := by decide +kernel
theorem dX4_readFrom_27 : decode cX4_readFrom 27 = .ok (.iconst 0, 1) := by decide +kernel
theorem dX4_readFrom_28 : decode cX4_readFrom 28 = .ok (.bipush 7, 2) := by decide +kernel
theorem dX4_readFrom_30 : decode cX4_readFrom 30 = .ok (.invokestatic 31, 3) := by decide +kernel
theorem dX4_readFrom_33 : decode cX4_readFrom 33 = .ok (.aload_n 0, 1) := by decide +kernel
theorem dX4_readFrom_34 : decode cX4_readFrom 34 = .ok (.aload_n 1, 1) := by decide +kernel
theorem dX4_readFrom_35 : decode cX4_readFrom 35 = .ok (.bipush 14, 2) := by decide +kernel
theorem dX4_readFrom_37 : decode cX4_readFrom 37 = .ok (.iaload, 1) := by decide +kernel
theorem dX4_readFrom_38 : decode cX4_readFrom 38 = .ok (.putfield 24, 3) := by decide +kernel
theorem dX4_readFrom_41 : decode cX4_readFrom 41 = .ok (.aload_n 0, 1) := by decide +kernel
theorem dX4_readFrom_42 : decode cX4_readFrom 42 = .ok (.aload_n 1, 1) := by decide +kernel
theorem dX4_readFrom_43 : decode cX4_readFrom 43 = .ok (.bipush 15, 2) := by decide +kernel
theorem dX4_readFrom_45 : decode cX4_readFrom 45 = .ok (.iaload, 1) := by decide +kernel
theorem dX4_readFrom_46 : decode cX4_readFrom 46 = .ok (.putfield 28, 3) := by decide +kernel
theorem dX4_readFrom_49 : decode cX4_readFrom 49 = .ok (.return_, 1) := by decide +kernel
theorem dX4_sitters_0 : decode cX4_sitters 0 = .ok (.iconst 0, 1) := by decide +kernel
theorem dX4_sitters_1 : decode cX4_sitters 1 = .ok (.istore_n 2, 1) := by decide +kernel
theorem dX4_sitters_2 : decode cX4_sitters 2 = .ok (.iconst 0, 1) := by decide +kernel
theorem dX4_sitters_3 : decode cX4_sitters 3 = .ok (.istore_n 3, 1) := by decide +kernel
theorem dX4_sitters_4 : decode cX4_sitters 4 = .ok (.iload_n 3, 1) := by decide +kernel
theorem dX4_sitters_5 : decode cX4_sitters 5 = .ok (.bipush 7, 2) := by decide +kernel
theorem dX4_sitters_7 : decode cX4_sitters 7 = .ok (.if_icmp .ge 25, 3) := by decide +kernel
theorem dX4_sitters_10 : decode cX4_sitters 10 = .ok (.aload_n 0, 1) := by decide +kernel
theorem dX4_sitters_11 : decode cX4_sitters 11 = .ok (.getfield 9, 3) := by decide +kernel
theorem dX4_sitters_14 : decode cX4_sitters 14 = .ok (.iload_n 3, 1) := by decide +kernel
theorem dX4_sitters_15 : decode cX4_sitters 15 = .ok (.iaload, 1) := by decide +kernel
theorem dX4_sitters_16 : decode cX4_sitters 16 = .ok (.iload_n 1, 1) := by decide +kernel
theorem dX4_sitters_17 : decode cX4_sitters 17 = .ok (.if_icmp .ne 9, 3) := by decide +kernel
theorem dX4_sitters_20 : decode cX4_sitters 20 = .ok (.iload_n 2, 1) := by decide +kernel
theorem dX4_sitters_21 : decode cX4_sitters 21 = .ok (.iconst 1, 1) := by decide +kernel
theorem dX4_sitters_22 : decode cX4_sitters 22 = .ok (.iload_n 3, 1) := by decide +kernel
theorem dX4_sitters_23 : decode cX4_sitters 23 = .ok (.ishl, 1) := by decide +kernel
theorem dX4_sitters_24 : decode cX4_sitters 24 = .ok (.ior, 1) := by decide +kernel
theorem dX4_sitters_25 : decode cX4_sitters 25 = .ok (.istore_n 2, 1) := by decide +kernel
theorem dX4_sitters_26 : decode cX4_sitters 26 = .ok (.iinc 3 1, 3) := by decide +kernel
theorem dX4_sitters_29 : decode cX4_sitters 29 = .ok (.goto (-25), 3) := by decide +kernel
theorem dX4_sitters_32 : decode cX4_sitters 32 = .ok (.iload_n 2, 1) := by decide +kernel
theorem dX4_sitters_33 : decode cX4_sitters 33 = .ok (.ireturn, 1) := by decide +kernel
theorem dX5_init_0 : decode cX5_init 0 = .ok (.aload_n 0, 1) := by decide +kernel
theorem dX5_init_1 : decode cX5_init 1 = .ok (.invokespecial 3, 3) := by decide +kernel
theorem dX5_init_4 : decode cX5_init 4 = .ok (.aload_n 0, 1) := by decide +kernel
theorem dX5_init_5 : decode cX5_init 5 = .ok (.bipush 6, 2) := by decide +kernel
theorem dX5_init_7 : decode cX5_init 7 = .ok (.newarray .int, 2) := by decide +kernel
theorem dX5_init_9 : decode cX5_init 9 = .ok (.putfield 9, 3) := by decide +kernel
theorem dX5_init_12 : decode cX5_init 12 = .ok (.aload_n 0, 1) := by decide +kernel
theorem dX5_init_13 : decode cX5_init 13 = .ok (.bipush 6, 2) := by decide +kernel
theorem dX5_init_15 : decode cX5_init 15 = .ok (.newarray .int, 2) := by decide +kernel
theorem dX5_init_17 : decode cX5_init 17 = .ok (.putfield 15, 3) := by decide +kernel
theorem dX5_init_20 : decode cX5_init 20 = .ok (.aload_n 0, 1) := by decide +kernel
theorem dX5_init_21 : decode cX5_init 21 = .ok (.bipush 7, 2) := by decide +kernel
theorem dX5_init_23 : decode cX5_init 23 = .ok (.newarray .int, 2) := by decide +kernel
theorem dX5_init_25 : decode cX5_init 25 = .ok (.putfield 18, 3) := by decide +kernel
theorem dX5_init_28 : decode cX5_init 28 = .ok (.aload_n 0, 1) := by decide +kernel
theorem dX5_init_29 : decode cX5_init 29 = .ok (.bipush 7, 2) := by decide +kernel
theorem dX5_init_31 : decode cX5_init 31 = .ok (.newarray .int, 2) := by decide +kernel
theorem dX5_init_33 : decode cX5_init 33 = .ok (.putfield 21, 3) := by decide +kernel
theorem dX5_init_36 : decode cX5_init 36 = .ok (.return_, 1) := by decide +kernel
theorem dX5_begin_0 : decode cX5_begin 0 = .ok (.aload_n 0, 1) := by decide +kernel
theorem dX5_begin_1 : decode cX5_begin 1 = .ok (.aload_n 1, 1) := by decide +kernel
theorem dX5_begin_2 : decode cX5_begin 2 = .ok (.getfield 24, 3) := by decide +kernel
theorem dX5_begin_5 : decode cX5_begin 5 = .ok (.getfield 30, 3) := by decide +kernel
theorem dX5_begin_8 : decode cX5_begin 8 = .ok (.putfield 36, 3) := by decide +kernel
theorem dX5_begin_11 : decode cX5_begin 11 = .ok (.aload_n 0, 1) := by decide +kernel
theorem dX5_begin_12 : decode cX5_begin 12 = .ok (.aload_n 1, 1) := by decide +kernel
theorem dX5_begin_13 : decode cX5_begin 13 = .ok (.getfield 39, 3) := by decide +kernel
theorem dX5_begin_16 : decode cX5_begin 16 = .ok (.getfield 43, 3) := by decide +kernel
theorem dX5_begin_19 : decode cX5_begin 19 = .ok (.putfield 46, 3) := by decide +kernel
theorem dX5_begin_22 : decode cX5_begin 22 = .ok (.aload_n 1, 1) := by decide +kernel
theorem dX5_begin_23 : decode cX5_begin 23 = .ok (.getfield 39, 3) := by decide +kernel
theorem dX5_begin_26 : decode cX5_begin 26 = .ok (.getfield 49, 3) := by decide +kernel
theorem dX5_begin_29 : decode cX5_begin 29 = .ok (.iconst 0, 1) := by decide +kernel
theorem dX5_begin_30 : decode cX5_begin 30 = .ok (.aload_n 0, 1) := by decide +kernel
theorem dX5_begin_31 : decode cX5_begin 31 = .ok (.getfield 9, 3) := by decide +kernel
theorem dX5_begin_34 : decode cX5_begin 34 = .ok (.iconst 0, 1) := by decide +kernel
theorem dX5_begin_35 : decode cX5_begin 35 = .ok (.bipush 6, 2) := by decide +kernel
theorem dX5_begin_37 : decode cX5_begin 37 = .ok (.invokestatic 52, 3) := by decide +kernel
theorem dX5_begin_40 : decode cX5_begin 40 = .ok (.iconst 0, 1) := by decide +kernel
theorem dX5_begin_41 : decode cX5_begin 41 = .ok (.istore_n 2, 1) := by decide +kernel
theorem dX5_begin_42 : decode cX5_begin 42 = .ok (.iload_n 2, 1) := by decide +kernel
theorem dX5_begin_43 : decode cX5_begin 43 = .ok (.aload_n 0, 1) := by decide +kernel
theorem dX5_begin_44 : decode cX5_begin 44 = .ok (.getfield 36, 3) := by decide +kernel
theorem dX5_begin_47 : decode cX5_begin 47 = .ok (.if_icmp .ge 20, 3) := by decide +kernel
theorem dX5_begin_50 : decode cX5_begin 50 = .ok (.aload_n 0, 1) := by decide +kernel
theorem dX5_begin_51 : decode cX5_begin 51 = .ok (.getfield 18, 3) := by decide +kernel
theorem dX5_begin_54 : decode cX5_begin 54 = .ok (.iload_n 2, 1) := by decide +kernel
theorem dX5_begin_55 : decode cX5_begin 55 = .ok (.aload_n 1, 1) := by decide +kernel
theorem dX5_begin_56 : decode cX5_begin 56 = .ok (.iload_n 2, 1) := by decide +kernel
theorem dX5_begin_57 : decode cX5_begin 57 = .ok (.invokevirtual 58, 3) := by decide +kernel
theorem dX5_begin_60 : decode cX5_begin 60 = .ok (.iastore, 1) := by decide +kernel
theorem dX5_begin_61 : decode cX5_begin 61 = .ok (.iinc 2 1, 3) := by decide +kernel
theorem dX5_begin_64 : decode cX5_begin 64 = .ok (.goto (-22), 3) := by decide +kernel
theorem dX5_begin_67 : decode cX5_begin 67 = .ok (.return_, 1) := by decide +kernel
theorem dX5_most_0 : decode cX5_most 0 = .ok (.aload_n 0, 1) := by decide +kernel
theorem dX5_most_1 : decode cX5_most 1 = .ok (.getfield 21, 3) := by decide +kernel
theorem dX5_most_4 : decode cX5_most 4 = .ok (.bipush (-2), 2) := by decide +kernel
theorem dX5_most_6 : decode cX5_most 6 = .ok (.invokestatic 62, 3) := by decide +kernel
theorem dX5_most_9 : decode cX5_most 9 = .ok (.aload_n 0, 1) := by decide +kernel
theorem dX5_most_10 : decode cX5_most 10 = .ok (.getfield 15, 3) := by decide +kernel
theorem dX5_most_13 : decode cX5_most 13 = .ok (.iconst 0, 1) := by decide +kernel
theorem dX5_most_14 : decode cX5_most 14 = .ok (.invokestatic 62, 3) := by decide +kernel
theorem dX5_most_17 : decode cX5_most 17 = .ok (.iconst 0, 1) := by decide +kernel
theorem dX5_most_18 : decode cX5_most 18 = .ok (.istore_n 2, 1) := by decide +kernel
theorem dX5_most_19 : decode cX5_most 19 = .ok (.iconst 0, 1) := by decide +kernel
theorem dX5_most_20 : decode cX5_most 20 = .ok (.istore_n 3, 1) := by decide +kernel
theorem dX5_most_21 : decode cX5_most 21 = .ok (.iload_n 3, 1) := by decide +kernel
theorem dX5_most_22 : decode cX5_most 22 = .ok (.aload_n 0, 1) := by decide +kernel
theorem dX5_most_23 : decode cX5_most 23 = .ok (.getfield 36, 3) := by decide +kernel
theorem dX5_most_26 : decode cX5_most 26 = .ok (.if_icmp .ge 35, 3) := by decide +kernel
theorem dX5_most_29 : decode cX5_most 29 = .ok (.aload_n 0, 1) := by decide +kernel
theorem dX5_most_30 : decode cX5_most 30 = .ok (.iconst 0, 1) := by decide +kernel
theorem dX5_most_31 : decode cX5_most 31 = .ok (.putfield 68, 3) := by decide +kernel
theorem dX5_most_34 : decode cX5_most 34 = .ok (.iload_n 1, 1) := by decide +kernel
theorem dX5_most_35 : decode cX5_most 35 = .ok (.iload_n 3, 1) := by decide +kernel
theorem dX5_most_36 : decode cX5_most 36 = .ok (.ishr, 1) := by decide +kernel
theorem dX5_most_37 : decode cX5_most 37 = .ok (.iconst 1, 1) := by decide +kernel
theorem dX5_most_38 : decode cX5_most 38 = .ok (.iand, 1) := by decide +kernel
theorem dX5_most_39 : decode cX5_most 39 = .ok (.iconst 1, 1) := by decide +kernel
theorem dX5_most_40 : decode cX5_most 40 = .ok (.if_icmp .ne 15, 3) := by decide +kernel
theorem dX5_most_43 : decode cX5_most 43 = .ok (.aload_n 0, 1) := by decide +kernel
theorem dX5_most_44 : decode cX5_most 44 = .ok (.iload_n 3, 1) := by decide +kernel
theorem dX5_most_45 : decode cX5_most 45 = .ok (.iconst 0, 1) := by decide +kernel
theorem dX5_most_46 : decode cX5_most 46 = .ok (.invokevirtual 71, 3) := by decide +kernel
theorem dX5_most_49 : decode cX5_most 49 = .ok (.ifCond .eq 6, 3) := by decide +kernel
theorem dX5_most_52 : decode cX5_most 52 = .ok (.iinc 2 1, 3) := by decide +kernel
theorem dX5_most_55 : decode cX5_most 55 = .ok (.iinc 3 1, 3) := by decide +kernel
theorem dX5_most_58 : decode cX5_most 58 = .ok (.goto (-37), 3) := by decide +kernel
theorem dX5_most_61 : decode cX5_most 61 = .ok (.iload_n 2, 1) := by decide +kernel
theorem dX5_most_62 : decode cX5_most 62 = .ok (.ireturn, 1) := by decide +kernel
theorem dX5_findsSeat_0 : decode cX5_findsSeat 0 = .ok (.iload_n 2, 1) := by decide +kernel
theorem dX5_findsSeat_1 : decode cX5_findsSeat 1 = .ok (.bipush 6, 2) := by decide +kernel
theorem dX5_findsSeat_3 : decode cX5_findsSeat 3 = .ok (.if_icmp .le 5, 3) := by decide +kernel
theorem dX5_findsSeat_6 : decode cX5_findsSeat 6 = .ok (.iconst 0, 1) := by decide +kernel
theorem dX5_findsSeat_7 : decode cX5_findsSeat 7 = .ok (.ireturn, 1) := by decide +kernel
theorem dX5_findsSeat_8 : decode cX5_findsSeat 8 = .ok (.iconst 0, 1) := by decide +kernel
theorem dX5_findsSeat_9 : decode cX5_findsSeat 9 = .ok (.istore_n 3, 1) := by decide +kernel
theorem dX5_findsSeat_10 : decode cX5_findsSeat 10 = .ok (.iload_n 3, 1) := by decide +kernel
theorem dX5_findsSeat_11 : decode cX5_findsSeat 11 = .ok (.aload_n 0, 1) := by decide +kernel
theorem dX5_findsSeat_12 : decode cX5_findsSeat 12 = .ok (.getfield 46, 3) := by decide +kernel
theorem dX5_findsSeat_15 : decode cX5_findsSeat 15 = .ok (.if_icmp .ge 84, 3) := by decide +kernel
theorem dX5_findsSeat_18 : decode cX5_findsSeat 18 = .ok (.aload_n 0, 1) := by decide +kernel
theorem dX5_findsSeat_19 : decode cX5_findsSeat 19 = .ok (.getfield 18, 3) := by decide +kernel
theorem dX5_findsSeat_22 : decode cX5_findsSeat 22 = .ok (.iload_n 1, 1) := by decide +kernel
theorem dX5_findsSeat_23 : decode cX5_findsSeat 23 = .ok (.iaload, 1) := by decide +kernel
theorem dX5_findsSeat_24 : decode cX5_findsSeat 24 = .ok (.aload_n 0, 1) := by decide +kernel
theorem dX5_findsSeat_25 : decode cX5_findsSeat 25 = .ok (.getfield 68, 3) := by decide +kernel
theorem dX5_findsSeat_28 : decode cX5_findsSeat 28 = .ok (.iconst (-1), 1) := by decide +kernel
theorem dX5_findsSeat_29 : decode cX5_findsSeat 29 = .ok (.ixor, 1) := by decide +kernel
theorem dX5_findsSeat_30 : decode cX5_findsSeat 30 = .ok (.iand, 1) := by decide +kernel
theorem dX5_findsSeat_31 : decode cX5_findsSeat 31 = .ok (.iconst 1, 1) := by decide +kernel
theorem dX5_findsSeat_32 : decode cX5_findsSeat 32 = .ok (.iload_n 3, 1) := by decide +kernel
theorem dX5_findsSeat_33 : decode cX5_findsSeat 33 = .ok (.ishl, 1) := by decide +kernel
theorem dX5_findsSeat_34 : decode cX5_findsSeat 34 = .ok (.iand, 1) := by decide +kernel
theorem dX5_findsSeat_35 : decode cX5_findsSeat 35 = .ok (.ifCond .eq 58, 3) := by decide +kernel
theorem dX5_findsSeat_38 : decode cX5_findsSeat 38 = .ok (.aload_n 0, 1) := by decide +kernel
theorem dX5_findsSeat_39 : decode cX5_findsSeat 39 = .ok (.dup, 1) := by decide +kernel
theorem dX5_findsSeat_40 : decode cX5_findsSeat 40 = .ok (.getfield 68, 3) := by decide +kernel
theorem dX5_findsSeat_43 : decode cX5_findsSeat 43 = .ok (.iconst 1, 1) := by decide +kernel
theorem dX5_findsSeat_44 : decode cX5_findsSeat 44 = .ok (.iload_n 3, 1) := by decide +kernel
theorem dX5_findsSeat_45 : decode cX5_findsSeat 45 = .ok (.ishl, 1) := by decide +kernel
theorem dX5_findsSeat_46 : decode cX5_findsSeat 46 = .ok (.ior, 1) := by decide +kernel
theorem dX5_findsSeat_47 : decode cX5_findsSeat 47 = .ok (.putfield 68, 3) := by decide +kernel
theorem dX5_findsSeat_50 : decode cX5_findsSeat 50 = .ok (.aload_n 0, 1) := by decide +kernel
theorem dX5_findsSeat_51 : decode cX5_findsSeat 51 = .ok (.getfield 15, 3) := by decide +kernel
theorem dX5_findsSeat_54 : decode cX5_findsSeat 54 = .ok (.iload_n 3, 1) := by decide +kernel
theorem dX5_findsSeat_55 : decode cX5_findsSeat 55 = .ok (.iaload, 1) := by decide +kernel
theorem dX5_findsSeat_56 : decode cX5_findsSeat 56 = .ok (.aload_n 0, 1) := by decide +kernel
theorem dX5_findsSeat_57 : decode cX5_findsSeat 57 = .ok (.getfield 9, 3) := by decide +kernel
theorem dX5_findsSeat_60 : decode cX5_findsSeat 60 = .ok (.iload_n 3, 1) := by decide +kernel
theorem dX5_findsSeat_61 : decode cX5_findsSeat 61 = .ok (.iaload, 1) := by decide +kernel
theorem dX5_findsSeat_62 : decode cX5_findsSeat 62 = .ok (.if_icmp .lt 12, 3) := by decide +kernel
theorem dX5_findsSeat_65 : decode cX5_findsSeat 65 = .ok (.aload_n 0, 1) := by decide +kernel
theorem dX5_findsSeat_66 : decode cX5_findsSeat 66 = .ok (.iload_n 3, 1) := by decide +kernel
theorem dX5_findsSeat_67 : decode cX5_findsSeat 67 = .ok (.iload_n 2, 1) := by decide +kernel
theorem dX5_findsSeat_68 : decode cX5_findsSeat 68 = .ok (.invokevirtual 75, 3) := by decide +kernel
theorem dX5_findsSeat_71 : decode cX5_findsSeat 71 = .ok (.ifCond .eq 22, 3) := by decide +kernel
theorem dX5_findsSeat_74 : decode cX5_findsSeat 74 = .ok (.aload_n 0, 1) := by decide +kernel
theorem dX5_findsSeat_75 : decode cX5_findsSeat 75 = .ok (.getfield 21, 3) := by decide +kernel
theorem dX5_findsSeat_78 : decode cX5_findsSeat 78 = .ok (.iload_n 1, 1) := by decide +kernel
theorem dX5_findsSeat_79 : decode cX5_findsSeat 79 = .ok (.iload_n 3, 1) := by decide +kernel
theorem dX5_findsSeat_80 : decode cX5_findsSeat 80 = .ok (.iastore, 1) := by decide +kernel
theorem dX5_findsSeat_81 : decode cX5_findsSeat 81 = .ok (.aload_n 0, 1) := by decide +kernel
theorem dX5_findsSeat_82 : decode cX5_findsSeat 82 = .ok (.getfield 15, 3) := by decide +kernel
theorem dX5_findsSeat_85 : decode cX5_findsSeat 85 = .ok (.iload_n 3, 1) := by decide +kernel
theorem dX5_findsSeat_86 : decode cX5_findsSeat 86 = .ok (.dup2, 1) := by decide +kernel
theorem dX5_findsSeat_87 : decode cX5_findsSeat 87 = .ok (.iaload, 1) := by decide +kernel
theorem dX5_findsSeat_88 : decode cX5_findsSeat 88 = .ok (.iconst 1, 1) := by decide +kernel
theorem dX5_findsSeat_89 : decode cX5_findsSeat 89 = .ok (.iadd, 1) := by decide +kernel
theorem dX5_findsSeat_90 : decode cX5_findsSeat 90 = .ok (.iastore, 1) := by decide +kernel
theorem dX5_findsSeat_91 : decode cX5_findsSeat 91 = .ok (.iconst 1, 1) := by decide +kernel
theorem dX5_findsSeat_92 : decode cX5_findsSeat 92 = .ok (.ireturn, 1) := by decide +kernel
theorem dX5_findsSeat_93 : decode cX5_findsSeat 93 = .ok (.iinc 3 1, 3) := by decide +kernel
theorem dX5_findsSeat_96 : decode cX5_findsSeat 96 = .ok (.goto (-86), 3) := by decide +kernel
theorem dX5_findsSeat_99 : decode cX5_findsSeat 99 = .ok (.iconst 0, 1) := by decide +kernel
theorem dX5_findsSeat_100 : decode cX5_findsSeat 100 = .ok (.ireturn, 1) := by decide +kernel
theorem dX5_oneMovesOn_0 : decode cX5_oneMovesOn 0 = .ok (.iconst 0, 1) := by decide +kernel
theorem dX5_oneMovesOn_1 : decode cX5_oneMovesOn 1 = .ok (.istore_n 3, 1) := by decide +kernel
theorem dX5_oneMovesOn_2 : decode cX5_oneMovesOn 2 = .ok (.iload_n 3, 1) := by decide +kernel
theorem dX5_oneMovesOn_3 : decode cX5_oneMovesOn 3 = .ok (.aload_n 0, 1) := by decide +kernel
theorem dX5_oneMovesOn_4 : decode cX5_oneMovesOn 4 = .ok (.getfield 36, 3) := by decide +kernel
theorem dX5_oneMovesOn_7 : decode cX5_oneMovesOn 7 = .ok (.if_icmp .ge 42, 3) := by decide +kernel
theorem dX5_oneMovesOn_10 : decode cX5_oneMovesOn 10 = .ok (.aload_n 0, 1) := by decide +kernel
theorem dX5_oneMovesOn_11 : decode cX5_oneMovesOn 11 = .ok (.getfield 21, 3) := by decide +kernel
theorem dX5_oneMovesOn_14 : decode cX5_oneMovesOn 14 = .ok (.iload_n 3, 1) := by decide +kernel
theorem dX5_oneMovesOn_15 : decode cX5_oneMovesOn 15 = .ok (.iaload, 1) := by decide +kernel
theorem dX5_oneMovesOn_16 : decode cX5_oneMovesOn 16 = .ok (.iload_n 1, 1) := by decide +kernel
theorem dX5_oneMovesOn_17 : decode cX5_oneMovesOn 17 = .ok (.if_icmp .ne 26, 3) := by decide +kernel
theorem dX5_oneMovesOn_20 : decode cX5_oneMovesOn 20 = .ok (.aload_n 0, 1) := by decide +kernel
theorem dX5_oneMovesOn_21 : decode cX5_oneMovesOn 21 = .ok (.iload_n 3, 1) := by decide +kernel
theorem dX5_oneMovesOn_22 : decode cX5_oneMovesOn 22 = .ok (.iload_n 2, 1) := by decide +kernel
theorem dX5_oneMovesOn_23 : decode cX5_oneMovesOn 23 = .ok (.iconst 1, 1) := by decide +kernel
theorem dX5_oneMovesOn_24 : decode cX5_oneMovesOn 24 = .ok (.iadd, 1) := by decide +kernel
theorem dX5_oneMovesOn_25 : decode cX5_oneMovesOn 25 = .ok (.invokevirtual 71, 3) := by decide +kernel
theorem dX5_oneMovesOn_28 : decode cX5_oneMovesOn 28 = .ok (.ifCond .eq 15, 3) := by decide +kernel
theorem dX5_oneMovesOn_31 : decode cX5_oneMovesOn 31 = .ok (.aload_n 0, 1) := by decide +kernel
theorem dX5_oneMovesOn_32 : decode cX5_oneMovesOn 32 = .ok (.getfield 15, 3) := by decide +kernel
theorem dX5_oneMovesOn_35 : decode cX5_oneMovesOn 35 = .ok (.iload_n 1, 1) := by decide +kernel
theorem dX5_oneMovesOn_36 : decode cX5_oneMovesOn 36 = .ok (.dup2, 1) := by decide +kernel
theorem dX5_oneMovesOn_37 : decode cX5_oneMovesOn 37 = .ok (.iaload, 1) := by decide +kernel
theorem dX5_oneMovesOn_38 : decode cX5_oneMovesOn 38 = .ok (.iconst 1, 1) := by decide +kernel
theorem dX5_oneMovesOn_39 : decode cX5_oneMovesOn 39 = .ok (.isub, 1) := by decide +kernel
theorem dX5_oneMovesOn_40 : decode cX5_oneMovesOn 40 = .ok (.iastore, 1) := by decide +kernel
theorem dX5_oneMovesOn_41 : decode cX5_oneMovesOn 41 = .ok (.iconst 1, 1) := by decide +kernel
theorem dX5_oneMovesOn_42 : decode cX5_oneMovesOn 42 = .ok (.ireturn, 1) := by decide +kernel
theorem dX5_oneMovesOn_43 : decode cX5_oneMovesOn 43 = .ok (.iinc 3 1, 3) := by decide +kernel
theorem dX5_oneMovesOn_46 : decode cX5_oneMovesOn 46 = .ok (.goto (-44), 3) := by decide +kernel
theorem dX5_oneMovesOn_49 : decode cX5_oneMovesOn 49 = .ok (.iconst 0, 1) := by decide +kernel
theorem dX5_oneMovesOn_50 : decode cX5_oneMovesOn 50 = .ok (.ireturn, 1) := by decide +kernel
theorem dX5_firstRowAt_0 : decode cX5_firstRowAt 0 = .ok (.aload_n 0, 1) := by decide +kernel
theorem dX5_firstRowAt_1 : decode cX5_firstRowAt 1 = .ok (.aload_n 1, 1) := by decide +kernel
theorem dX5_firstRowAt_2 : decode cX5_firstRowAt 2 = .ok (.invokevirtual 78, 3) := by decide +kernel
theorem dX5_firstRowAt_5 : decode cX5_firstRowAt 5 = .ok (.aload_n 1, 1) := by decide +kernel
theorem dX5_firstRowAt_6 : decode cX5_firstRowAt 6 = .ok (.getfield 24, 3) := by decide +kernel
theorem dX5_firstRowAt_9 : decode cX5_firstRowAt 9 = .ok (.invokevirtual 82, 3) := by decide +kernel
theorem dX5_firstRowAt_12 : decode cX5_firstRowAt 12 = .ok (.istore_n 3, 1) := by decide +kernel
theorem dX5_firstRowAt_13 : decode cX5_firstRowAt 13 = .ok (.aload_n 0, 1) := by decide +kernel
theorem dX5_firstRowAt_14 : decode cX5_firstRowAt 14 = .ok (.iload_n 3, 1) := by decide +kernel
theorem dX5_firstRowAt_15 : decode cX5_firstRowAt 15 = .ok (.invokevirtual 86, 3) := by decide +kernel
theorem dX5_firstRowAt_18 : decode cX5_firstRowAt 18 = .ok (.istore 4, 2) := by decide +kernel
theorem dX5_firstRowAt_20 : decode cX5_firstRowAt 20 = .ok (.bipush (-2), 2) := by decide +kernel
theorem dX5_firstRowAt_22 : decode cX5_firstRowAt 22 = .ok (.istore 5, 2) := by decide +kernel
theorem dX5_firstRowAt_24 : decode cX5_firstRowAt 24 = .ok (.iconst 0, 1) := by decide +kernel
theorem dX5_firstRowAt_25 : decode cX5_firstRowAt 25 = .ok (.istore 6, 2) := by decide +kernel
theorem dX5_firstRowAt_27 : decode cX5_firstRowAt 27 = .ok (.iload 6, 2) := by decide +kernel
theorem dX5_firstRowAt_29 : decode cX5_firstRowAt 29 = .ok (.iload_n 2, 1) := by decide +kernel
theorem dX5_firstRowAt_30 : decode cX5_firstRowAt 30 = .ok (.if_icmp .gt 48, 3) := by decide +kernel
theorem dX5_firstRowAt_33 : decode cX5_firstRowAt 33 = .ok (.iload 6, 2) := by decide +kernel
theorem dX5_firstRowAt_35 : decode cX5_firstRowAt 35 = .ok (.aload_n 0, 1) := by decide +kernel
theorem dX5_firstRowAt_36 : decode cX5_firstRowAt 36 = .ok (.getfield 36, 3) := by decide +kernel
theorem dX5_firstRowAt_39 : decode cX5_firstRowAt 39 = .ok (.if_icmp .ge 39, 3) := by decide +kernel
theorem dX5_firstRowAt_42 : decode cX5_firstRowAt 42 = .ok (.iload_n 3, 1) := by decide +kernel
theorem dX5_firstRowAt_43 : decode cX5_firstRowAt 43 = .ok (.iconst 1, 1) := by decide +kernel
theorem dX5_firstRowAt_44 : decode cX5_firstRowAt 44 = .ok (.iload 6, 2) := by decide +kernel
theorem dX5_firstRowAt_46 : decode cX5_firstRowAt 46 = .ok (.ishl, 1) := by decide +kernel
theorem dX5_firstRowAt_47 : decode cX5_firstRowAt 47 = .ok (.iconst (-1), 1) := by decide +kernel
theorem dX5_firstRowAt_48 : decode cX5_firstRowAt 48 = .ok (.ixor, 1) := by decide +kernel
theorem dX5_firstRowAt_49 : decode cX5_firstRowAt 49 = .ok (.iand, 1) := by decide +kernel
theorem dX5_firstRowAt_50 : decode cX5_firstRowAt 50 = .ok (.istore_n 3, 1) := by decide +kernel
theorem dX5_firstRowAt_51 : decode cX5_firstRowAt 51 = .ok (.aload_n 0, 1) := by decide +kernel
theorem dX5_firstRowAt_52 : decode cX5_firstRowAt 52 = .ok (.iload 6, 2) := by decide +kernel
theorem dX5_firstRowAt_54 : decode cX5_firstRowAt 54 = .ok (.iload_n 3, 1) := by decide +kernel
theorem dX5_firstRowAt_55 : decode cX5_firstRowAt 55 = .ok (.iload 4, 2) := by decide +kernel
theorem dX5_firstRowAt_57 : decode cX5_firstRowAt 57 = .ok (.invokevirtual 89, 3) := by decide +kernel
theorem dX5_firstRowAt_60 : decode cX5_firstRowAt 60 = .ok (.istore 5, 2) := by decide +kernel
theorem dX5_firstRowAt_62 : decode cX5_firstRowAt 62 = .ok (.iload 5, 2) := by decide +kernel
theorem dX5_firstRowAt_64 : decode cX5_firstRowAt 64 = .ok (.bipush (-2), 2) := by decide +kernel
theorem dX5_firstRowAt_66 : decode cX5_firstRowAt 66 = .ok (.if_icmp .eq 6, 3) := by decide +kernel
theorem dX5_firstRowAt_69 : decode cX5_firstRowAt 69 = .ok (.iinc 4 (-1), 3) := by decide +kernel
theorem dX5_firstRowAt_72 : decode cX5_firstRowAt 72 = .ok (.iinc 6 1, 3) := by decide +kernel
theorem dX5_firstRowAt_75 : decode cX5_firstRowAt 75 = .ok (.goto (-48), 3) := by decide +kernel
theorem dX5_firstRowAt_78 : decode cX5_firstRowAt 78 = .ok (.iload 5, 2) := by decide +kernel
theorem dX5_firstRowAt_80 : decode cX5_firstRowAt 80 = .ok (.ireturn, 1) := by decide +kernel
theorem dX5_takeFirst_0 : decode cX5_takeFirst 0 = .ok (.iconst 0, 1) := by decide +kernel
theorem dX5_takeFirst_1 : decode cX5_takeFirst 1 = .ok (.istore 4, 2) := by decide +kernel
theorem dX5_takeFirst_3 : decode cX5_takeFirst 3 = .ok (.iload 4, 2) := by decide +kernel
theorem dX5_takeFirst_5 : decode cX5_takeFirst 5 = .ok (.aload_n 0, 1) := by decide +kernel
theorem dX5_takeFirst_6 : decode cX5_takeFirst 6 = .ok (.getfield 46, 3) := by decide +kernel
theorem dX5_takeFirst_9 : decode cX5_takeFirst 9 = .ok (.if_icmp .ge 70, 3) := by decide +kernel
theorem dX5_takeFirst_12 : decode cX5_takeFirst 12 = .ok (.aload_n 0, 1) := by decide +kernel
theorem dX5_takeFirst_13 : decode cX5_takeFirst 13 = .ok (.getfield 9, 3) := by decide +kernel
theorem dX5_takeFirst_16 : decode cX5_takeFirst 16 = .ok (.iload 4, 2) := by decide +kernel
theorem dX5_takeFirst_18 : decode cX5_takeFirst 18 = .ok (.iaload, 1) := by decide +kernel
theorem dX5_takeFirst_19 : decode cX5_takeFirst 19 = .ok (.ifCond .le 54, 3) := by decide +kernel
theorem dX5_takeFirst_22 : decode cX5_takeFirst 22 = .ok (.aload_n 0, 1) := by decide +kernel
theorem dX5_takeFirst_23 : decode cX5_takeFirst 23 = .ok (.getfield 18, 3) := by decide +kernel
theorem dX5_takeFirst_26 : decode cX5_takeFirst 26 = .ok (.iload_n 1, 1) := by decide +kernel
theorem dX5_takeFirst_27 : decode cX5_takeFirst 27 = .ok (.iaload, 1) := by decide +kernel
theorem dX5_takeFirst_28 : decode cX5_takeFirst 28 = .ok (.iload 4, 2) := by decide +kernel
theorem dX5_takeFirst_30 : decode cX5_takeFirst 30 = .ok (.ishr, 1) := by decide +kernel
theorem dX5_takeFirst_31 : decode cX5_takeFirst 31 = .ok (.iconst 1, 1) := by decide +kernel
theorem dX5_takeFirst_32 : decode cX5_takeFirst 32 = .ok (.iand, 1) := by decide +kernel
theorem dX5_takeFirst_33 : decode cX5_takeFirst 33 = .ok (.iconst 1, 1) := by decide +kernel
theorem dX5_takeFirst_34 : decode cX5_takeFirst 34 = .ok (.if_icmp .ne 39, 3) := by decide +kernel
theorem dX5_takeFirst_37 : decode cX5_takeFirst 37 = .ok (.aload_n 0, 1) := by decide +kernel
theorem dX5_takeFirst_38 : decode cX5_takeFirst 38 = .ok (.getfield 9, 3) := by decide +kernel
theorem dX5_takeFirst_41 : decode cX5_takeFirst 41 = .ok (.iload 4, 2) := by decide +kernel
theorem dX5_takeFirst_43 : decode cX5_takeFirst 43 = .ok (.dup2, 1) := by decide +kernel
theorem dX5_takeFirst_44 : decode cX5_takeFirst 44 = .ok (.iaload, 1) := by decide +kernel
theorem dX5_takeFirst_45 : decode cX5_takeFirst 45 = .ok (.iconst 1, 1) := by decide +kernel
theorem dX5_takeFirst_46 : decode cX5_takeFirst 46 = .ok (.isub, 1) := by decide +kernel
theorem dX5_takeFirst_47 : decode cX5_takeFirst 47 = .ok (.iastore, 1) := by decide +kernel
theorem dX5_takeFirst_48 : decode cX5_takeFirst 48 = .ok (.aload_n 0, 1) := by decide +kernel
theorem dX5_takeFirst_49 : decode cX5_takeFirst 49 = .ok (.iload_n 2, 1) := by decide +kernel
theorem dX5_takeFirst_50 : decode cX5_takeFirst 50 = .ok (.invokevirtual 86, 3) := by decide +kernel
theorem dX5_takeFirst_53 : decode cX5_takeFirst 53 = .ok (.iload_n 3, 1) := by decide +kernel
theorem dX5_takeFirst_54 : decode cX5_takeFirst 54 = .ok (.iconst 1, 1) := by decide +kernel
theorem dX5_takeFirst_55 : decode cX5_takeFirst 55 = .ok (.isub, 1) := by decide +kernel
theorem dX5_takeFirst_56 : decode cX5_takeFirst 56 = .ok (.if_icmp .ne 6, 3) := by decide +kernel
theorem dX5_takeFirst_59 : decode cX5_takeFirst 59 = .ok (.iload 4, 2) := by decide +kernel
theorem dX5_takeFirst_61 : decode cX5_takeFirst 61 = .ok (.ireturn, 1) := by decide +kernel
theorem dX5_takeFirst_62 : decode cX5_takeFirst 62 = .ok (.aload_n 0, 1) := by decide +kernel
theorem dX5_takeFirst_63 : decode cX5_takeFirst 63 = .ok (.getfield 9, 3) := by decide +kernel
theorem dX5_takeFirst_66 : decode cX5_takeFirst 66 = .ok (.iload 4, 2) := by decide +kernel
theorem dX5_takeFirst_68 : decode cX5_takeFirst 68 = .ok (.dup2, 1) := by decide +kernel
theorem dX5_takeFirst_69 : decode cX5_takeFirst 69 = .ok (.iaload, 1) := by decide +kernel
theorem dX5_takeFirst_70 : decode cX5_takeFirst 70 = .ok (.iconst 1, 1) := by decide +kernel
theorem dX5_takeFirst_71 : decode cX5_takeFirst 71 = .ok (.iadd, 1) := by decide +kernel
theorem dX5_takeFirst_72 : decode cX5_takeFirst 72 = .ok (.iastore, 1) := by decide +kernel
theorem dX5_takeFirst_73 : decode cX5_takeFirst 73 = .ok (.iinc 4 1, 3) := by decide +kernel
theorem dX5_takeFirst_76 : decode cX5_takeFirst 76 = .ok (.goto (-73), 3) := by decide +kernel
theorem dX5_takeFirst_79 : decode cX5_takeFirst 79 = .ok (.bipush (-2), 2) := by decide +kernel
theorem dX5_takeFirst_81 : decode cX5_takeFirst 81 = .ok (.ireturn, 1) := by decide +kernel
theorem dX5_leastRent_0 : decode cX5_leastRent 0 = .ok (.aload_n 0, 1) := by decide +kernel
theorem dX5_leastRent_1 : decode cX5_leastRent 1 = .ok (.aload_n 1, 1) := by decide +kernel
theorem dX5_leastRent_2 : decode cX5_leastRent 2 = .ok (.invokevirtual 78, 3) := by decide +kernel
theorem dX5_leastRent_5 : decode cX5_leastRent 5 = .ok (.aload_n 0, 1) := by decide +kernel
theorem dX5_leastRent_6 : decode cX5_leastRent 6 = .ok (.getfield 9, 3) := by decide +kernel
theorem dX5_leastRent_9 : decode cX5_leastRent 9 = .ok (.iconst 0, 1) := by decide +kernel
theorem dX5_leastRent_10 : decode cX5_leastRent 10 = .ok (.invokestatic 62, 3) := by decide +kernel
theorem dX5_leastRent_13 : decode cX5_leastRent 13 = .ok (.iconst 0, 1) := by decide +kernel
theorem dX5_leastRent_14 : decode cX5_leastRent 14 = .ok (.istore_n 2, 1) := by decide +kernel
theorem dX5_leastRent_15 : decode cX5_leastRent 15 = .ok (.iconst 0, 1) := by decide +kernel
theorem dX5_leastRent_16 : decode cX5_leastRent 16 = .ok (.istore_n 3, 1) := by decide +kernel
theorem dX5_leastRent_17 : decode cX5_leastRent 17 = .ok (.iconst 0, 1) := by decide +kernel
theorem dX5_leastRent_18 : decode cX5_leastRent 18 = .ok (.istore 4, 2) := by decide +kernel
theorem dX5_leastRent_20 : decode cX5_leastRent 20 = .ok (.iload 4, 2) := by decide +kernel
theorem dX5_leastRent_22 : decode cX5_leastRent 22 = .ok (.bipush 30, 2) := by decide +kernel
theorem dX5_leastRent_24 : decode cX5_leastRent 24 = .ok (.if_icmp .gt 48, 3) := by decide +kernel
theorem dX5_leastRent_27 : decode cX5_leastRent 27 = .ok (.aload_n 0, 1) := by decide +kernel
theorem dX5_leastRent_28 : decode cX5_leastRent 28 = .ok (.aload_n 1, 1) := by decide +kernel
theorem dX5_leastRent_29 : decode cX5_leastRent 29 = .ok (.getfield 39, 3) := by decide +kernel
theorem dX5_leastRent_32 : decode cX5_leastRent 32 = .ok (.iload 4, 2) := by decide +kernel
theorem dX5_leastRent_34 : decode cX5_leastRent 34 = .ok (.invokevirtual 93, 3) := by decide +kernel
theorem dX5_leastRent_37 : decode cX5_leastRent 37 = .ok (.ifCond .eq 29, 3) := by decide +kernel
theorem dX5_leastRent_40 : decode cX5_leastRent 40 = .ok (.aload_n 0, 1) := by decide +kernel
theorem dX5_leastRent_41 : decode cX5_leastRent 41 = .ok (.aload_n 1, 1) := by decide +kernel
theorem dX5_leastRent_42 : decode cX5_leastRent 42 = .ok (.getfield 24, 3) := by decide +kernel
theorem dX5_leastRent_45 : decode cX5_leastRent 45 = .ok (.invokevirtual 82, 3) := by decide +kernel
theorem dX5_leastRent_48 : decode cX5_leastRent 48 = .ok (.invokevirtual 86, 3) := by decide +kernel
theorem dX5_leastRent_51 : decode cX5_leastRent 51 = .ok (.istore 5, 2) := by decide +kernel
theorem dX5_leastRent_53 : decode cX5_leastRent 53 = .ok (.iload_n 2, 1) := by decide +kernel
theorem dX5_leastRent_54 : decode cX5_leastRent 54 = .ok (.iload 4, 2) := by decide +kernel
theorem dX5_leastRent_56 : decode cX5_leastRent 56 = .ok (.iload 5, 2) := by decide +kernel
theorem dX5_leastRent_58 : decode cX5_leastRent 58 = .ok (.iload_n 3, 1) := by decide +kernel
theorem dX5_leastRent_59 : decode cX5_leastRent 59 = .ok (.isub, 1) := by decide +kernel
theorem dX5_leastRent_60 : decode cX5_leastRent 60 = .ok (.imul, 1) := by decide +kernel
theorem dX5_leastRent_61 : decode cX5_leastRent 61 = .ok (.iadd, 1) := by decide +kernel
theorem dX5_leastRent_62 : decode cX5_leastRent 62 = .ok (.istore_n 2, 1) := by decide +kernel
theorem dX5_leastRent_63 : decode cX5_leastRent 63 = .ok (.iload 5, 2) := by decide +kernel
theorem dX5_leastRent_65 : decode cX5_leastRent 65 = .ok (.istore_n 3, 1) := by decide +kernel
theorem dX5_leastRent_66 : decode cX5_leastRent 66 = .ok (.iinc 4 1, 3) := by decide +kernel
theorem dX5_leastRent_69 : decode cX5_leastRent 69 = .ok (.goto (-49), 3) := by decide +kernel
theorem dX5_leastRent_72 : decode cX5_leastRent 72 = .ok (.iload_n 2, 1) := by decide +kernel
theorem dX5_leastRent_73 : decode cX5_leastRent 73 = .ok (.ireturn, 1) := by decide +kernel
theorem dX5_openSeats_0 : decode cX5_openSeats 0 = .ok (.iconst 0, 1) := by decide +kernel
theorem dX5_openSeats_1 : decode cX5_openSeats 1 = .ok (.istore_n 3, 1) := by decide +kernel
theorem dX5_openSeats_2 : decode cX5_openSeats 2 = .ok (.iconst 0, 1) := by decide +kernel
theorem dX5_openSeats_3 : decode cX5_openSeats 3 = .ok (.istore 4, 2) := by decide +kernel
theorem dX5_openSeats_5 : decode cX5_openSeats 5 = .ok (.iload 4, 2) := by decide +kernel
theorem dX5_openSeats_7 : decode cX5_openSeats 7 = .ok (.aload_n 0, 1) := by decide +kernel
theorem dX5_openSeats_8 : decode cX5_openSeats 8 = .ok (.getfield 46, 3) := by decide +kernel
theorem dX5_openSeats_11 : decode cX5_openSeats 11 = .ok (.if_icmp .ge 36, 3) := by decide +kernel
theorem dX5_openSeats_14 : decode cX5_openSeats 14 = .ok (.aload_n 1, 1) := by decide +kernel
theorem dX5_openSeats_15 : decode cX5_openSeats 15 = .ok (.getfield 97, 3) := by decide +kernel
theorem dX5_openSeats_18 : decode cX5_openSeats 18 = .ok (.iload 4, 2) := by decide +kernel
theorem dX5_openSeats_20 : decode cX5_openSeats 20 = .ok (.iaload, 1) := by decide +kernel
theorem dX5_openSeats_21 : decode cX5_openSeats 21 = .ok (.iload_n 2, 1) := by decide +kernel
theorem dX5_openSeats_22 : decode cX5_openSeats 22 = .ok (.if_icmp .ne 19, 3) := by decide +kernel
theorem dX5_openSeats_25 : decode cX5_openSeats 25 = .ok (.aload_n 0, 1) := by decide +kernel
theorem dX5_openSeats_26 : decode cX5_openSeats 26 = .ok (.getfield 9, 3) := by decide +kernel
theorem dX5_openSeats_29 : decode cX5_openSeats 29 = .ok (.iload 4, 2) := by decide +kernel
theorem dX5_openSeats_31 : decode cX5_openSeats 31 = .ok (.aload_n 1, 1) := by decide +kernel
theorem dX5_openSeats_32 : decode cX5_openSeats 32 = .ok (.getfield 49, 3) := by decide +kernel
theorem dX5_openSeats_35 : decode cX5_openSeats 35 = .ok (.iload 4, 2) := by decide +kernel
theorem dX5_openSeats_37 : decode cX5_openSeats 37 = .ok (.iaload, 1) := by decide +kernel
theorem dX5_openSeats_38 : decode cX5_openSeats 38 = .ok (.iastore, 1) := by decide +kernel
theorem dX5_openSeats_39 : decode cX5_openSeats 39 = .ok (.iconst 1, 1) := by decide +kernel
theorem dX5_openSeats_40 : decode cX5_openSeats 40 = .ok (.istore_n 3, 1) := by decide +kernel
theorem dX5_openSeats_41 : decode cX5_openSeats 41 = .ok (.iinc 4 1, 3) := by decide +kernel
theorem dX5_openSeats_44 : decode cX5_openSeats 44 = .ok (.goto (-39), 3) := by decide +kernel
theorem dX5_openSeats_47 : decode cX5_openSeats 47 = .ok (.iload_n 3, 1) := by decide +kernel
theorem dX5_openSeats_48 : decode cX5_openSeats 48 = .ok (.ireturn, 1) := by decide +kernel
theorem dX5_seatMore_0 : decode cX5_seatMore 0 = .ok (.aload_n 0, 1) := by decide +kernel
theorem dX5_seatMore_1 : decode cX5_seatMore 1 = .ok (.aload_n 1, 1) := by decide +kernel
theorem dX5_seatMore_2 : decode cX5_seatMore 2 = .ok (.invokevirtual 78, 3) := by decide +kernel
theorem dX5_seatMore_5 : decode cX5_seatMore 5 = .ok (.aload_n 1, 1) := by decide +kernel
theorem dX5_seatMore_6 : decode cX5_seatMore 6 = .ok (.getfield 24, 3) := by decide +kernel
theorem dX5_seatMore_9 : decode cX5_seatMore 9 = .ok (.invokevirtual 82, 3) := by decide +kernel
theorem dX5_seatMore_12 : decode cX5_seatMore 12 = .ok (.istore_n 2, 1) := by decide +kernel
theorem dX5_seatMore_13 : decode cX5_seatMore 13 = .ok (.aload_n 0, 1) := by decide +kernel
theorem dX5_seatMore_14 : decode cX5_seatMore 14 = .ok (.iload_n 2, 1) := by decide +kernel
theorem dX5_seatMore_15 : decode cX5_seatMore 15 = .ok (.invokevirtual 86, 3) := by decide +kernel
theorem dX5_seatMore_18 : decode cX5_seatMore 18 = .ok (.istore_n 3, 1) := by decide +kernel
theorem dX5_seatMore_19 : decode cX5_seatMore 19 = .ok (.iconst 0, 1) := by decide +kernel
theorem dX5_seatMore_20 : decode cX5_seatMore 20 = .ok (.istore 4, 2) := by decide +kernel
theorem dX5_seatMore_22 : decode cX5_seatMore 22 = .ok (.iload 4, 2) := by decide +kernel
theorem dX5_seatMore_24 : decode cX5_seatMore 24 = .ok (.aload_n 0, 1) := by decide +kernel
theorem dX5_seatMore_25 : decode cX5_seatMore 25 = .ok (.getfield 46, 3) := by decide +kernel
theorem dX5_seatMore_28 : decode cX5_seatMore 28 = .ok (.if_icmp .ge 43, 3) := by decide +kernel
theorem dX5_seatMore_31 : decode cX5_seatMore 31 = .ok (.aload_n 0, 1) := by decide +kernel
theorem dX5_seatMore_32 : decode cX5_seatMore 32 = .ok (.getfield 9, 3) := by decide +kernel
theorem dX5_seatMore_35 : decode cX5_seatMore 35 = .ok (.iload 4, 2) := by decide +kernel
theorem dX5_seatMore_37 : decode cX5_seatMore 37 = .ok (.dup2, 1) := by decide +kernel
theorem dX5_seatMore_38 : decode cX5_seatMore 38 = .ok (.iaload, 1) := by decide +kernel
theorem dX5_seatMore_39 : decode cX5_seatMore 39 = .ok (.iconst 1, 1) := by decide +kernel
theorem dX5_seatMore_40 : decode cX5_seatMore 40 = .ok (.iadd, 1) := by decide +kernel
theorem dX5_seatMore_41 : decode cX5_seatMore 41 = .ok (.iastore, 1) := by decide +kernel
theorem dX5_seatMore_42 : decode cX5_seatMore 42 = .ok (.aload_n 0, 1) := by decide +kernel
theorem dX5_seatMore_43 : decode cX5_seatMore 43 = .ok (.iload_n 2, 1) := by decide +kernel
theorem dX5_seatMore_44 : decode cX5_seatMore 44 = .ok (.invokevirtual 86, 3) := by decide +kernel
theorem dX5_seatMore_47 : decode cX5_seatMore 47 = .ok (.iload_n 3, 1) := by decide +kernel
theorem dX5_seatMore_48 : decode cX5_seatMore 48 = .ok (.if_icmp .le 6, 3) := by decide +kernel
theorem dX5_seatMore_51 : decode cX5_seatMore 51 = .ok (.iload 4, 2) := by decide +kernel
theorem dX5_seatMore_53 : decode cX5_seatMore 53 = .ok (.ireturn, 1) := by decide +kernel
theorem dX5_seatMore_54 : decode cX5_seatMore 54 = .ok (.aload_n 0, 1) := by decide +kernel
theorem dX5_seatMore_55 : decode cX5_seatMore 55 = .ok (.getfield 9, 3) := by decide +kernel
theorem dX5_seatMore_58 : decode cX5_seatMore 58 = .ok (.iload 4, 2) := by decide +kernel
theorem dX5_seatMore_60 : decode cX5_seatMore 60 = .ok (.dup2, 1) := by decide +kernel
theorem dX5_seatMore_61 : decode cX5_seatMore 61 = .ok (.iaload, 1) := by decide +kernel
theorem dX5_seatMore_62 : decode cX5_seatMore 62 = .ok (.iconst 1, 1) := by decide +kernel
theorem dX5_seatMore_63 : decode cX5_seatMore 63 = .ok (.isub, 1) := by decide +kernel
theorem dX5_seatMore_64 : decode cX5_seatMore 64 = .ok (.iastore, 1) := by decide +kernel
theorem dX5_seatMore_65 : decode cX5_seatMore 65 = .ok (.iinc 4 1, 3) := by decide +kernel
theorem dX5_seatMore_68 : decode cX5_seatMore 68 = .ok (.goto (-46), 3) := by decide +kernel
theorem dX5_seatMore_71 : decode cX5_seatMore 71 = .ok (.bipush (-2), 2) := by decide +kernel
theorem dX5_seatMore_73 : decode cX5_seatMore 73 = .ok (.ireturn, 1) := by decide +kernel
theorem dX6_init_0 : decode cX6_init 0 = .ok (.aload_n 0, 1) := by decide +kernel
theorem dX6_init_1 : decode cX6_init 1 = .ok (.invokespecial 3, 3) := by decide +kernel
theorem dX6_init_4 : decode cX6_init 4 = .ok (.aload_n 0, 1) := by decide +kernel
theorem dX6_init_5 : decode cX6_init 5 = .ok (.bipush 16, 2) := by decide +kernel
theorem dX6_init_7 : decode cX6_init 7 = .ok (.bipush 16, 2) := by decide +kernel
theorem dX6_init_9 : decode cX6_init 9 = .ok (.multianewarray 11 2, 4) := by decide +kernel
theorem dX6_init_13 : decode cX6_init 13 = .ok (.putfield 13, 3) := by decide +kernel
theorem dX6_init_16 : decode cX6_init 16 = .ok (.aload_n 0, 1) := by decide +kernel
theorem dX6_init_17 : decode cX6_init 17 = .ok (.iconst 3, 1) := by decide +kernel
theorem dX6_init_18 : decode cX6_init 18 = .ok (.bipush 16, 2) := by decide +kernel
theorem dX6_init_20 : decode cX6_init 20 = .ok (.multianewarray 11 2, 4) := by decide +kernel
theorem dX6_init_24 : decode cX6_init 24 = .ok (.putfield 18, 3) := by decide +kernel
theorem dX6_init_27 : decode cX6_init 27 = .ok (.return_, 1) := by decide +kernel
theorem dX6_forgetAll_0 : decode cX6_forgetAll 0 = .ok (.aload_n 0, 1) := by decide +kernel
theorem dX6_forgetAll_1 : decode cX6_forgetAll 1 = .ok (.iconst 0, 1) := by decide +kernel
theorem dX6_forgetAll_2 : decode cX6_forgetAll 2 = .ok (.putfield 21, 3) := by decide +kernel
theorem dX6_forgetAll_5 : decode cX6_forgetAll 5 = .ok (.aload_n 0, 1) := by decide +kernel
theorem dX6_forgetAll_6 : decode cX6_forgetAll 6 = .ok (.iconst 0, 1) := by decide +kernel
theorem dX6_forgetAll_7 : decode cX6_forgetAll 7 = .ok (.putfield 25, 3) := by decide +kernel
theorem dX6_forgetAll_10 : decode cX6_forgetAll 10 = .ok (.aload_n 0, 1) := by decide +kernel
theorem dX6_forgetAll_11 : decode cX6_forgetAll 11 = .ok (.iconst 0, 1) := by decide +kernel
theorem dX6_forgetAll_12 : decode cX6_forgetAll 12 = .ok (.putfield 28, 3) := by decide +kernel
theorem dX6_forgetAll_15 : decode cX6_forgetAll 15 = .ok (.return_, 1) := by decide +kernel
theorem dX6_keepAct_0 : decode cX6_keepAct 0 = .ok (.aload_n 1, 1) := by decide +kernel
theorem dX6_keepAct_1 : decode cX6_keepAct 1 = .ok (.aload_n 0, 1) := by decide +kernel
theorem dX6_keepAct_2 : decode cX6_keepAct 2 = .ok (.getfield 13, 3) := by decide +kernel
theorem dX6_keepAct_5 : decode cX6_keepAct 5 = .ok (.aload_n 0, 1) := by decide +kernel
theorem dX6_keepAct_6 : decode cX6_keepAct 6 = .ok (.getfield 21, 3) := by decide +kernel
theorem dX6_keepAct_9 : decode cX6_keepAct 9 = .ok (.aaload, 1) := by decide +kernel
theorem dX6_keepAct_10 : decode cX6_keepAct 10 = .ok (.invokevirtual 31, 3) := by decide +kernel
theorem dX6_keepAct_13 : decode cX6_keepAct 13 = .ok (.aload_n 0, 1) := by decide +kernel
theorem dX6_keepAct_14 : decode cX6_keepAct 14 = .ok (.aload_n 0, 1) := by decide +kernel
theorem dX6_keepAct_15 : decode cX6_keepAct 15 = .ok (.getfield 21, 3) := by decide +kernel
theorem dX6_keepAct_18 : decode cX6_keepAct 18 = .ok (.iconst 1, 1) := by decide +kernel
theorem dX6_keepAct_19 : decode cX6_keepAct 19 = .ok (.iadd, 1) := by decide +kernel
theorem dX6_keepAct_20 : decode cX6_keepAct 20 = .ok (.bipush 16, 2) := by decide +kernel
theorem dX6_keepAct_22 : decode cX6_keepAct 22 = .ok (.irem, 1) := by decide +kernel
theorem dX6_keepAct_23 : decode cX6_keepAct 23 = .ok (.putfield 21, 3) := by decide +kernel
theorem dX6_keepAct_26 : decode cX6_keepAct 26 = .ok (.aload_n 0, 1) := by decide +kernel
theorem dX6_keepAct_27 : decode cX6_keepAct 27 = .ok (.aload_n 0, 1) := by decide +kernel
theorem dX6_keepAct_28 : decode cX6_keepAct 28 = .ok (.getfield 25, 3) := by decide +kernel
theorem dX6_keepAct_31 : decode cX6_keepAct 31 = .ok (.iconst 1, 1) := by decide +kernel
theorem dX6_keepAct_32 : decode cX6_keepAct 32 = .ok (.iadd, 1) := by decide +kernel
theorem dX6_keepAct_33 : decode cX6_keepAct 33 = .ok (.bipush 16, 2) := by decide +kernel
theorem dX6_keepAct_35 : decode cX6_keepAct 35 = .ok (.invokestatic 35, 3) := by decide +kernel
theorem dX6_keepAct_38 : decode cX6_keepAct 38 = .ok (.putfield 25, 3) := by decide +kernel
theorem dX6_keepAct_41 : decode cX6_keepAct 41 = .ok (.return_, 1) := by decide +kernel
theorem dX6_takeBack_0 : decode cX6_takeBack 0 = .ok (.aload_n 0, 1) := by decide +kernel
theorem dX6_takeBack_1 : decode cX6_takeBack 1 = .ok (.getfield 25, 3) := by decide +kernel
theorem dX6_takeBack_4 : decode cX6_takeBack 4 = .ok (.ifCond .le 42, 3) := by decide +kernel
theorem dX6_takeBack_7 : decode cX6_takeBack 7 = .ok (.aload_n 0, 1) := by decide +kernel
theorem dX6_takeBack_8 : decode cX6_takeBack 8 = .ok (.aload_n 0, 1) := by decide +kernel
theorem dX6_takeBack_9 : decode cX6_takeBack 9 = .ok (.getfield 21, 3) := by decide +kernel
theorem dX6_takeBack_12 : decode cX6_takeBack 12 = .ok (.bipush 16, 2) := by decide +kernel
theorem dX6_takeBack_14 : decode cX6_takeBack 14 = .ok (.iadd, 1) := by decide +kernel
theorem dX6_takeBack_15 : decode cX6_takeBack 15 = .ok (.iconst 1, 1) := by decide +kernel
theorem dX6_takeBack_16 : decode cX6_takeBack 16 = .ok (.isub, 1) := by decide +kernel
theorem dX6_takeBack_17 : decode cX6_takeBack 17 = .ok (.bipush 16, 2) := by decide +kernel
theorem dX6_takeBack_19 : decode cX6_takeBack 19 = .ok (.irem, 1) := by decide +kernel
theorem dX6_takeBack_20 : decode cX6_takeBack 20 = .ok (.putfield 21, 3) := by decide +kernel
theorem dX6_takeBack_23 : decode cX6_takeBack 23 = .ok (.aload_n 0, 1) := by decide +kernel
theorem dX6_takeBack_24 : decode cX6_takeBack 24 = .ok (.dup, 1) := by decide +kernel
theorem dX6_takeBack_25 : decode cX6_takeBack 25 = .ok (.getfield 25, 3) := by decide +kernel
theorem dX6_takeBack_28 : decode cX6_takeBack 28 = .ok (.iconst 1, 1) := by decide +kernel
theorem dX6_takeBack_29 : decode cX6_takeBack 29 = .ok (.isub, 1) := by decide +kernel
theorem dX6_takeBack_30 : decode cX6_takeBack 30 = .ok (.putfield 25, 3) := by decide +kernel
theorem dX6_takeBack_33 : decode cX6_takeBack 33 = .ok (.aload_n 1, 1) := by decide +kernel
theorem dX6_takeBack_34 : decode cX6_takeBack 34 = .ok (.aload_n 0, 1) := by decide +kernel
theorem dX6_takeBack_35 : decode cX6_takeBack 35 = .ok (.getfield 13, 3) := by decide +kernel
theorem dX6_takeBack_38 : decode cX6_takeBack 38 = .ok (.aload_n 0, 1) := by decide +kernel
theorem dX6_takeBack_39 : decode cX6_takeBack 39 = .ok (.getfield 21, 3) := by decide +kernel
theorem dX6_takeBack_42 : decode cX6_takeBack 42 = .ok (.aaload, 1) := by decide +kernel
theorem dX6_takeBack_43 : decode cX6_takeBack 43 = .ok (.invokevirtual 41, 3) := by decide +kernel
theorem dX6_takeBack_46 : decode cX6_takeBack 46 = .ok (.return_, 1) := by decide +kernel
theorem dX6_keepImage_0 : decode cX6_keepImage 0 = .ok (.aload_n 0, 1) := by decide +kernel
theorem dX6_keepImage_1 : decode cX6_keepImage 1 = .ok (.getfield 28, 3) := by decide +kernel
theorem dX6_keepImage_4 : decode cX6_keepImage 4 = .ok (.iconst 3, 1) := by decide +kernel
theorem dX6_keepImage_5 : decode cX6_keepImage 5 = .ok (.if_icmp .lt 5, 3) := by decide +kernel
theorem dX6_keepImage_8 : decode cX6_keepImage 8 = .ok (.iconst (-1), 1) := by decide +kernel
theorem dX6_keepImage_9 : decode cX6_keepImage 9 = .ok (.ireturn, 1) := by decide +kernel
theorem dX6_keepImage_10 : decode cX6_keepImage 10 = .ok (.aload_n 1, 1) := by decide +kernel
theorem dX6_keepImage_11 : decode cX6_keepImage 11 = .ok (.aload_n 0, 1) := by decide +kernel
theorem dX6_keepImage_12 : decode cX6_keepImage 12 = .ok (.getfield 18, 3) := by decide +kernel
theorem dX6_keepImage_15 : decode cX6_keepImage 15 = .ok (.aload_n 0, 1) := by decide +kernel
theorem dX6_keepImage_16 : decode cX6_keepImage 16 = .ok (.getfield 28, 3) := by decide +kernel
theorem dX6_keepImage_19 : decode cX6_keepImage 19 = .ok (.aaload, 1) := by decide +kernel
theorem dX6_keepImage_20 : decode cX6_keepImage 20 = .ok (.invokevirtual 31, 3) := by decide +kernel
theorem dX6_keepImage_23 : decode cX6_keepImage 23 = .ok (.aload_n 0, 1) := by decide +kernel
theorem dX6_keepImage_24 : decode cX6_keepImage 24 = .ok (.dup, 1) := by decide +kernel
theorem dX6_keepImage_25 : decode cX6_keepImage 25 = .ok (.getfield 28, 3) := by decide +kernel
theorem dX6_keepImage_28 : decode cX6_keepImage 28 = .ok (.iconst 1, 1) := by decide +kernel
theorem dX6_keepImage_29 : decode cX6_keepImage 29 = .ok (.iadd, 1) := by decide +kernel
theorem dX6_keepImage_30 : decode cX6_keepImage 30 = .ok (.putfield 28, 3) := by decide +kernel
theorem dX6_keepImage_33 : decode cX6_keepImage 33 = .ok (.aload_n 0, 1) := by decide +kernel
theorem dX6_keepImage_34 : decode cX6_keepImage 34 = .ok (.getfield 28, 3) := by decide +kernel
theorem dX6_keepImage_37 : decode cX6_keepImage 37 = .ok (.iconst 1, 1) := by decide +kernel
theorem dX6_keepImage_38 : decode cX6_keepImage 38 = .ok (.isub, 1) := by decide +kernel
theorem dX6_keepImage_39 : decode cX6_keepImage 39 = .ok (.ireturn, 1) := by decide +kernel
theorem dX6_goTo_0 : decode cX6_goTo 0 = .ok (.iload_n 1, 1) := by decide +kernel
theorem dX6_goTo_1 : decode cX6_goTo 1 = .ok (.ifCond .lt 31, 3) := by decide +kernel
theorem dX6_goTo_4 : decode cX6_goTo 4 = .ok (.iload_n 1, 1) := by decide +kernel
theorem dX6_goTo_5 : decode cX6_goTo 5 = .ok (.aload_n 0, 1) := by decide +kernel
theorem dX6_goTo_6 : decode cX6_goTo 6 = .ok (.getfield 28, 3) := by decide +kernel
theorem dX6_goTo_9 : decode cX6_goTo 9 = .ok (.if_icmp .ge 23, 3) := by decide +kernel
theorem dX6_goTo_12 : decode cX6_goTo 12 = .ok (.aload_n 2, 1) := by decide +kernel
theorem dX6_goTo_13 : decode cX6_goTo 13 = .ok (.aload_n 0, 1) := by decide +kernel
theorem dX6_goTo_14 : decode cX6_goTo 14 = .ok (.getfield 18, 3) := by decide +kernel
theorem dX6_goTo_17 : decode cX6_goTo 17 = .ok (.iload_n 1, 1) := by decide +kernel
theorem dX6_goTo_18 : decode cX6_goTo 18 = .ok (.aaload, 1) := by decide +kernel
theorem dX6_goTo_19 : decode cX6_goTo 19 = .ok (.invokevirtual 41, 3) := by decide +kernel
theorem dX6_goTo_22 : decode cX6_goTo 22 = .ok (.aload_n 0, 1) := by decide +kernel
theorem dX6_goTo_23 : decode cX6_goTo 23 = .ok (.iconst 0, 1) := by decide +kernel
theorem dX6_goTo_24 : decode cX6_goTo 24 = .ok (.putfield 21, 3) := by decide +kernel
theorem dX6_goTo_27 : decode cX6_goTo 27 = .ok (.aload_n 0, 1) := by decide +kernel
theorem dX6_goTo_28 : decode cX6_goTo 28 = .ok (.iconst 0, 1) := by decide +kernel
theorem dX6_goTo_29 : decode cX6_goTo 29 = .ok (.putfield 25, 3) := by decide +kernel
theorem dX6_goTo_32 : decode cX6_goTo 32 = .ok (.return_, 1) := by decide +kernel
theorem dX7_init_0 : decode cX7_init 0 = .ok (.aload_n 0, 1) := by decide +kernel
theorem dX7_init_1 : decode cX7_init 1 = .ok (.invokespecial 3, 3) := by decide +kernel
theorem dX7_init_4 : decode cX7_init 4 = .ok (.aload_n 0, 1) := by decide +kernel
theorem dX7_init_5 : decode cX7_init 5 = .ok (.new 9, 3) := by decide +kernel
theorem dX7_init_8 : decode cX7_init 8 = .ok (.dup, 1) := by decide +kernel
theorem dX7_init_9 : decode cX7_init 9 = .ok (.invokespecial 11, 3) := by decide +kernel
theorem dX7_init_12 : decode cX7_init 12 = .ok (.putfield 12, 3) := by decide +kernel
theorem dX7_init_15 : decode cX7_init 15 = .ok (.aload_n 0, 1) := by decide +kernel
theorem dX7_init_16 : decode cX7_init 16 = .ok (.new 18, 3) := by decide +kernel
theorem dX7_init_19 : decode cX7_init 19 = .ok (.dup, 1) := by decide +kernel
theorem dX7_init_20 : decode cX7_init 20 = .ok (.invokespecial 20, 3) := by decide +kernel
theorem dX7_init_23 : decode cX7_init 23 = .ok (.putfield 21, 3) := by decide +kernel
theorem dX7_init_26 : decode cX7_init 26 = .ok (.aload_n 0, 1) := by decide +kernel
theorem dX7_init_27 : decode cX7_init 27 = .ok (.new 25, 3) := by decide +kernel
theorem dX7_init_30 : decode cX7_init 30 = .ok (.dup, 1) := by decide +kernel
theorem dX7_init_31 : decode cX7_init 31 = .ok (.invokespecial 27, 3) := by decide +kernel
theorem dX7_init_34 : decode cX7_init 34 = .ok (.putfield 28, 3) := by decide +kernel
theorem dX7_init_37 : decode cX7_init 37 = .ok (.aload_n 0, 1) := by decide +kernel
theorem dX7_init_38 : decode cX7_init 38 = .ok (.new 32, 3) := by decide +kernel
theorem dX7_init_41 : decode cX7_init 41 = .ok (.dup, 1) := by decide +kernel
theorem dX7_init_42 : decode cX7_init 42 = .ok (.invokespecial 34, 3) := by decide +kernel
theorem dX7_init_45 : decode cX7_init 45 = .ok (.putfield 35, 3) := by decide +kernel
theorem dX7_init_48 : decode cX7_init 48 = .ok (.return_, 1) := by decide +kernel
theorem dX7_clear_0 : decode cX7_clear 0 = .ok (.aload_n 0, 1) := by decide +kernel
theorem dX7_clear_1 : decode cX7_clear 1 = .ok (.iconst 0, 1) := by decide +kernel
theorem dX7_clear_2 : decode cX7_clear 2 = .ok (.putfield 39, 3) := by decide +kernel
theorem dX7_clear_5 : decode cX7_clear 5 = .ok (.aload_n 0, 1) := by decide +kernel
theorem dX7_clear_6 : decode cX7_clear 6 = .ok (.getfield 12, 3) := by decide +kernel
theorem dX7_clear_9 : decode cX7_clear 9 = .ok (.invokevirtual 43, 3) := by decide +kernel
theorem dX7_clear_12 : decode cX7_clear 12 = .ok (.aload_n 0, 1) := by decide +kernel
theorem dX7_clear_13 : decode cX7_clear 13 = .ok (.getfield 21, 3) := by decide +kernel
theorem dX7_clear_16 : decode cX7_clear 16 = .ok (.invokevirtual 46, 3) := by decide +kernel
theorem dX7_clear_19 : decode cX7_clear 19 = .ok (.aload_n 0, 1) := by decide +kernel
theorem dX7_clear_20 : decode cX7_clear 20 = .ok (.getfield 28, 3) := by decide +kernel
theorem dX7_clear_23 : decode cX7_clear 23 = .ok (.invokevirtual 47, 3) := by decide +kernel
theorem dX7_clear_26 : decode cX7_clear 26 = .ok (.aload_n 0, 1) := by decide +kernel
theorem dX7_clear_27 : decode cX7_clear 27 = .ok (.getfield 35, 3) := by decide +kernel
theorem dX7_clear_30 : decode cX7_clear 30 = .ok (.invokevirtual 48, 3) := by decide +kernel
theorem dX7_clear_33 : decode cX7_clear 33 = .ok (.return_, 1) := by decide +kernel
theorem dX7_allows_0 : decode cX7_allows 0 = .ok (.aload_n 0, 1) := by decide +kernel
theorem dX7_allows_1 : decode cX7_allows 1 = .ok (.getfield 21, 3) := by decide +kernel
theorem dX7_allows_4 : decode cX7_allows 4 = .ok (.getfield 49, 3) := by decide +kernel
theorem dX7_allows_7 : decode cX7_allows 7 = .ok (.iload_n 1, 1) := by decide +kernel
theorem dX7_allows_8 : decode cX7_allows 8 = .ok (.iaload, 1) := by decide +kernel
theorem dX7_allows_9 : decode cX7_allows 9 = .ok (.istore_n 3, 1) := by decide +kernel
theorem dX7_allows_10 : decode cX7_allows 10 = .ok (.iload_n 3, 1) := by decide +kernel
theorem dX7_allows_11 : decode cX7_allows 11 = .ok (.ifCond .lt 36, 3) := by decide +kernel
theorem dX7_allows_14 : decode cX7_allows 14 = .ok (.iload_n 3, 1) := by decide +kernel
theorem dX7_allows_15 : decode cX7_allows 15 = .ok (.getstatic 53, 3) := by decide +kernel
theorem dX7_allows_18 : decode cX7_allows 18 = .ok (.arraylength, 1) := by decide +kernel
theorem dX7_allows_19 : decode cX7_allows 19 = .ok (.if_icmp .ge 28, 3) := by decide +kernel
theorem dX7_allows_22 : decode cX7_allows 22 = .ok (.getstatic 53, 3) := by decide +kernel
theorem dX7_allows_25 : decode cX7_allows 25 = .ok (.iload_n 3, 1) := by decide +kernel
theorem dX7_allows_26 : decode cX7_allows 26 = .ok (.iaload, 1) := by decide +kernel
theorem dX7_allows_27 : decode cX7_allows 27 = .ok (.aload_n 0, 1) := by decide +kernel
theorem dX7_allows_28 : decode cX7_allows 28 = .ok (.getfield 12, 3) := by decide +kernel
theorem dX7_allows_31 : decode cX7_allows 31 = .ok (.getfield 56, 3) := by decide +kernel
theorem dX7_allows_34 : decode cX7_allows 34 = .ok (.iload_n 2, 1) := by decide +kernel
theorem dX7_allows_35 : decode cX7_allows 35 = .ok (.iaload, 1) := by decide +kernel
theorem dX7_allows_36 : decode cX7_allows 36 = .ok (.ishr, 1) := by decide +kernel
theorem dX7_allows_37 : decode cX7_allows 37 = .ok (.iconst 1, 1) := by decide +kernel
theorem dX7_allows_38 : decode cX7_allows 38 = .ok (.iand, 1) := by decide +kernel
theorem dX7_allows_39 : decode cX7_allows 39 = .ok (.iconst 1, 1) := by decide +kernel
theorem dX7_allows_40 : decode cX7_allows 40 = .ok (.if_icmp .ne 7, 3) := by decide +kernel
theorem dX7_allows_43 : decode cX7_allows 43 = .ok (.iconst 1, 1) := by decide +kernel
theorem dX7_allows_44 : decode cX7_allows 44 = .ok (.goto 4, 3) := by decide +kernel
theorem dX7_allows_47 : decode cX7_allows 47 = .ok (.iconst 0, 1) := by decide +kernel
theorem dX7_allows_48 : decode cX7_allows 48 = .ok (.ireturn, 1) := by decide +kernel
theorem dX7_hasFreeSeat_0 : decode cX7_hasFreeSeat 0 = .ok (.aload_n 1, 1) := by decide +kernel
theorem dX7_hasFreeSeat_1 : decode cX7_hasFreeSeat 1 = .ok (.iload_n 2, 1) := by decide +kernel
theorem dX7_hasFreeSeat_2 : decode cX7_hasFreeSeat 2 = .ok (.invokevirtual 59, 3) := by decide +kernel
theorem dX7_hasFreeSeat_5 : decode cX7_hasFreeSeat 5 = .ok (.invokestatic 63, 3) := by decide +kernel
theorem dX7_hasFreeSeat_8 : decode cX7_hasFreeSeat 8 = .ok (.aload_n 0, 1) := by decide +kernel
theorem dX7_hasFreeSeat_9 : decode cX7_hasFreeSeat 9 = .ok (.getfield 12, 3) := by decide +kernel
theorem dX7_hasFreeSeat_12 : decode cX7_hasFreeSeat 12 = .ok (.getfield 68, 3) := by decide +kernel
theorem dX7_hasFreeSeat_15 : decode cX7_hasFreeSeat 15 = .ok (.iload_n 2, 1) := by decide +kernel
theorem dX7_hasFreeSeat_16 : decode cX7_hasFreeSeat 16 = .ok (.iaload, 1) := by decide +kernel
theorem dX7_hasFreeSeat_17 : decode cX7_hasFreeSeat 17 = .ok (.if_icmp .ge 7, 3) := by decide +kernel
theorem dX7_hasFreeSeat_20 : decode cX7_hasFreeSeat 20 = .ok (.iconst 1, 1) := by decide +kernel
theorem dX7_hasFreeSeat_21 : decode cX7_hasFreeSeat 21 = .ok (.goto 4, 3) := by decide +kernel
theorem dX7_hasFreeSeat_24 : decode cX7_hasFreeSeat 24 = .ok (.iconst 0, 1) := by decide +kernel
theorem dX7_hasFreeSeat_25 : decode cX7_hasFreeSeat 25 = .ok (.ireturn, 1) := by decide +kernel
theorem dX7_benchesFor_0 : decode cX7_benchesFor 0 = .ok (.iconst 0, 1) := by decide +kernel
theorem dX7_benchesFor_1 : decode cX7_benchesFor 1 = .ok (.istore_n 2, 1) := by decide +kernel
theorem dX7_benchesFor_2 : decode cX7_benchesFor 2 = .ok (.iconst 0, 1) := by decide +kernel
theorem dX7_benchesFor_3 : decode cX7_benchesFor 3 = .ok (.istore_n 3, 1) := by decide +kernel
theorem dX7_benchesFor_4 : decode cX7_benchesFor 4 = .ok (.iload_n 3, 1) := by decide +kernel
theorem dX7_benchesFor_5 : decode cX7_benchesFor 5 = .ok (.aload_n 0, 1) := by decide +kernel
theorem dX7_benchesFor_6 : decode cX7_benchesFor 6 = .ok (.getfield 12, 3) := by decide +kernel
theorem dX7_benchesFor_9 : decode cX7_benchesFor 9 = .ok (.getfield 71, 3) := by decide +kernel
theorem dX7_benchesFor_12 : decode cX7_benchesFor 12 = .ok (.if_icmp .ge 51, 3) := by decide +kernel
theorem dX7_benchesFor_15 : decode cX7_benchesFor 15 = .ok (.aload_n 0, 1) := by decide +kernel
theorem dX7_benchesFor_16 : decode cX7_benchesFor 16 = .ok (.iload_n 1, 1) := by decide +kernel
theorem dX7_benchesFor_17 : decode cX7_benchesFor 17 = .ok (.iload_n 3, 1) := by decide +kernel
theorem dX7_benchesFor_18 : decode cX7_benchesFor 18 = .ok (.invokevirtual 75, 3) := by decide +kernel
theorem dX7_benchesFor_21 : decode cX7_benchesFor 21 = .ok (.ifCond .eq 36, 3) := by decide +kernel
theorem dX7_benchesFor_24 : decode cX7_benchesFor 24 = .ok (.aload_n 0, 1) := by decide +kernel
theorem dX7_benchesFor_25 : decode cX7_benchesFor 25 = .ok (.getfield 12, 3) := by decide +kernel
theorem dX7_benchesFor_28 : decode cX7_benchesFor 28 = .ok (.iload_n 3, 1) := by decide +kernel
theorem dX7_benchesFor_29 : decode cX7_benchesFor 29 = .ok (.aload_n 0, 1) := by decide +kernel
theorem dX7_benchesFor_30 : decode cX7_benchesFor 30 = .ok (.getfield 12, 3) := by decide +kernel
theorem dX7_benchesFor_33 : decode cX7_benchesFor 33 = .ok (.getfield 79, 3) := by decide +kernel
theorem dX7_benchesFor_36 : decode cX7_benchesFor 36 = .ok (.invokevirtual 82, 3) := by decide +kernel
theorem dX7_benchesFor_39 : decode cX7_benchesFor 39 = .ok (.aload_n 0, 1) := by decide +kernel
theorem dX7_benchesFor_40 : decode cX7_benchesFor 40 = .ok (.getfield 21, 3) := by decide +kernel
theorem dX7_benchesFor_43 : decode cX7_benchesFor 43 = .ok (.getfield 86, 3) := by decide +kernel
theorem dX7_benchesFor_46 : decode cX7_benchesFor 46 = .ok (.iload_n 1, 1) := by decide +kernel
theorem dX7_benchesFor_47 : decode cX7_benchesFor 47 = .ok (.iaload, 1) := by decide +kernel
theorem dX7_benchesFor_48 : decode cX7_benchesFor 48 = .ok (.if_icmp .lt 9, 3) := by decide +kernel
theorem dX7_benchesFor_51 : decode cX7_benchesFor 51 = .ok (.iload_n 2, 1) := by decide +kernel
theorem dX7_benchesFor_52 : decode cX7_benchesFor 52 = .ok (.iconst 1, 1) := by decide +kernel
theorem dX7_benchesFor_53 : decode cX7_benchesFor 53 = .ok (.iload_n 3, 1) := by decide +kernel
theorem dX7_benchesFor_54 : decode cX7_benchesFor 54 = .ok (.ishl, 1) := by decide +kernel
theorem dX7_benchesFor_55 : decode cX7_benchesFor 55 = .ok (.ior, 1) := by decide +kernel
theorem dX7_benchesFor_56 : decode cX7_benchesFor 56 = .ok (.istore_n 2, 1) := by decide +kernel
theorem dX7_benchesFor_57 : decode cX7_benchesFor 57 = .ok (.iinc 3 1, 3) := by decide +kernel
theorem dX7_benchesFor_60 : decode cX7_benchesFor 60 = .ok (.goto (-56), 3) := by decide +kernel
theorem dX7_benchesFor_63 : decode cX7_benchesFor 63 = .ok (.iload_n 2, 1) := by decide +kernel
theorem dX7_benchesFor_64 : decode cX7_benchesFor 64 = .ok (.ireturn, 1) := by decide +kernel
theorem dX7_warmth_0 : decode cX7_warmth 0 = .ok (.aload_n 0, 1) := by decide +kernel
theorem dX7_warmth_1 : decode cX7_warmth 1 = .ok (.getfield 12, 3) := by decide +kernel
theorem dX7_warmth_4 : decode cX7_warmth 4 = .ok (.iload_n 2, 1) := by decide +kernel
theorem dX7_warmth_5 : decode cX7_warmth 5 = .ok (.aload_n 0, 1) := by decide +kernel
theorem dX7_warmth_6 : decode cX7_warmth 6 = .ok (.getfield 12, 3) := by decide +kernel
theorem dX7_warmth_9 : decode cX7_warmth 9 = .ok (.getfield 79, 3) := by decide +kernel
theorem dX7_warmth_12 : decode cX7_warmth 12 = .ok (.invokevirtual 82, 3) := by decide +kernel
theorem dX7_warmth_15 : decode cX7_warmth 15 = .ok (.iconst 3, 1) := by decide +kernel
theorem dX7_warmth_16 : decode cX7_warmth 16 = .ok (.aload_n 1, 1) := by decide +kernel
theorem dX7_warmth_17 : decode cX7_warmth 17 = .ok (.iload_n 2, 1) := by decide +kernel
theorem dX7_warmth_18 : decode cX7_warmth 18 = .ok (.invokevirtual 59, 3) := by decide +kernel
theorem dX7_warmth_21 : decode cX7_warmth 21 = .ok (.invokestatic 63, 3) := by decide +kernel
theorem dX7_warmth_24 : decode cX7_warmth 24 = .ok (.imul, 1) := by decide +kernel
theorem dX7_warmth_25 : decode cX7_warmth 25 = .ok (.iadd, 1) := by decide +kernel
theorem dX7_warmth_26 : decode cX7_warmth 26 = .ok (.ireturn, 1) := by decide +kernel
theorem dX7_warmestFor_0 : decode cX7_warmestFor 0 = .ok (.bipush (-2), 2) := by decide +kernel
theorem dX7_warmestFor_2 : decode cX7_warmestFor 2 = .ok (.istore_n 3, 1) := by decide +kernel
theorem dX7_warmestFor_3 : decode cX7_warmestFor 3 = .ok (.iconst (-1), 1) := by decide +kernel
theorem dX7_warmestFor_4 : decode cX7_warmestFor 4 = .ok (.istore 4, 2) := by decide +kernel
theorem dX7_warmestFor_6 : decode cX7_warmestFor 6 = .ok (.iconst 0, 1) := by decide +kernel
theorem dX7_warmestFor_7 : decode cX7_warmestFor 7 = .ok (.istore 5, 2) := by decide +kernel
theorem dX7_warmestFor_9 : decode cX7_warmestFor 9 = .ok (.iload 5, 2) := by decide +kernel
theorem dX7_warmestFor_11 : decode cX7_warmestFor 11 = .ok (.aload_n 0, 1) := by decide +kernel
theorem dX7_warmestFor_12 : decode cX7_warmestFor 12 = .ok (.getfield 12, 3) := by decide +kernel
theorem dX7_warmestFor_15 : decode cX7_warmestFor 15 = .ok (.getfield 71, 3) := by decide +kernel
theorem dX7_warmestFor_18 : decode cX7_warmestFor 18 = .ok (.if_icmp .ge 53, 3) := by decide +kernel
theorem dX7_warmestFor_21 : decode cX7_warmestFor 21 = .ok (.aload_n 0, 1) := by decide +kernel
theorem dX7_warmestFor_22 : decode cX7_warmestFor 22 = .ok (.iload_n 2, 1) := by decide +kernel
theorem dX7_warmestFor_23 : decode cX7_warmestFor 23 = .ok (.iload 5, 2) := by decide +kernel
theorem dX7_warmestFor_25 : decode cX7_warmestFor 25 = .ok (.invokevirtual 75, 3) := by decide +kernel
theorem dX7_warmestFor_28 : decode cX7_warmestFor 28 = .ok (.ifCond .eq 37, 3) := by decide +kernel
theorem dX7_warmestFor_31 : decode cX7_warmestFor 31 = .ok (.aload_n 0, 1) := by decide +kernel
theorem dX7_warmestFor_32 : decode cX7_warmestFor 32 = .ok (.aload_n 1, 1) := by decide +kernel
theorem dX7_warmestFor_33 : decode cX7_warmestFor 33 = .ok (.iload 5, 2) := by decide +kernel
theorem dX7_warmestFor_35 : decode cX7_warmestFor 35 = .ok (.invokevirtual 89, 3) := by decide +kernel
theorem dX7_warmestFor_38 : decode cX7_warmestFor 38 = .ok (.ifCond .eq 27, 3) := by decide +kernel
theorem dX7_warmestFor_41 : decode cX7_warmestFor 41 = .ok (.aload_n 0, 1) := by decide +kernel
theorem dX7_warmestFor_42 : decode cX7_warmestFor 42 = .ok (.aload_n 1, 1) := by decide +kernel
theorem dX7_warmestFor_43 : decode cX7_warmestFor 43 = .ok (.iload 5, 2) := by decide +kernel
theorem dX7_warmestFor_45 : decode cX7_warmestFor 45 = .ok (.invokevirtual 93, 3) := by decide +kernel
theorem dX7_warmestFor_48 : decode cX7_warmestFor 48 = .ok (.iload 4, 2) := by decide +kernel
theorem dX7_warmestFor_50 : decode cX7_warmestFor 50 = .ok (.if_icmp .le 15, 3) := by decide +kernel
theorem dX7_warmestFor_53 : decode cX7_warmestFor 53 = .ok (.iload 5, 2) := by decide +kernel
theorem dX7_warmestFor_55 : decode cX7_warmestFor 55 = .ok (.istore_n 3, 1) := by decide +kernel
theorem dX7_warmestFor_56 : decode cX7_warmestFor 56 = .ok (.aload_n 0, 1) := by decide +kernel
theorem dX7_warmestFor_57 : decode cX7_warmestFor 57 = .ok (.aload_n 1, 1) := by decide +kernel
theorem dX7_warmestFor_58 : decode cX7_warmestFor 58 = .ok (.iload 5, 2) := by decide +kernel
theorem dX7_warmestFor_60 : decode cX7_warmestFor 60 = .ok (.invokevirtual 93, 3) := by decide +kernel
theorem dX7_warmestFor_63 : decode cX7_warmestFor 63 = .ok (.istore 4, 2) := by decide +kernel
theorem dX7_warmestFor_65 : decode cX7_warmestFor 65 = .ok (.iinc 5 1, 3) := by decide +kernel
theorem dX7_warmestFor_68 : decode cX7_warmestFor 68 = .ok (.goto (-59), 3) := by decide +kernel
theorem dX7_warmestFor_71 : decode cX7_warmestFor 71 = .ok (.iload_n 3, 1) := by decide +kernel
theorem dX7_warmestFor_72 : decode cX7_warmestFor 72 = .ok (.ireturn, 1) := by decide +kernel
theorem dX7_isContent_0 : decode cX7_isContent 0 = .ok (.aload_n 1, 1) := by decide +kernel
theorem dX7_isContent_1 : decode cX7_isContent 1 = .ok (.getfield 97, 3) := by decide +kernel
theorem dX7_isContent_4 : decode cX7_isContent 4 = .ok (.iload_n 2, 1) := by decide +kernel
theorem dX7_isContent_5 : decode cX7_isContent 5 = .ok (.iaload, 1) := by decide +kernel
theorem dX7_isContent_6 : decode cX7_isContent 6 = .ok (.istore 4, 2) := by decide +kernel
theorem dX7_isContent_8 : decode cX7_isContent 8 = .ok (.aload_n 0, 1) := by decide +kernel
theorem dX7_isContent_9 : decode cX7_isContent 9 = .ok (.getfield 12, 3) := by decide +kernel
theorem dX7_isContent_12 : decode cX7_isContent 12 = .ok (.iload 4, 2) := by decide +kernel
theorem dX7_isContent_14 : decode cX7_isContent 14 = .ok (.invokevirtual 100, 3) := by decide +kernel
theorem dX7_isContent_17 : decode cX7_isContent 17 = .ok (.ifCond .eq 25, 3) := by decide +kernel
theorem dX7_isContent_20 : decode cX7_isContent 20 = .ok (.aload_n 0, 1) := by decide +kernel
theorem dX7_isContent_21 : decode cX7_isContent 21 = .ok (.getfield 12, 3) := by decide +kernel
theorem dX7_isContent_24 : decode cX7_isContent 24 = .ok (.iload 4, 2) := by decide +kernel
theorem dX7_isContent_26 : decode cX7_isContent 26 = .ok (.iload_n 3, 1) := by decide +kernel
theorem dX7_isContent_27 : decode cX7_isContent 27 = .ok (.invokevirtual 82, 3) := by decide +kernel
theorem dX7_isContent_30 : decode cX7_isContent 30 = .ok (.aload_n 0, 1) := by decide +kernel
theorem dX7_isContent_31 : decode cX7_isContent 31 = .ok (.getfield 21, 3) := by decide +kernel
theorem dX7_isContent_34 : decode cX7_isContent 34 = .ok (.getfield 86, 3) := by decide +kernel
theorem dX7_isContent_37 : decode cX7_isContent 37 = .ok (.iload_n 2, 1) := by decide +kernel
theorem dX7_isContent_38 : decode cX7_isContent 38 = .ok (.iaload, 1) := by decide +kernel
theorem dX7_isContent_39 : decode cX7_isContent 39 = .ok (.if_icmp .ge 5, 3) := by decide +kernel
theorem dX7_isContent_42 : decode cX7_isContent 42 = .ok (.iconst 0, 1) := by decide +kernel
theorem dX7_isContent_43 : decode cX7_isContent 43 = .ok (.ireturn, 1) := by decide +kernel
theorem dX7_isContent_44 : decode cX7_isContent 44 = .ok (.aload_n 0, 1) := by decide +kernel
theorem dX7_isContent_45 : decode cX7_isContent 45 = .ok (.getfield 21, 3) := by decide +kernel
theorem dX7_isContent_48 : decode cX7_isContent 48 = .ok (.getfield 49, 3) := by decide +kernel
theorem dX7_isContent_51 : decode cX7_isContent 51 = .ok (.iload_n 2, 1) := by decide +kernel
theorem dX7_isContent_52 : decode cX7_isContent 52 = .ok (.iaload, 1) := by decide +kernel
theorem dX7_isContent_53 : decode cX7_isContent 53 = .ok (.iconst 2, 1) := by decide +kernel
theorem dX7_isContent_54 : decode cX7_isContent 54 = .ok (.if_icmp .ne 20, 3) := by decide +kernel
theorem dX7_isContent_57 : decode cX7_isContent 57 = .ok (.aload_n 1, 1) := by decide +kernel
theorem dX7_isContent_58 : decode cX7_isContent 58 = .ok (.iload 4, 2) := by decide +kernel
theorem dX7_isContent_60 : decode cX7_isContent 60 = .ok (.invokevirtual 59, 3) := by decide +kernel
theorem dX7_isContent_63 : decode cX7_isContent 63 = .ok (.aload_n 0, 1) := by decide +kernel
theorem dX7_isContent_64 : decode cX7_isContent 64 = .ok (.getfield 21, 3) := by decide +kernel
theorem dX7_isContent_67 : decode cX7_isContent 67 = .ok (.invokevirtual 104, 3) := by decide +kernel
theorem dX7_isContent_70 : decode cX7_isContent 70 = .ok (.iand, 1) := by decide +kernel
theorem dX7_isContent_71 : decode cX7_isContent 71 = .ok (.ifCond .ne 7, 3) := by decide +kernel
theorem dX7_isContent_74 : decode cX7_isContent 74 = .ok (.iconst 1, 1) := by decide +kernel
theorem dX7_isContent_75 : decode cX7_isContent 75 = .ok (.goto 4, 3) := by decide +kernel
theorem dX7_isContent_78 : decode cX7_isContent 78 = .ok (.iconst 0, 1) := by decide +kernel
theorem dX7_isContent_79 : decode cX7_isContent 79 = .ok (.ireturn, 1) := by decide +kernel
theorem dX7_contentBits_0 : decode cX7_contentBits 0 = .ok (.iconst 0, 1) := by decide +kernel
theorem dX7_contentBits_1 : decode cX7_contentBits 1 = .ok (.istore_n 3, 1) := by decide +kernel
theorem dX7_contentBits_2 : decode cX7_contentBits 2 = .ok (.iconst 0, 1) := by decide +kernel
theorem dX7_contentBits_3 : decode cX7_contentBits 3 = .ok (.istore 4, 2) := by decide +kernel
theorem dX7_contentBits_5 : decode cX7_contentBits 5 = .ok (.iload 4, 2) := by decide +kernel
theorem dX7_contentBits_7 : decode cX7_contentBits 7 = .ok (.aload_n 0, 1) := by decide +kernel
theorem dX7_contentBits_8 : decode cX7_contentBits 8 = .ok (.getfield 21, 3) := by decide +kernel
theorem dX7_contentBits_11 : decode cX7_contentBits 11 = .ok (.getfield 108, 3) := by decide +kernel
theorem dX7_contentBits_14 : decode cX7_contentBits 14 = .ok (.if_icmp .ge 27, 3) := by decide +kernel
theorem dX7_contentBits_17 : decode cX7_contentBits 17 = .ok (.aload_n 0, 1) := by decide +kernel
theorem dX7_contentBits_18 : decode cX7_contentBits 18 = .ok (.aload_n 1, 1) := by decide +kernel
theorem dX7_contentBits_19 : decode cX7_contentBits 19 = .ok (.iload 4, 2) := by decide +kernel
theorem dX7_contentBits_21 : decode cX7_contentBits 21 = .ok (.iload_n 2, 1) := by decide +kernel
theorem dX7_contentBits_22 : decode cX7_contentBits 22 = .ok (.invokevirtual 109, 3) := by decide +kernel
theorem dX7_contentBits_25 : decode cX7_contentBits 25 = .ok (.ifCond .eq 10, 3) := by decide +kernel
theorem dX7_contentBits_28 : decode cX7_contentBits 28 = .ok (.iload_n 3, 1) := by decide +kernel
theorem dX7_contentBits_29 : decode cX7_contentBits 29 = .ok (.iconst 1, 1) := by decide +kernel
theorem dX7_contentBits_30 : decode cX7_contentBits 30 = .ok (.iload 4, 2) := by decide +kernel
theorem dX7_contentBits_32 : decode cX7_contentBits 32 = .ok (.ishl, 1) := by decide +kernel
theorem dX7_contentBits_33 : decode cX7_contentBits 33 = .ok (.ior, 1) := by decide +kernel
theorem dX7_contentBits_34 : decode cX7_contentBits 34 = .ok (.istore_n 3, 1) := by decide +kernel
theorem dX7_contentBits_35 : decode cX7_contentBits 35 = .ok (.iinc 4 1, 3) := by decide +kernel
theorem dX7_contentBits_38 : decode cX7_contentBits 38 = .ok (.goto (-33), 3) := by decide +kernel
theorem dX7_contentBits_41 : decode cX7_contentBits 41 = .ok (.iload_n 3, 1) := by decide +kernel
theorem dX7_contentBits_42 : decode cX7_contentBits 42 = .ok (.ireturn, 1) := by decide +kernel
theorem dX7_leastHeat_0 : decode cX7_leastHeat 0 = .ok (.aload_n 0, 1) := by decide +kernel
theorem dX7_leastHeat_1 : decode cX7_leastHeat 1 = .ok (.aload_n 1, 1) := by decide +kernel
theorem dX7_leastHeat_2 : decode cX7_leastHeat 2 = .ok (.bipush 60, 2) := by decide +kernel
theorem dX7_leastHeat_4 : decode cX7_leastHeat 4 = .ok (.invokevirtual 113, 3) := by decide +kernel
theorem dX7_leastHeat_7 : decode cX7_leastHeat 7 = .ok (.invokestatic 63, 3) := by decide +kernel
theorem dX7_leastHeat_10 : decode cX7_leastHeat 10 = .ok (.istore_n 2, 1) := by decide +kernel
theorem dX7_leastHeat_11 : decode cX7_leastHeat 11 = .ok (.iconst 1, 1) := by decide +kernel
theorem dX7_leastHeat_12 : decode cX7_leastHeat 12 = .ok (.istore_n 3, 1) := by decide +kernel
theorem dX7_leastHeat_13 : decode cX7_leastHeat 13 = .ok (.iload_n 3, 1) := by decide +kernel
theorem dX7_leastHeat_14 : decode cX7_leastHeat 14 = .ok (.bipush 60, 2) := by decide +kernel
theorem dX7_leastHeat_16 : decode cX7_leastHeat 16 = .ok (.if_icmp .ge 24, 3) := by decide +kernel
theorem dX7_leastHeat_19 : decode cX7_leastHeat 19 = .ok (.aload_n 0, 1) := by decide +kernel
theorem dX7_leastHeat_20 : decode cX7_leastHeat 20 = .ok (.aload_n 1, 1) := by decide +kernel
theorem dX7_leastHeat_21 : decode cX7_leastHeat 21 = .ok (.iload_n 3, 1) := by decide +kernel
theorem dX7_leastHeat_22 : decode cX7_leastHeat 22 = .ok (.invokevirtual 113, 3) := by decide +kernel
theorem dX7_leastHeat_25 : decode cX7_leastHeat 25 = .ok (.invokestatic 63, 3) := by decide +kernel
theorem dX7_leastHeat_28 : decode cX7_leastHeat 28 = .ok (.iload_n 2, 1) := by decide +kernel
theorem dX7_leastHeat_29 : decode cX7_leastHeat 29 = .ok (.if_icmp .ne 5, 3) := by decide +kernel
theorem dX7_leastHeat_32 : decode cX7_leastHeat 32 = .ok (.iload_n 3, 1) := by decide +kernel
theorem dX7_leastHeat_33 : decode cX7_leastHeat 33 = .ok (.ireturn, 1) := by decide +kernel
theorem dX7_leastHeat_34 : decode cX7_leastHeat 34 = .ok (.iinc 3 1, 3) := by decide +kernel
theorem dX7_leastHeat_37 : decode cX7_leastHeat 37 = .ok (.goto (-24), 3) := by decide +kernel
theorem dX7_leastHeat_40 : decode cX7_leastHeat 40 = .ok (.bipush 60, 2) := by decide +kernel
theorem dX7_leastHeat_42 : decode cX7_leastHeat 42 = .ok (.ireturn, 1) := by decide +kernel
theorem dX7_rentNow_0 : decode cX7_rentNow 0 = .ok (.iconst 0, 1) := by decide +kernel
theorem dX7_rentNow_1 : decode cX7_rentNow 1 = .ok (.istore_n 2, 1) := by decide +kernel
theorem dX7_rentNow_2 : decode cX7_rentNow 2 = .ok (.iconst 0, 1) := by decide +kernel
theorem dX7_rentNow_3 : decode cX7_rentNow 3 = .ok (.istore_n 3, 1) := by decide +kernel
theorem dX7_rentNow_4 : decode cX7_rentNow 4 = .ok (.iload_n 3, 1) := by decide +kernel
theorem dX7_rentNow_5 : decode cX7_rentNow 5 = .ok (.aload_n 0, 1) := by decide +kernel
theorem dX7_rentNow_6 : decode cX7_rentNow 6 = .ok (.getfield 12, 3) := by decide +kernel
theorem dX7_rentNow_9 : decode cX7_rentNow 9 = .ok (.getfield 71, 3) := by decide +kernel
theorem dX7_rentNow_12 : decode cX7_rentNow 12 = .ok (.if_icmp .ge 30, 3) := by decide +kernel
theorem dX7_rentNow_15 : decode cX7_rentNow 15 = .ok (.iload_n 2, 1) := by decide +kernel
theorem dX7_rentNow_16 : decode cX7_rentNow 16 = .ok (.aload_n 0, 1) := by decide +kernel
theorem dX7_rentNow_17 : decode cX7_rentNow 17 = .ok (.getfield 12, 3) := by decide +kernel
theorem dX7_rentNow_20 : decode cX7_rentNow 20 = .ok (.getfield 116, 3) := by decide +kernel
theorem dX7_rentNow_23 : decode cX7_rentNow 23 = .ok (.iload_n 3, 1) := by decide +kernel
theorem dX7_rentNow_24 : decode cX7_rentNow 24 = .ok (.iaload, 1) := by decide +kernel
theorem dX7_rentNow_25 : decode cX7_rentNow 25 = .ok (.aload_n 1, 1) := by decide +kernel
theorem dX7_rentNow_26 : decode cX7_rentNow 26 = .ok (.iload_n 3, 1) := by decide +kernel
theorem dX7_rentNow_27 : decode cX7_rentNow 27 = .ok (.invokevirtual 59, 3) := by decide +kernel
theorem dX7_rentNow_30 : decode cX7_rentNow 30 = .ok (.invokestatic 63, 3) := by decide +kernel
theorem dX7_rentNow_33 : decode cX7_rentNow 33 = .ok (.imul, 1) := by decide +kernel
theorem dX7_rentNow_34 : decode cX7_rentNow 34 = .ok (.iadd, 1) := by decide +kernel
theorem dX7_rentNow_35 : decode cX7_rentNow 35 = .ok (.istore_n 2, 1) := by decide +kernel
theorem dX7_rentNow_36 : decode cX7_rentNow 36 = .ok (.iinc 3 1, 3) := by decide +kernel
theorem dX7_rentNow_39 : decode cX7_rentNow 39 = .ok (.goto (-35), 3) := by decide +kernel
theorem dX7_rentNow_42 : decode cX7_rentNow 42 = .ok (.iload_n 2, 1) := by decide +kernel
theorem dX7_rentNow_43 : decode cX7_rentNow 43 = .ok (.ireturn, 1) := by decide +kernel
theorem dX7_coalOf_0 : decode cX7_coalOf 0 = .ok (.iconst 0, 1) := by decide +kernel
theorem dX7_coalOf_1 : decode cX7_coalOf 1 = .ok (.istore 4, 2) := by decide +kernel
theorem dX7_coalOf_3 : decode cX7_coalOf 3 = .ok (.iconst 0, 1) := by decide +kernel
theorem dX7_coalOf_4 : decode cX7_coalOf 4 = .ok (.istore 5, 2) := by decide +kernel
theorem dX7_coalOf_6 : decode cX7_coalOf 6 = .ok (.iload 5, 2) := by decide +kernel
theorem dX7_coalOf_8 : decode cX7_coalOf 8 = .ok (.aload_n 0, 1) := by decide +kernel
theorem dX7_coalOf_9 : decode cX7_coalOf 9 = .ok (.getfield 12, 3) := by decide +kernel
theorem dX7_coalOf_12 : decode cX7_coalOf 12 = .ok (.getfield 71, 3) := by decide +kernel
theorem dX7_coalOf_15 : decode cX7_coalOf 15 = .ok (.if_icmp .ge 21, 3) := by decide +kernel
theorem dX7_coalOf_18 : decode cX7_coalOf 18 = .ok (.iload 4, 2) := by decide +kernel
theorem dX7_coalOf_20 : decode cX7_coalOf 20 = .ok (.aload_n 0, 1) := by decide +kernel
theorem dX7_coalOf_21 : decode cX7_coalOf 21 = .ok (.aload_n 1, 1) := by decide +kernel
theorem dX7_coalOf_22 : decode cX7_coalOf 22 = .ok (.iload 5, 2) := by decide +kernel
theorem dX7_coalOf_24 : decode cX7_coalOf 24 = .ok (.invokevirtual 119, 3) := by decide +kernel
theorem dX7_coalOf_27 : decode cX7_coalOf 27 = .ok (.iadd, 1) := by decide +kernel
theorem dX7_coalOf_28 : decode cX7_coalOf 28 = .ok (.istore 4, 2) := by decide +kernel
theorem dX7_coalOf_30 : decode cX7_coalOf 30 = .ok (.iinc 5 1, 3) := by decide +kernel
theorem dX7_coalOf_33 : decode cX7_coalOf 33 = .ok (.goto (-27), 3) := by decide +kernel
theorem dX7_coalOf_36 : decode cX7_coalOf 36 = .ok (.iload 4, 2) := by decide +kernel
theorem dX7_coalOf_38 : decode cX7_coalOf 38 = .ok (.ifCond .gt 5, 3) := by decide +kernel
theorem dX7_coalOf_41 : decode cX7_coalOf 41 = .ok (.iconst 0, 1) := by decide +kernel
theorem dX7_coalOf_42 : decode cX7_coalOf 42 = .ok (.ireturn, 1) := by decide +kernel
theorem dX7_coalOf_43 : decode cX7_coalOf 43 = .ok (.iload_n 3, 1) := by decide +kernel
theorem dX7_coalOf_44 : decode cX7_coalOf 44 = .ok (.istore 5, 2) := by decide +kernel
theorem dX7_coalOf_46 : decode cX7_coalOf 46 = .ok (.iconst 0, 1) := by decide +kernel
theorem dX7_coalOf_47 : decode cX7_coalOf 47 = .ok (.istore 6, 2) := by decide +kernel
theorem dX7_coalOf_49 : decode cX7_coalOf 49 = .ok (.iload 6, 2) := by decide +kernel
theorem dX7_coalOf_51 : decode cX7_coalOf 51 = .ok (.aload_n 0, 1) := by decide +kernel
theorem dX7_coalOf_52 : decode cX7_coalOf 52 = .ok (.getfield 12, 3) := by decide +kernel
theorem dX7_coalOf_55 : decode cX7_coalOf 55 = .ok (.getfield 71, 3) := by decide +kernel
theorem dX7_coalOf_58 : decode cX7_coalOf 58 = .ok (.if_icmp .ge 26, 3) := by decide +kernel
theorem dX7_coalOf_61 : decode cX7_coalOf 61 = .ok (.iload 5, 2) := by decide +kernel
theorem dX7_coalOf_63 : decode cX7_coalOf 63 = .ok (.iload_n 3, 1) := by decide +kernel
theorem dX7_coalOf_64 : decode cX7_coalOf 64 = .ok (.aload_n 0, 1) := by decide +kernel
theorem dX7_coalOf_65 : decode cX7_coalOf 65 = .ok (.aload_n 1, 1) := by decide +kernel
theorem dX7_coalOf_66 : decode cX7_coalOf 66 = .ok (.iload 6, 2) := by decide +kernel
theorem dX7_coalOf_68 : decode cX7_coalOf 68 = .ok (.invokevirtual 119, 3) := by decide +kernel
theorem dX7_coalOf_71 : decode cX7_coalOf 71 = .ok (.imul, 1) := by decide +kernel
theorem dX7_coalOf_72 : decode cX7_coalOf 72 = .ok (.iload 4, 2) := by decide +kernel
theorem dX7_coalOf_74 : decode cX7_coalOf 74 = .ok (.idiv, 1) := by decide +kernel
theorem dX7_coalOf_75 : decode cX7_coalOf 75 = .ok (.isub, 1) := by decide +kernel
theorem dX7_coalOf_76 : decode cX7_coalOf 76 = .ok (.istore 5, 2) := by decide +kernel
theorem dX7_coalOf_78 : decode cX7_coalOf 78 = .ok (.iinc 6 1, 3) := by decide +kernel
theorem dX7_coalOf_81 : decode cX7_coalOf 81 = .ok (.goto (-32), 3) := by decide +kernel
theorem dX7_coalOf_84 : decode cX7_coalOf 84 = .ok (.iload_n 3, 1) := by decide +kernel
theorem dX7_coalOf_85 : decode cX7_coalOf 85 = .ok (.aload_n 0, 1) := by decide +kernel
theorem dX7_coalOf_86 : decode cX7_coalOf 86 = .ok (.aload_n 1, 1) := by decide +kernel
theorem dX7_coalOf_87 : decode cX7_coalOf 87 = .ok (.iload_n 2, 1) := by decide +kernel
theorem dX7_coalOf_88 : decode cX7_coalOf 88 = .ok (.invokevirtual 119, 3) := by decide +kernel
theorem dX7_coalOf_91 : decode cX7_coalOf 91 = .ok (.imul, 1) := by decide +kernel
theorem dX7_coalOf_92 : decode cX7_coalOf 92 = .ok (.istore 6, 2) := by decide +kernel
theorem dX7_coalOf_94 : decode cX7_coalOf 94 = .ok (.iconst 0, 1) := by decide +kernel
theorem dX7_coalOf_95 : decode cX7_coalOf 95 = .ok (.istore 7, 2) := by decide +kernel
theorem dX7_coalOf_97 : decode cX7_coalOf 97 = .ok (.iconst 0, 1) := by decide +kernel
theorem dX7_coalOf_98 : decode cX7_coalOf 98 = .ok (.istore 8, 2) := by decide +kernel
theorem dX7_coalOf_100 : decode cX7_coalOf 100 = .ok (.iload 8, 2) := by decide +kernel
theorem dX7_coalOf_102 : decode cX7_coalOf 102 = .ok (.aload_n 0, 1) := by decide +kernel
theorem dX7_coalOf_103 : decode cX7_coalOf 103 = .ok (.getfield 12, 3) := by decide +kernel
theorem dX7_coalOf_106 : decode cX7_coalOf 106 = .ok (.getfield 71, 3) := by decide +kernel
theorem dX7_coalOf_109 : decode cX7_coalOf 109 = .ok (.if_icmp .ge 52, 3) := by decide +kernel
theorem dX7_coalOf_112 : decode cX7_coalOf 112 = .ok (.iload_n 3, 1) := by decide +kernel
theorem dX7_coalOf_113 : decode cX7_coalOf 113 = .ok (.aload_n 0, 1) := by decide +kernel
theorem dX7_coalOf_114 : decode cX7_coalOf 114 = .ok (.aload_n 1, 1) := by decide +kernel
theorem dX7_coalOf_115 : decode cX7_coalOf 115 = .ok (.iload 8, 2) := by decide +kernel
theorem dX7_coalOf_117 : decode cX7_coalOf 117 = .ok (.invokevirtual 119, 3) := by decide +kernel
theorem dX7_coalOf_120 : decode cX7_coalOf 120 = .ok (.imul, 1) := by decide +kernel
theorem dX7_coalOf_121 : decode cX7_coalOf 121 = .ok (.iload 4, 2) := by decide +kernel
theorem dX7_coalOf_123 : decode cX7_coalOf 123 = .ok (.irem, 1) := by decide +kernel
theorem dX7_coalOf_124 : decode cX7_coalOf 124 = .ok (.istore 9, 2) := by decide +kernel
theorem dX7_coalOf_126 : decode cX7_coalOf 126 = .ok (.iload 9, 2) := by decide +kernel
theorem dX7_coalOf_128 : decode cX7_coalOf 128 = .ok (.iload 6, 2) := by decide +kernel
theorem dX7_coalOf_130 : decode cX7_coalOf 130 = .ok (.iload 4, 2) := by decide +kernel
theorem dX7_coalOf_132 : decode cX7_coalOf 132 = .ok (.irem, 1) := by decide +kernel
theorem dX7_coalOf_133 : decode cX7_coalOf 133 = .ok (.if_icmp .gt 19, 3) := by decide +kernel
theorem dX7_coalOf_136 : decode cX7_coalOf 136 = .ok (.iload 9, 2) := by decide +kernel
theorem dX7_coalOf_138 : decode cX7_coalOf 138 = .ok (.iload 6, 2) := by decide +kernel
theorem dX7_coalOf_140 : decode cX7_coalOf 140 = .ok (.iload 4, 2) := by decide +kernel
theorem dX7_coalOf_142 : decode cX7_coalOf 142 = .ok (.irem, 1) := by decide +kernel
theorem dX7_coalOf_143 : decode cX7_coalOf 143 = .ok (.if_icmp .ne 12, 3) := by decide +kernel
theorem dX7_coalOf_146 : decode cX7_coalOf 146 = .ok (.iload 8, 2) := by decide +kernel
theorem dX7_coalOf_148 : decode cX7_coalOf 148 = .ok (.iload_n 2, 1) := by decide +kernel
theorem dX7_coalOf_149 : decode cX7_coalOf 149 = .ok (.if_icmp .ge 6, 3) := by decide +kernel
theorem dX7_coalOf_152 : decode cX7_coalOf 152 = .ok (.iinc 7 1, 3) := by decide +kernel
theorem dX7_coalOf_155 : decode cX7_coalOf 155 = .ok (.iinc 8 1, 3) := by decide +kernel
theorem dX7_coalOf_158 : decode cX7_coalOf 158 = .ok (.goto (-58), 3) := by decide +kernel
theorem dX7_coalOf_161 : decode cX7_coalOf 161 = .ok (.iload 6, 2) := by decide +kernel
theorem dX7_coalOf_163 : decode cX7_coalOf 163 = .ok (.iload 4, 2) := by decide +kernel
theorem dX7_coalOf_165 : decode cX7_coalOf 165 = .ok (.idiv, 1) := by decide +kernel
theorem dX7_coalOf_166 : decode cX7_coalOf 166 = .ok (.iload 7, 2) := by decide +kernel
theorem dX7_coalOf_168 : decode cX7_coalOf 168 = .ok (.iload 5, 2) := by decide +kernel
theorem dX7_coalOf_170 : decode cX7_coalOf 170 = .ok (.if_icmp .ge 7, 3) := by decide +kernel
theorem dX7_coalOf_173 : decode cX7_coalOf 173 = .ok (.iconst 1, 1) := by decide +kernel
theorem dX7_coalOf_174 : decode cX7_coalOf 174 = .ok (.goto 4, 3) := by decide +kernel
theorem dX7_coalOf_177 : decode cX7_coalOf 177 = .ok (.iconst 0, 1) := by decide +kernel
theorem dX7_coalOf_178 : decode cX7_coalOf 178 = .ok (.iadd, 1) := by decide +kernel
theorem dX7_coalOf_179 : decode cX7_coalOf 179 = .ok (.ireturn, 1) := by decide +kernel
theorem dX7_coalWeight_0 : decode cX7_coalWeight 0 = .ok (.aload_n 0, 1) := by decide +kernel
theorem dX7_coalWeight_1 : decode cX7_coalWeight 1 = .ok (.getfield 12, 3) := by decide +kernel
theorem dX7_coalWeight_4 : decode cX7_coalWeight 4 = .ok (.iload_n 2, 1) := by decide +kernel
theorem dX7_coalWeight_5 : decode cX7_coalWeight 5 = .ok (.aload_n 0, 1) := by decide +kernel
theorem dX7_coalWeight_6 : decode cX7_coalWeight 6 = .ok (.getfield 12, 3) := by decide +kernel
theorem dX7_coalWeight_9 : decode cX7_coalWeight 9 = .ok (.getfield 79, 3) := by decide +kernel
theorem dX7_coalWeight_12 : decode cX7_coalWeight 12 = .ok (.invokevirtual 82, 3) := by decide +kernel
theorem dX7_coalWeight_15 : decode cX7_coalWeight 15 = .ok (.aload_n 1, 1) := by decide +kernel
theorem dX7_coalWeight_16 : decode cX7_coalWeight 16 = .ok (.iload_n 2, 1) := by decide +kernel
theorem dX7_coalWeight_17 : decode cX7_coalWeight 17 = .ok (.invokevirtual 59, 3) := by decide +kernel
theorem dX7_coalWeight_20 : decode cX7_coalWeight 20 = .ok (.invokestatic 63, 3) := by decide +kernel
theorem dX7_coalWeight_23 : decode cX7_coalWeight 23 = .ok (.imul, 1) := by decide +kernel
theorem dX7_coalWeight_24 : decode cX7_coalWeight 24 = .ok (.ireturn, 1) := by decide +kernel
theorem dX7_reseat_0 : decode cX7_reseat 0 = .ok (.aload_n 0, 1) := by decide +kernel
theorem dX7_reseat_1 : decode cX7_reseat 1 = .ok (.getfield 21, 3) := by decide +kernel
theorem dX7_reseat_4 : decode cX7_reseat 4 = .ok (.getfield 108, 3) := by decide +kernel
theorem dX7_reseat_7 : decode cX7_reseat 7 = .ok (.ifCond .le 13, 3) := by decide +kernel
theorem dX7_reseat_10 : decode cX7_reseat 10 = .ok (.aload_n 0, 1) := by decide +kernel
theorem dX7_reseat_11 : decode cX7_reseat 11 = .ok (.getfield 12, 3) := by decide +kernel
theorem dX7_reseat_14 : decode cX7_reseat 14 = .ok (.getfield 71, 3) := by decide +kernel
theorem dX7_reseat_17 : decode cX7_reseat 17 = .ok (.ifCond .gt 4, 3) := by decide +kernel
theorem dX7_reseat_20 : decode cX7_reseat 20 = .ok (.return_, 1) := by decide +kernel
theorem dX7_reseat_21 : decode cX7_reseat 21 = .ok (.iload_n 2, 1) := by decide +kernel
theorem dX7_reseat_22 : decode cX7_reseat 22 = .ok (.aload_n 0, 1) := by decide +kernel
theorem dX7_reseat_23 : decode cX7_reseat 23 = .ok (.getfield 21, 3) := by decide +kernel
theorem dX7_reseat_26 : decode cX7_reseat 26 = .ok (.getfield 108, 3) := by decide +kernel
theorem dX7_reseat_29 : decode cX7_reseat 29 = .ok (.invokestatic 122, 3) := by decide +kernel
theorem dX7_reseat_32 : decode cX7_reseat 32 = .ok (.istore 4, 2) := by decide +kernel
theorem dX7_reseat_34 : decode cX7_reseat 34 = .ok (.iload_n 3, 1) := by decide +kernel
theorem dX7_reseat_35 : decode cX7_reseat 35 = .ok (.aload_n 0, 1) := by decide +kernel
theorem dX7_reseat_36 : decode cX7_reseat 36 = .ok (.getfield 12, 3) := by decide +kernel
theorem dX7_reseat_39 : decode cX7_reseat 39 = .ok (.getfield 71, 3) := by decide +kernel
theorem dX7_reseat_42 : decode cX7_reseat 42 = .ok (.invokestatic 122, 3) := by decide +kernel
theorem dX7_reseat_45 : decode cX7_reseat 45 = .ok (.istore 5, 2) := by decide +kernel
theorem dX7_reseat_47 : decode cX7_reseat 47 = .ok (.aload_n 1, 1) := by decide +kernel
theorem dX7_reseat_48 : decode cX7_reseat 48 = .ok (.getfield 97, 3) := by decide +kernel
theorem dX7_reseat_51 : decode cX7_reseat 51 = .ok (.iload 4, 2) := by decide +kernel
theorem dX7_reseat_53 : decode cX7_reseat 53 = .ok (.bipush (-2), 2) := by decide +kernel
theorem dX7_reseat_55 : decode cX7_reseat 55 = .ok (.iastore, 1) := by decide +kernel
theorem dX7_reseat_56 : decode cX7_reseat 56 = .ok (.aload_n 0, 1) := by decide +kernel
theorem dX7_reseat_57 : decode cX7_reseat 57 = .ok (.iload 4, 2) := by decide +kernel
theorem dX7_reseat_59 : decode cX7_reseat 59 = .ok (.iload 5, 2) := by decide +kernel
theorem dX7_reseat_61 : decode cX7_reseat 61 = .ok (.invokevirtual 75, 3) := by decide +kernel
theorem dX7_reseat_64 : decode cX7_reseat 64 = .ok (.ifCond .eq 22, 3) := by decide +kernel
theorem dX7_reseat_67 : decode cX7_reseat 67 = .ok (.aload_n 0, 1) := by decide +kernel
theorem dX7_reseat_68 : decode cX7_reseat 68 = .ok (.aload_n 1, 1) := by decide +kernel
theorem dX7_reseat_69 : decode cX7_reseat 69 = .ok (.iload 5, 2) := by decide +kernel
theorem dX7_reseat_71 : decode cX7_reseat 71 = .ok (.invokevirtual 89, 3) := by decide +kernel
theorem dX7_reseat_74 : decode cX7_reseat 74 = .ok (.ifCond .eq 12, 3) := by decide +kernel
theorem dX7_reseat_77 : decode cX7_reseat 77 = .ok (.aload_n 1, 1) := by decide +kernel
theorem dX7_reseat_78 : decode cX7_reseat 78 = .ok (.getfield 97, 3) := by decide +kernel
theorem dX7_reseat_81 : decode cX7_reseat 81 = .ok (.iload 4, 2) := by decide +kernel
theorem dX7_reseat_83 : decode cX7_reseat 83 = .ok (.iload 5, 2) := by decide +kernel
theorem dX7_reseat_85 : decode cX7_reseat 85 = .ok (.iastore, 1) := by decide +kernel
theorem dX7_reseat_86 : decode cX7_reseat 86 = .ok (.return_, 1) := by decide +kernel
theorem dX8_init_0 : decode cX8_init 0 = .ok (.aload_n 0, 1) := by decide +kernel
theorem dX8_init_1 : decode cX8_init 1 = .ok (.invokespecial 3, 3) := by decide +kernel
theorem dX8_init_4 : decode cX8_init 4 = .ok (.aload_n 0, 1) := by decide +kernel
theorem dX8_init_5 : decode cX8_init 5 = .ok (.sipush 1000, 3) := by decide +kernel
theorem dX8_init_8 : decode cX8_init 8 = .ok (.newarray .byte, 2) := by decide +kernel
theorem dX8_init_10 : decode cX8_init 10 = .ok (.putfield 9, 3) := by decide +kernel
theorem dX8_init_13 : decode cX8_init 13 = .ok (.return_, 1) := by decide +kernel
theorem dX8_append_0 : decode cX8_append 0 = .ok (.bipush 24, 2) := by decide +kernel
theorem dX8_append_2 : decode cX8_append 2 = .ok (.istore_n 2, 1) := by decide +kernel
theorem dX8_append_3 : decode cX8_append 3 = .ok (.iload_n 2, 1) := by decide +kernel
theorem dX8_append_4 : decode cX8_append 4 = .ok (.ifCond .lt 42, 3) := by decide +kernel
theorem dX8_append_7 : decode cX8_append 7 = .ok (.aload_n 0, 1) := by decide +kernel
theorem dX8_append_8 : decode cX8_append 8 = .ok (.getfield 15, 3) := by decide +kernel
theorem dX8_append_11 : decode cX8_append 11 = .ok (.sipush 1000, 3) := by decide +kernel
theorem dX8_append_14 : decode cX8_append 14 = .ok (.if_icmp .ge 26, 3) := by decide +kernel
theorem dX8_append_17 : decode cX8_append 17 = .ok (.aload_n 0, 1) := by decide +kernel
theorem dX8_append_18 : decode cX8_append 18 = .ok (.getfield 9, 3) := by decide +kernel
theorem dX8_append_21 : decode cX8_append 21 = .ok (.aload_n 0, 1) := by decide +kernel
theorem dX8_append_22 : decode cX8_append 22 = .ok (.getfield 15, 3) := by decide +kernel
theorem dX8_append_25 : decode cX8_append 25 = .ok (.iload_n 1, 1) := by decide +kernel
theorem dX8_append_26 : decode cX8_append 26 = .ok (.iload_n 2, 1) := by decide +kernel
theorem dX8_append_27 : decode cX8_append 27 = .ok (.ishr, 1) := by decide +kernel
theorem dX8_append_28 : decode cX8_append 28 = .ok (.i2b, 1) := by decide +kernel
theorem dX8_append_29 : decode cX8_append 29 = .ok (.bastore, 1) := by decide +kernel
theorem dX8_append_30 : decode cX8_append 30 = .ok (.aload_n 0, 1) := by decide +kernel
theorem dX8_append_31 : decode cX8_append 31 = .ok (.dup, 1) := by decide +kernel
theorem dX8_append_32 : decode cX8_append 32 = .ok (.getfield 15, 3) := by decide +kernel
theorem dX8_append_35 : decode cX8_append 35 = .ok (.iconst 1, 1) := by decide +kernel
theorem dX8_append_36 : decode cX8_append 36 = .ok (.iadd, 1) := by decide +kernel
theorem dX8_append_37 : decode cX8_append 37 = .ok (.putfield 15, 3) := by decide +kernel
theorem dX8_append_40 : decode cX8_append 40 = .ok (.iinc 2 (-8), 3) := by decide +kernel
theorem dX8_append_43 : decode cX8_append 43 = .ok (.goto (-40), 3) := by decide +kernel
theorem dX8_append_46 : decode cX8_append 46 = .ok (.return_, 1) := by decide +kernel
theorem dX8_begin_0 : decode cX8_begin 0 = .ok (.aload_n 0, 1) := by decide +kernel
theorem dX8_begin_1 : decode cX8_begin 1 = .ok (.iconst 0, 1) := by decide +kernel
theorem dX8_begin_2 : decode cX8_begin 2 = .ok (.iload_n 1, 1) := by decide +kernel
theorem dX8_begin_3 : decode cX8_begin 3 = .ok (.aload_n 0, 1) := by decide +kernel
theorem dX8_begin_4 : decode cX8_begin 4 = .ok (.getfield 15, 3) := by decide +kernel
theorem dX8_begin_7 : decode cX8_begin 7 = .ok (.invokestatic 19, 3) := by decide +kernel
theorem dX8_begin_10 : decode cX8_begin 10 = .ok (.invokestatic 25, 3) := by decide +kernel
theorem dX8_begin_13 : decode cX8_begin 13 = .ok (.putfield 28, 3) := by decide +kernel
theorem dX8_begin_16 : decode cX8_begin 16 = .ok (.aload_n 0, 1) := by decide +kernel
theorem dX8_begin_17 : decode cX8_begin 17 = .ok (.iconst 0, 1) := by decide +kernel
theorem dX8_begin_18 : decode cX8_begin 18 = .ok (.putfield 31, 3) := by decide +kernel
theorem dX8_begin_21 : decode cX8_begin 21 = .ok (.aload_n 0, 1) := by decide +kernel
theorem dX8_begin_22 : decode cX8_begin 22 = .ok (.invokevirtual 34, 3) := by decide +kernel
theorem dX8_begin_25 : decode cX8_begin 25 = .ok (.return_, 1) := by decide +kernel
theorem dX8_step_0 : decode cX8_step 0 = .ok (.aload_n 0, 1) := by decide +kernel
theorem dX8_step_1 : decode cX8_step 1 = .ok (.getfield 31, 3) := by decide +kernel
theorem dX8_step_4 : decode cX8_step 4 = .ok (.aload_n 0, 1) := by decide +kernel
theorem dX8_step_5 : decode cX8_step 5 = .ok (.getfield 28, 3) := by decide +kernel
theorem dX8_step_8 : decode cX8_step 8 = .ok (.if_icmp .ge 30, 3) := by decide +kernel
theorem dX8_step_11 : decode cX8_step 11 = .ok (.aload_n 0, 1) := by decide +kernel
theorem dX8_step_12 : decode cX8_step 12 = .ok (.getfield 9, 3) := by decide +kernel
theorem dX8_step_15 : decode cX8_step 15 = .ok (.aload_n 0, 1) := by decide +kernel
theorem dX8_step_16 : decode cX8_step 16 = .ok (.getfield 31, 3) := by decide +kernel
theorem dX8_step_19 : decode cX8_step 19 = .ok (.baload, 1) := by decide +kernel
theorem dX8_step_20 : decode cX8_step 20 = .ok (.bipush 32, 2) := by decide +kernel
theorem dX8_step_22 : decode cX8_step 22 = .ok (.if_icmp .ne 16, 3) := by decide +kernel
theorem dX8_step_25 : decode cX8_step 25 = .ok (.aload_n 0, 1) := by decide +kernel
theorem dX8_step_26 : decode cX8_step 26 = .ok (.dup, 1) := by decide +kernel
theorem dX8_step_27 : decode cX8_step 27 = .ok (.getfield 31, 3) := by decide +kernel
theorem dX8_step_30 : decode cX8_step 30 = .ok (.iconst 1, 1) := by decide +kernel
theorem dX8_step_31 : decode cX8_step 31 = .ok (.iadd, 1) := by decide +kernel
theorem dX8_step_32 : decode cX8_step 32 = .ok (.putfield 31, 3) := by decide +kernel
theorem dX8_step_35 : decode cX8_step 35 = .ok (.goto (-35), 3) := by decide +kernel
theorem dX8_step_38 : decode cX8_step 38 = .ok (.aload_n 0, 1) := by decide +kernel
theorem dX8_step_39 : decode cX8_step 39 = .ok (.aload_n 0, 1) := by decide +kernel
theorem dX8_step_40 : decode cX8_step 40 = .ok (.getfield 31, 3) := by decide +kernel
theorem dX8_step_43 : decode cX8_step 43 = .ok (.putfield 37, 3) := by decide +kernel
theorem dX8_step_46 : decode cX8_step 46 = .ok (.aload_n 0, 1) := by decide +kernel
theorem dX8_step_47 : decode cX8_step 47 = .ok (.getfield 31, 3) := by decide +kernel
theorem dX8_step_50 : decode cX8_step 50 = .ok (.aload_n 0, 1) := by decide +kernel
theorem dX8_step_51 : decode cX8_step 51 = .ok (.getfield 28, 3) := by decide +kernel
theorem dX8_step_54 : decode cX8_step 54 = .ok (.if_icmp .lt 11, 3) := by decide +kernel
theorem dX8_step_57 : decode cX8_step 57 = .ok (.aload_n 0, 1) := by decide +kernel
theorem dX8_step_58 : decode cX8_step 58 = .ok (.iconst 0, 1) := by decide +kernel
theorem dX8_step_59 : decode cX8_step 59 = .ok (.putfield 40, 3) := by decide +kernel
theorem dX8_step_62 : decode cX8_step 62 = .ok (.goto 106, 3) := by decide +kernel
theorem dX8_step_65 : decode cX8_step 65 = .ok (.aload_n 0, 1) := by decide +kernel
theorem dX8_step_66 : decode cX8_step 66 = .ok (.getfield 9, 3) := by decide +kernel
theorem dX8_step_69 : decode cX8_step 69 = .ok (.aload_n 0, 1) := by decide +kernel
theorem dX8_step_70 : decode cX8_step 70 = .ok (.getfield 31, 3) := by decide +kernel
theorem dX8_step_73 : decode cX8_step 73 = .ok (.baload, 1) := by decide +kernel
theorem dX8_step_74 : decode cX8_step 74 = .ok (.bipush 97, 2) := by decide +kernel
theorem dX8_step_76 : decode cX8_step 76 = .ok (.if_icmp .lt 24, 3) := by decide +kernel
theorem dX8_step_79 : decode cX8_step 79 = .ok (.aload_n 0, 1) := by decide +kernel
theorem dX8_step_80 : decode cX8_step 80 = .ok (.getfield 9, 3) := by decide +kernel
theorem dX8_step_83 : decode cX8_step 83 = .ok (.aload_n 0, 1) := by decide +kernel
theorem dX8_step_84 : decode cX8_step 84 = .ok (.getfield 31, 3) := by decide +kernel
theorem dX8_step_87 : decode cX8_step 87 = .ok (.baload, 1) := by decide +kernel
theorem dX8_step_88 : decode cX8_step 88 = .ok (.bipush 122, 2) := by decide +kernel
theorem dX8_step_90 : decode cX8_step 90 = .ok (.if_icmp .gt 10, 3) := by decide +kernel
theorem dX8_step_93 : decode cX8_step 93 = .ok (.aload_n 0, 1) := by decide +kernel
theorem dX8_step_94 : decode cX8_step 94 = .ok (.invokevirtual 43, 3) := by decide +kernel
theorem dX8_step_97 : decode cX8_step 97 = .ok (.goto 71, 3) := by decide +kernel
theorem dX8_step_100 : decode cX8_step 100 = .ok (.aload_n 0, 1) := by decide +kernel
theorem dX8_step_101 : decode cX8_step 101 = .ok (.getfield 9, 3) := by decide +kernel
theorem dX8_step_104 : decode cX8_step 104 = .ok (.aload_n 0, 1) := by decide +kernel
theorem dX8_step_105 : decode cX8_step 105 = .ok (.getfield 31, 3) := by decide +kernel
theorem dX8_step_108 : decode cX8_step 108 = .ok (.baload, 1) := by decide +kernel
theorem dX8_step_109 : decode cX8_step 109 = .ok (.bipush 48, 2) := by decide +kernel
theorem dX8_step_111 : decode cX8_step 111 = .ok (.if_icmp .lt 24, 3) := by decide +kernel
theorem dX8_step_114 : decode cX8_step 114 = .ok (.aload_n 0, 1) := by decide +kernel
theorem dX8_step_115 : decode cX8_step 115 = .ok (.getfield 9, 3) := by decide +kernel
theorem dX8_step_118 : decode cX8_step 118 = .ok (.aload_n 0, 1) := by decide +kernel
theorem dX8_step_119 : decode cX8_step 119 = .ok (.getfield 31, 3) := by decide +kernel
theorem dX8_step_122 : decode cX8_step 122 = .ok (.baload, 1) := by decide +kernel
theorem dX8_step_123 : decode cX8_step 123 = .ok (.bipush 57, 2) := by decide +kernel
theorem dX8_step_125 : decode cX8_step 125 = .ok (.if_icmp .gt 10, 3) := by decide +kernel
theorem dX8_step_128 : decode cX8_step 128 = .ok (.aload_n 0, 1) := by decide +kernel
theorem dX8_step_129 : decode cX8_step 129 = .ok (.invokevirtual 46, 3) := by decide +kernel
theorem dX8_step_132 : decode cX8_step 132 = .ok (.goto 36, 3) := by decide +kernel
theorem dX8_step_135 : decode cX8_step 135 = .ok (.aload_n 0, 1) := by decide +kernel
theorem dX8_step_136 : decode cX8_step 136 = .ok (.aload_n 0, 1) := by decide +kernel
theorem dX8_step_137 : decode cX8_step 137 = .ok (.getfield 9, 3) := by decide +kernel
theorem dX8_step_140 : decode cX8_step 140 = .ok (.aload_n 0, 1) := by decide +kernel
theorem dX8_step_141 : decode cX8_step 141 = .ok (.getfield 31, 3) := by decide +kernel
theorem dX8_step_144 : decode cX8_step 144 = .ok (.baload, 1) := by decide +kernel
theorem dX8_step_145 : decode cX8_step 145 = .ok (.bipush 59, 2) := by decide +kernel
theorem dX8_step_147 : decode cX8_step 147 = .ok (.if_icmp .ne 7, 3) := by decide +kernel
theorem dX8_step_150 : decode cX8_step 150 = .ok (.iconst 3, 1) := by decide +kernel
theorem dX8_step_151 : decode cX8_step 151 = .ok (.goto 4, 3) := by decide +kernel
theorem dX8_step_154 : decode cX8_step 154 = .ok (.iconst 4, 1) := by decide +kernel
theorem dX8_step_155 : decode cX8_step 155 = .ok (.putfield 40, 3) := by decide +kernel
theorem dX8_step_158 : decode cX8_step 158 = .ok (.aload_n 0, 1) := by decide +kernel
theorem dX8_step_159 : decode cX8_step 159 = .ok (.dup, 1) := by decide +kernel
theorem dX8_step_160 : decode cX8_step 160 = .ok (.getfield 31, 3) := by decide +kernel
theorem dX8_step_163 : decode cX8_step 163 = .ok (.iconst 1, 1) := by decide +kernel
theorem dX8_step_164 : decode cX8_step 164 = .ok (.iadd, 1) := by decide +kernel
theorem dX8_step_165 : decode cX8_step 165 = .ok (.putfield 31, 3) := by decide +kernel
theorem dX8_step_168 : decode cX8_step 168 = .ok (.return_, 1) := by decide +kernel
theorem dX8_readWord_0 : decode cX8_readWord 0 = .ok (.aload_n 0, 1) := by decide +kernel
theorem dX8_readWord_1 : decode cX8_readWord 1 = .ok (.lconst 0, 1) := by decide +kernel
theorem dX8_readWord_2 : decode cX8_readWord 2 = .ok (.putfield 49, 3) := by decide +kernel
theorem dX8_readWord_5 : decode cX8_readWord 5 = .ok (.aload_n 0, 1) := by decide +kernel
theorem dX8_readWord_6 : decode cX8_readWord 6 = .ok (.getfield 31, 3) := by decide +kernel
theorem dX8_readWord_9 : decode cX8_readWord 9 = .ok (.aload_n 0, 1) := by decide +kernel
theorem dX8_readWord_10 : decode cX8_readWord 10 = .ok (.getfield 28, 3) := by decide +kernel
theorem dX8_readWord_13 : decode cX8_readWord 13 = .ok (.if_icmp .ge 70, 3) := by decide +kernel
theorem dX8_readWord_16 : decode cX8_readWord 16 = .ok (.aload_n 0, 1) := by decide +kernel
theorem dX8_readWord_17 : decode cX8_readWord 17 = .ok (.getfield 9, 3) := by decide +kernel
theorem dX8_readWord_20 : decode cX8_readWord 20 = .ok (.aload_n 0, 1) := by decide +kernel
theorem dX8_readWord_21 : decode cX8_readWord 21 = .ok (.getfield 31, 3) := by decide +kernel
theorem dX8_readWord_24 : decode cX8_readWord 24 = .ok (.baload, 1) := by decide +kernel
theorem dX8_readWord_25 : decode cX8_readWord 25 = .ok (.bipush 97, 2) := by decide +kernel
theorem dX8_readWord_27 : decode cX8_readWord 27 = .ok (.if_icmp .lt 56, 3) := by decide +kernel
theorem dX8_readWord_30 : decode cX8_readWord 30 = .ok (.aload_n 0, 1) := by decide +kernel
theorem dX8_readWord_31 : decode cX8_readWord 31 = .ok (.getfield 9, 3) := by decide +kernel
theorem dX8_readWord_34 : decode cX8_readWord 34 = .ok (.aload_n 0, 1) := by decide +kernel
theorem dX8_readWord_35 : decode cX8_readWord 35 = .ok (.getfield 31, 3) := by decide +kernel
theorem dX8_readWord_38 : decode cX8_readWord 38 = .ok (.baload, 1) := by decide +kernel
theorem dX8_readWord_39 : decode cX8_readWord 39 = .ok (.bipush 122, 2) := by decide +kernel
theorem dX8_readWord_41 : decode cX8_readWord 41 = .ok (.if_icmp .gt 42, 3) := by decide +kernel
theorem dX8_readWord_44 : decode cX8_readWord 44 = .ok (.aload_n 0, 1) := by decide +kernel
theorem dX8_readWord_45 : decode cX8_readWord 45 = .ok (.ldc2_w 53, 3) := by decide +kernel
theorem dX8_readWord_48 : decode cX8_readWord 48 = .ok (.aload_n 0, 1) := by decide +kernel
theorem dX8_readWord_49 : decode cX8_readWord 49 = .ok (.getfield 49, 3) := by decide +kernel
theorem dX8_readWord_52 : decode cX8_readWord 52 = .ok (.lmul, 1) := by decide +kernel
theorem dX8_readWord_53 : decode cX8_readWord 53 = .ok (.aload_n 0, 1) := by decide +kernel
theorem dX8_readWord_54 : decode cX8_readWord 54 = .ok (.getfield 9, 3) := by decide +kernel
theorem dX8_readWord_57 : decode cX8_readWord 57 = .ok (.aload_n 0, 1) := by decide +kernel
theorem dX8_readWord_58 : decode cX8_readWord 58 = .ok (.getfield 31, 3) := by decide +kernel
theorem dX8_readWord_61 : decode cX8_readWord 61 = .ok (.baload, 1) := by decide +kernel
theorem dX8_readWord_62 : decode cX8_readWord 62 = .ok (.bipush 96, 2) := by decide +kernel
theorem dX8_readWord_64 : decode cX8_readWord 64 = .ok (.isub, 1) := by decide +kernel
theorem dX8_readWord_65 : decode cX8_readWord 65 = .ok (.i2l, 1) := by decide +kernel
theorem dX8_readWord_66 : decode cX8_readWord 66 = .ok (.ladd, 1) := by decide +kernel
theorem dX8_readWord_67 : decode cX8_readWord 67 = .ok (.putfield 49, 3) := by decide +kernel
theorem dX8_readWord_70 : decode cX8_readWord 70 = .ok (.aload_n 0, 1) := by decide +kernel
theorem dX8_readWord_71 : decode cX8_readWord 71 = .ok (.dup, 1) := by decide +kernel
theorem dX8_readWord_72 : decode cX8_readWord 72 = .ok (.getfield 31, 3) := by decide +kernel
theorem dX8_readWord_75 : decode cX8_readWord 75 = .ok (.iconst 1, 1) := by decide +kernel
theorem dX8_readWord_76 : decode cX8_readWord 76 = .ok (.iadd, 1) := by decide +kernel
theorem dX8_readWord_77 : decode cX8_readWord 77 = .ok (.putfield 31, 3) := by decide +kernel
theorem dX8_readWord_80 : decode cX8_readWord 80 = .ok (.goto (-75), 3) := by decide +kernel
theorem dX8_readWord_83 : decode cX8_readWord 83 = .ok (.aload_n 0, 1) := by decide +kernel
theorem dX8_readWord_84 : decode cX8_readWord 84 = .ok (.aload_n 0, 1) := by decide +kernel
theorem dX8_readWord_85 : decode cX8_readWord 85 = .ok (.getfield 31, 3) := by decide +kernel
theorem dX8_readWord_88 : decode cX8_readWord 88 = .ok (.aload_n 0, 1) := by decide +kernel
theorem dX8_readWord_89 : decode cX8_readWord 89 = .ok (.getfield 37, 3) := by decide +kernel
theorem dX8_readWord_92 : decode cX8_readWord 92 = .ok (.isub, 1) := by decide +kernel
theorem dX8_readWord_93 : decode cX8_readWord 93 = .ok (.bipush 8, 2) := by decide +kernel
theorem dX8_readWord_95 : decode cX8_readWord 95 = .ok (.if_icmp .gt 7, 3) := by decide +kernel
theorem dX8_readWord_98 : decode cX8_readWord 98 = .ok (.iconst 1, 1) := by decide +kernel
theorem dX8_readWord_99 : decode cX8_readWord 99 = .ok (.goto 4, 3) := by decide +kernel
theorem dX8_readWord_102 : decode cX8_readWord 102 = .ok (.iconst 4, 1) := by decide +kernel
theorem dX8_readWord_103 : decode cX8_readWord 103 = .ok (.putfield 40, 3) := by decide +kernel
theorem dX8_readWord_106 : decode cX8_readWord 106 = .ok (.return_, 1) := by decide +kernel
theorem dX8_readWhole_0 : decode cX8_readWhole 0 = .ok (.aload_n 0, 1) := by decide +kernel
theorem dX8_readWhole_1 : decode cX8_readWhole 1 = .ok (.iconst 0, 1) := by decide +kernel
theorem dX8_readWhole_2 : decode cX8_readWhole 2 = .ok (.putfield 55, 3) := by decide +kernel
theorem dX8_readWhole_5 : decode cX8_readWhole 5 = .ok (.aload_n 0, 1) := by decide +kernel
theorem dX8_readWhole_6 : decode cX8_readWhole 6 = .ok (.getfield 31, 3) := by decide +kernel
theorem dX8_readWhole_9 : decode cX8_readWhole 9 = .ok (.aload_n 0, 1) := by decide +kernel
theorem dX8_readWhole_10 : decode cX8_readWhole 10 = .ok (.getfield 28, 3) := by decide +kernel
theorem dX8_readWhole_13 : decode cX8_readWhole 13 = .ok (.if_icmp .ge 68, 3) := by decide +kernel
theorem dX8_readWhole_16 : decode cX8_readWhole 16 = .ok (.aload_n 0, 1) := by decide +kernel
theorem dX8_readWhole_17 : decode cX8_readWhole 17 = .ok (.getfield 9, 3) := by decide +kernel
theorem dX8_readWhole_20 : decode cX8_readWhole 20 = .ok (.aload_n 0, 1) := by decide +kernel
theorem dX8_readWhole_21 : decode cX8_readWhole 21 = .ok (.getfield 31, 3) := by decide +kernel
theorem dX8_readWhole_24 : decode cX8_readWhole 24 = .ok (.baload, 1) := by decide +kernel
theorem dX8_readWhole_25 : decode cX8_readWhole 25 = .ok (.bipush 48, 2) := by decide +kernel
theorem dX8_readWhole_27 : decode cX8_readWhole 27 = .ok (.if_icmp .lt 54, 3) := by decide +kernel
theorem dX8_readWhole_30 : decode cX8_readWhole 30 = .ok (.aload_n 0, 1) := by decide +kernel
theorem dX8_readWhole_31 : decode cX8_readWhole 31 = .ok (.getfield 9, 3) := by decide +kernel
theorem dX8_readWhole_34 : decode cX8_readWhole 34 = .ok (.aload_n 0, 1) := by decide +kernel
theorem dX8_readWhole_35 : decode cX8_readWhole 35 = .ok (.getfield 31, 3) := by decide +kernel
theorem dX8_readWhole_38 : decode cX8_readWhole 38 = .ok (.baload, 1) := by decide +kernel
theorem dX8_readWhole_39 : decode cX8_readWhole 39 = .ok (.bipush 57, 2) := by decide +kernel
theorem dX8_readWhole_41 : decode cX8_readWhole 41 = .ok (.if_icmp .gt 40, 3) := by decide +kernel
theorem dX8_readWhole_44 : decode cX8_readWhole 44 = .ok (.aload_n 0, 1) := by decide +kernel
theorem dX8_readWhole_45 : decode cX8_readWhole 45 = .ok (.bipush 10, 2) := by decide +kernel
theorem dX8_readWhole_47 : decode cX8_readWhole 47 = .ok (.aload_n 0, 1) := by decide +kernel
theorem dX8_readWhole_48 : decode cX8_readWhole 48 = .ok (.getfield 55, 3) := by decide +kernel
theorem dX8_readWhole_51 : decode cX8_readWhole 51 = .ok (.imul, 1) := by decide +kernel
theorem dX8_readWhole_52 : decode cX8_readWhole 52 = .ok (.aload_n 0, 1) := by decide +kernel
theorem dX8_readWhole_53 : decode cX8_readWhole 53 = .ok (.getfield 9, 3) := by decide +kernel
theorem dX8_readWhole_56 : decode cX8_readWhole 56 = .ok (.aload_n 0, 1) := by decide +kernel
theorem dX8_readWhole_57 : decode cX8_readWhole 57 = .ok (.getfield 31, 3) := by decide +kernel
theorem dX8_readWhole_60 : decode cX8_readWhole 60 = .ok (.baload, 1) := by decide +kernel
theorem dX8_readWhole_61 : decode cX8_readWhole 61 = .ok (.bipush 48, 2) := by decide +kernel
theorem dX8_readWhole_63 : decode cX8_readWhole 63 = .ok (.isub, 1) := by decide +kernel
theorem dX8_readWhole_64 : decode cX8_readWhole 64 = .ok (.iadd, 1) := by decide +kernel
theorem dX8_readWhole_65 : decode cX8_readWhole 65 = .ok (.putfield 55, 3) := by decide +kernel
theorem dX8_readWhole_68 : decode cX8_readWhole 68 = .ok (.aload_n 0, 1) := by decide +kernel
theorem dX8_readWhole_69 : decode cX8_readWhole 69 = .ok (.dup, 1) := by decide +kernel
theorem dX8_readWhole_70 : decode cX8_readWhole 70 = .ok (.getfield 31, 3) := by decide +kernel
theorem dX8_readWhole_73 : decode cX8_readWhole 73 = .ok (.iconst 1, 1) := by decide +kernel
theorem dX8_readWhole_74 : decode cX8_readWhole 74 = .ok (.iadd, 1) := by decide +kernel
theorem dX8_readWhole_75 : decode cX8_readWhole 75 = .ok (.putfield 31, 3) := by decide +kernel
theorem dX8_readWhole_78 : decode cX8_readWhole 78 = .ok (.goto (-73), 3) := by decide +kernel
theorem dX8_readWhole_81 : decode cX8_readWhole 81 = .ok (.aload_n 0, 1) := by decide +kernel
theorem dX8_readWhole_82 : decode cX8_readWhole 82 = .ok (.aload_n 0, 1) := by decide +kernel
theorem dX8_readWhole_83 : decode cX8_readWhole 83 = .ok (.getfield 31, 3) := by decide +kernel
theorem dX8_readWhole_86 : decode cX8_readWhole 86 = .ok (.aload_n 0, 1) := by decide +kernel
theorem dX8_readWhole_87 : decode cX8_readWhole 87 = .ok (.getfield 37, 3) := by decide +kernel
theorem dX8_readWhole_90 : decode cX8_readWhole 90 = .ok (.isub, 1) := by decide +kernel
theorem dX8_readWhole_91 : decode cX8_readWhole 91 = .ok (.iconst 3, 1) := by decide +kernel
theorem dX8_readWhole_92 : decode cX8_readWhole 92 = .ok (.if_icmp .gt 7, 3) := by decide +kernel
theorem dX8_readWhole_95 : decode cX8_readWhole 95 = .ok (.iconst 2, 1) := by decide +kernel
theorem dX8_readWhole_96 : decode cX8_readWhole 96 = .ok (.goto 4, 3) := by decide +kernel
theorem dX8_readWhole_99 : decode cX8_readWhole 99 = .ok (.iconst 4, 1) := by decide +kernel
theorem dX8_readWhole_100 : decode cX8_readWhole 100 = .ok (.putfield 40, 3) := by decide +kernel
theorem dX8_readWhole_103 : decode cX8_readWhole 103 = .ok (.return_, 1) := by decide +kernel
theorem dX8_is_0 : decode cX8_is 0 = .ok (.aload_n 0, 1) := by decide +kernel
theorem dX8_is_1 : decode cX8_is 1 = .ok (.getfield 40, 3) := by decide +kernel
theorem dX8_is_4 : decode cX8_is 4 = .ok (.iconst 1, 1) := by decide +kernel
theorem dX8_is_5 : decode cX8_is 5 = .ok (.if_icmp .ne 19, 3) := by decide +kernel
theorem dX8_is_8 : decode cX8_is 8 = .ok (.aload_n 0, 1) := by decide +kernel
theorem dX8_is_9 : decode cX8_is 9 = .ok (.getfield 31, 3) := by decide +kernel
theorem dX8_is_12 : decode cX8_is 12 = .ok (.aload_n 0, 1) := by decide +kernel
theorem dX8_is_13 : decode cX8_is 13 = .ok (.getfield 37, 3) := by decide +kernel
theorem dX8_is_16 : decode cX8_is 16 = .ok (.isub, 1) := by decide +kernel
theorem dX8_is_17 : decode cX8_is 17 = .ok (.aload_n 1, 1) := by decide +kernel
theorem dX8_is_18 : decode cX8_is 18 = .ok (.invokevirtual 58, 3) := by decide +kernel
theorem dX8_is_21 : decode cX8_is 21 = .ok (.if_icmp .eq 5, 3) := by decide +kernel
theorem dX8_is_24 : decode cX8_is 24 = .ok (.iconst 0, 1) := by decide +kernel
theorem dX8_is_25 : decode cX8_is 25 = .ok (.ireturn, 1) := by decide +kernel
theorem dX8_is_26 : decode cX8_is 26 = .ok (.iconst 0, 1) := by decide +kernel
theorem dX8_is_27 : decode cX8_is 27 = .ok (.istore_n 2, 1) := by decide +kernel
theorem dX8_is_28 : decode cX8_is 28 = .ok (.iload_n 2, 1) := by decide +kernel
theorem dX8_is_29 : decode cX8_is 29 = .ok (.aload_n 1, 1) := by decide +kernel
theorem dX8_is_30 : decode cX8_is 30 = .ok (.invokevirtual 58, 3) := by decide +kernel
theorem dX8_is_33 : decode cX8_is 33 = .ok (.if_icmp .ge 30, 3) := by decide +kernel
theorem dX8_is_36 : decode cX8_is 36 = .ok (.aload_n 0, 1) := by decide +kernel
theorem dX8_is_37 : decode cX8_is 37 = .ok (.getfield 9, 3) := by decide +kernel
theorem dX8_is_40 : decode cX8_is 40 = .ok (.aload_n 0, 1) := by decide +kernel
theorem dX8_is_41 : decode cX8_is 41 = .ok (.getfield 37, 3) := by decide +kernel
theorem dX8_is_44 : decode cX8_is 44 = .ok (.iload_n 2, 1) := by decide +kernel
theorem dX8_is_45 : decode cX8_is 45 = .ok (.iadd, 1) := by decide +kernel
theorem dX8_is_46 : decode cX8_is 46 = .ok (.baload, 1) := by decide +kernel
theorem dX8_is_47 : decode cX8_is 47 = .ok (.aload_n 1, 1) := by decide +kernel
theorem dX8_is_48 : decode cX8_is 48 = .ok (.iload_n 2, 1) := by decide +kernel
theorem dX8_is_49 : decode cX8_is 49 = .ok (.invokevirtual 63, 3) := by decide +kernel
theorem dX8_is_52 : decode cX8_is 52 = .ok (.if_icmp .eq 5, 3) := by decide +kernel
theorem dX8_is_55 : decode cX8_is 55 = .ok (.iconst 0, 1) := by decide +kernel
theorem dX8_is_56 : decode cX8_is 56 = .ok (.ireturn, 1) := by decide +kernel
theorem dX8_is_57 : decode cX8_is 57 = .ok (.iinc 2 1, 3) := by decide +kernel
theorem dX8_is_60 : decode cX8_is 60 = .ok (.goto (-32), 3) := by decide +kernel
theorem dX8_is_63 : decode cX8_is 63 = .ok (.iconst 1, 1) := by decide +kernel
theorem dX8_is_64 : decode cX8_is 64 = .ok (.ireturn, 1) := by decide +kernel
theorem dX8_codeOf_0 : decode cX8_codeOf 0 = .ok (.lconst 0, 1) := by decide +kernel
theorem dX8_codeOf_1 : decode cX8_codeOf 1 = .ok (.lstore_n 1, 1) := by decide +kernel
theorem dX8_codeOf_2 : decode cX8_codeOf 2 = .ok (.iconst 0, 1) := by decide +kernel
theorem dX8_codeOf_3 : decode cX8_codeOf 3 = .ok (.istore_n 3, 1) := by decide +kernel
theorem dX8_codeOf_4 : decode cX8_codeOf 4 = .ok (.iload_n 3, 1) := by decide +kernel
theorem dX8_codeOf_5 : decode cX8_codeOf 5 = .ok (.aload_n 0, 1) := by decide +kernel
theorem dX8_codeOf_6 : decode cX8_codeOf 6 = .ok (.invokevirtual 58, 3) := by decide +kernel
theorem dX8_codeOf_9 : decode cX8_codeOf 9 = .ok (.if_icmp .ge 25, 3) := by decide +kernel
theorem dX8_codeOf_12 : decode cX8_codeOf 12 = .ok (.ldc2_w 53, 3) := by decide +kernel
theorem dX8_codeOf_15 : decode cX8_codeOf 15 = .ok (.lload_n 1, 1) := by decide +kernel
theorem dX8_codeOf_16 : decode cX8_codeOf 16 = .ok (.lmul, 1) := by decide +kernel
theorem dX8_codeOf_17 : decode cX8_codeOf 17 = .ok (.aload_n 0, 1) := by decide +kernel
theorem dX8_codeOf_18 : decode cX8_codeOf 18 = .ok (.iload_n 3, 1) := by decide +kernel
theorem dX8_codeOf_19 : decode cX8_codeOf 19 = .ok (.invokevirtual 63, 3) := by decide +kernel
theorem dX8_codeOf_22 : decode cX8_codeOf 22 = .ok (.bipush 96, 2) := by decide +kernel
theorem dX8_codeOf_24 : decode cX8_codeOf 24 = .ok (.isub, 1) := by decide +kernel
theorem dX8_codeOf_25 : decode cX8_codeOf 25 = .ok (.i2l, 1) := by decide +kernel
theorem dX8_codeOf_26 : decode cX8_codeOf 26 = .ok (.ladd, 1) := by decide +kernel
theorem dX8_codeOf_27 : decode cX8_codeOf 27 = .ok (.lstore_n 1, 1) := by decide +kernel
theorem dX8_codeOf_28 : decode cX8_codeOf 28 = .ok (.iinc 3 1, 3) := by decide +kernel
theorem dX8_codeOf_31 : decode cX8_codeOf 31 = .ok (.goto (-27), 3) := by decide +kernel
theorem dX8_codeOf_34 : decode cX8_codeOf 34 = .ok (.lload_n 1, 1) := by decide +kernel
theorem dX8_codeOf_35 : decode cX8_codeOf 35 = .ok (.lreturn, 1) := by decide +kernel
theorem dX9_init_0 : decode cX9_init 0 = .ok (.aload_n 0, 1) := by decide +kernel
theorem dX9_init_1 : decode cX9_init 1 = .ok (.invokespecial 3, 3) := by decide +kernel
theorem dX9_init_4 : decode cX9_init 4 = .ok (.aload_n 0, 1) := by decide +kernel
theorem dX9_init_5 : decode cX9_init 5 = .ok (.new 9, 3) := by decide +kernel
theorem dX9_init_8 : decode cX9_init 8 = .ok (.dup, 1) := by decide +kernel
theorem dX9_init_9 : decode cX9_init 9 = .ok (.invokespecial 11, 3) := by decide +kernel
theorem dX9_init_12 : decode cX9_init 12 = .ok (.putfield 12, 3) := by decide +kernel
theorem dX9_init_15 : decode cX9_init 15 = .ok (.aload_n 0, 1) := by decide +kernel
theorem dX9_init_16 : decode cX9_init 16 = .ok (.bipush 10, 2) := by decide +kernel
theorem dX9_init_18 : decode cX9_init 18 = .ok (.newarray .long, 2) := by decide +kernel
theorem dX9_init_20 : decode cX9_init 20 = .ok (.putfield 18, 3) := by decide +kernel
theorem dX9_init_23 : decode cX9_init 23 = .ok (.aload_n 0, 1) := by decide +kernel
theorem dX9_init_24 : decode cX9_init 24 = .ok (.bipush 6, 2) := by decide +kernel
theorem dX9_init_26 : decode cX9_init 26 = .ok (.newarray .long, 2) := by decide +kernel
theorem dX9_init_28 : decode cX9_init 28 = .ok (.putfield 22, 3) := by decide +kernel
theorem dX9_init_31 : decode cX9_init 31 = .ok (.aload_n 0, 1) := by decide +kernel
theorem dX9_init_32 : decode cX9_init 32 = .ok (.bipush 7, 2) := by decide +kernel
theorem dX9_init_34 : decode cX9_init 34 = .ok (.newarray .long, 2) := by decide +kernel
theorem dX9_init_36 : decode cX9_init 36 = .ok (.putfield 25, 3) := by decide +kernel
theorem dX9_init_39 : decode cX9_init 39 = .ok (.aload_n 0, 1) := by decide +kernel
theorem dX9_init_40 : decode cX9_init 40 = .ok (.new 28, 3) := by decide +kernel
theorem dX9_init_43 : decode cX9_init 43 = .ok (.dup, 1) := by decide +kernel
theorem dX9_init_44 : decode cX9_init 44 = .ok (.invokespecial 30, 3) := by decide +kernel
theorem dX9_init_47 : decode cX9_init 47 = .ok (.putfield 31, 3) := by decide +kernel
theorem dX9_init_50 : decode cX9_init 50 = .ok (.aload_n 0, 1) := by decide +kernel
theorem dX9_init_51 : decode cX9_init 51 = .ok (.getfield 18, 3) := by decide +kernel
theorem dX9_init_54 : decode cX9_init 54 = .ok (.iconst 0, 1) := by decide +kernel
theorem dX9_init_55 : decode cX9_init 55 = .ok (.ldc 35, 2) := by decide +kernel
theorem dX9_init_57 : decode cX9_init 57 = .ok (.invokestatic 37, 3) := by decide +kernel
theorem dX9_init_60 : decode cX9_init 60 = .ok (.lastore, 1) := by decide +kernel
theorem dX9_init_61 : decode cX9_init 61 = .ok (.aload_n 0, 1) := by decide +kernel
theorem dX9_init_62 : decode cX9_init 62 = .ok (.getfield 18, 3) := by decide +kernel
theorem dX9_init_65 : decode cX9_init 65 = .ok (.iconst 1, 1) := by decide +kernel
theorem dX9_init_66 : decode cX9_init 66 = .ok (.ldc 41, 2) := by decide +kernel
theorem dX9_init_68 : decode cX9_init 68 = .ok (.invokestatic 37, 3) := by decide +kernel
theorem dX9_init_71 : decode cX9_init 71 = .ok (.lastore, 1) := by decide +kernel
theorem dX9_init_72 : decode cX9_init 72 = .ok (.aload_n 0, 1) := by decide +kernel
theorem dX9_init_73 : decode cX9_init 73 = .ok (.getfield 18, 3) := by decide +kernel
theorem dX9_init_76 : decode cX9_init 76 = .ok (.iconst 2, 1) := by decide +kernel
theorem dX9_init_77 : decode cX9_init 77 = .ok (.ldc 43, 2) := by decide +kernel
theorem dX9_init_79 : decode cX9_init 79 = .ok (.invokestatic 37, 3) := by decide +kernel
theorem dX9_init_82 : decode cX9_init 82 = .ok (.lastore, 1) := by decide +kernel
theorem dX9_init_83 : decode cX9_init 83 = .ok (.aload_n 0, 1) := by decide +kernel
theorem dX9_init_84 : decode cX9_init 84 = .ok (.getfield 18, 3) := by decide +kernel
theorem dX9_init_87 : decode cX9_init 87 = .ok (.iconst 3, 1) := by decide +kernel
theorem dX9_init_88 : decode cX9_init 88 = .ok (.ldc 45, 2) := by decide +kernel
theorem dX9_init_90 : decode cX9_init 90 = .ok (.invokestatic 37, 3) := by decide +kernel
theorem dX9_init_93 : decode cX9_init 93 = .ok (.lastore, 1) := by decide +kernel
theorem dX9_init_94 : decode cX9_init 94 = .ok (.aload_n 0, 1) := by decide +kernel
theorem dX9_init_95 : decode cX9_init 95 = .ok (.getfield 18, 3) := by decide +kernel
theorem dX9_init_98 : decode cX9_init 98 = .ok (.iconst 4, 1) := by decide +kernel
theorem dX9_init_99 : decode cX9_init 99 = .ok (.ldc 47, 2) := by decide +kernel
theorem dX9_init_101 : decode cX9_init 101 = .ok (.invokestatic 37, 3) := by decide +kernel
theorem dX9_init_104 : decode cX9_init 104 = .ok (.lastore, 1) := by decide +kernel
theorem dX9_init_105 : decode cX9_init 105 = .ok (.aload_n 0, 1) := by decide +kernel
theorem dX9_init_106 : decode cX9_init 106 = .ok (.getfield 18, 3) := by decide +kernel
theorem dX9_init_109 : decode cX9_init 109 = .ok (.iconst 5, 1) := by decide +kernel
theorem dX9_init_110 : decode cX9_init 110 = .ok (.ldc 49, 2) := by decide +kernel
theorem dX9_init_112 : decode cX9_init 112 = .ok (.invokestatic 37, 3) := by decide +kernel
theorem dX9_init_115 : decode cX9_init 115 = .ok (.lastore, 1) := by decide +kernel
theorem dX9_init_116 : decode cX9_init 116 = .ok (.aload_n 0, 1) := by decide +kernel
theorem dX9_init_117 : decode cX9_init 117 = .ok (.getfield 18, 3) := by decide +kernel
theorem dX9_init_120 : decode cX9_init 120 = .ok (.bipush 6, 2) := by decide +kernel
theorem dX9_init_122 : decode cX9_init 122 = .ok (.ldc 51, 2) := by decide +kernel
theorem dX9_init_124 : decode cX9_init 124 = .ok (.invokestatic 37, 3) := by decide +kernel
theorem dX9_init_127 : decode cX9_init 127 = .ok (.lastore, 1) := by decide +kernel
theorem dX9_init_128 : decode cX9_init 128 = .ok (.aload_n 0, 1) := by decide +kernel
theorem dX9_init_129 : decode cX9_init 129 = .ok (.getfield 18, 3) := by decide +kernel
theorem dX9_init_132 : decode cX9_init 132 = .ok (.bipush 7, 2) := by decide +kernel
theorem dX9_init_134 : decode cX9_init 134 = .ok (.ldc 53, 2) := by decide +kernel
theorem dX9_init_136 : decode cX9_init 136 = .ok (.invokestatic 37, 3) := by decide +kernel
theorem dX9_init_139 : decode cX9_init 139 = .ok (.lastore, 1) := by decide +kernel
theorem dX9_init_140 : decode cX9_init 140 = .ok (.aload_n 0, 1) := by decide +kernel
theorem dX9_init_141 : decode cX9_init 141 = .ok (.getfield 18, 3) := by decide +kernel
theorem dX9_init_144 : decode cX9_init 144 = .ok (.bipush 8, 2) := by decide +kernel
theorem dX9_init_146 : decode cX9_init 146 = .ok (.ldc 55, 2) := by decide +kernel
theorem dX9_init_148 : decode cX9_init 148 = .ok (.invokestatic 37, 3) := by decide +kernel
theorem dX9_init_151 : decode cX9_init 151 = .ok (.lastore, 1) := by decide +kernel
theorem dX9_init_152 : decode cX9_init 152 = .ok (.aload_n 0, 1) := by decide +kernel
theorem dX9_init_153 : decode cX9_init 153 = .ok (.getfield 18, 3) := by decide +kernel
theorem dX9_init_156 : decode cX9_init 156 = .ok (.bipush 9, 2) := by decide +kernel
theorem dX9_init_158 : decode cX9_init 158 = .ok (.ldc 57, 2) := by decide +kernel
theorem dX9_init_160 : decode cX9_init 160 = .ok (.invokestatic 37, 3) := by decide +kernel
theorem dX9_init_163 : decode cX9_init 163 = .ok (.lastore, 1) := by decide +kernel
theorem dX9_init_164 : decode cX9_init 164 = .ok (.return_, 1) := by decide +kernel
theorem dX9_tell_0 : decode cX9_tell 0 = .ok (.aload_n 0, 1) := by decide +kernel
theorem dX9_tell_1 : decode cX9_tell 1 = .ok (.getfield 31, 3) := by decide +kernel
theorem dX9_tell_4 : decode cX9_tell 4 = .ok (.invokevirtual 59, 3) := by decide +kernel
theorem dX9_tell_7 : decode cX9_tell 7 = .ok (.aload_n 0, 1) := by decide +kernel
theorem dX9_tell_8 : decode cX9_tell 8 = .ok (.iconst 0, 1) := by decide +kernel
theorem dX9_tell_9 : decode cX9_tell 9 = .ok (.putfield 62, 3) := by decide +kernel
theorem dX9_tell_12 : decode cX9_tell 12 = .ok (.aload_n 0, 1) := by decide +kernel
theorem dX9_tell_13 : decode cX9_tell 13 = .ok (.iconst 0, 1) := by decide +kernel
theorem dX9_tell_14 : decode cX9_tell 14 = .ok (.putfield 66, 3) := by decide +kernel
theorem dX9_tell_17 : decode cX9_tell 17 = .ok (.aload_n 0, 1) := by decide +kernel
theorem dX9_tell_18 : decode cX9_tell 18 = .ok (.getfield 12, 3) := by decide +kernel
theorem dX9_tell_21 : decode cX9_tell 21 = .ok (.iload_n 1, 1) := by decide +kernel
theorem dX9_tell_22 : decode cX9_tell 22 = .ok (.invokevirtual 69, 3) := by decide +kernel
theorem dX9_tell_25 : decode cX9_tell 25 = .ok (.aload_n 0, 1) := by decide +kernel
theorem dX9_tell_26 : decode cX9_tell 26 = .ok (.invokevirtual 73, 3) := by decide +kernel
theorem dX9_tell_29 : decode cX9_tell 29 = .ok (.istore_n 2, 1) := by decide +kernel
theorem dX9_tell_30 : decode cX9_tell 30 = .ok (.iconst 0, 1) := by decide +kernel
theorem dX9_tell_31 : decode cX9_tell 31 = .ok (.istore_n 3, 1) := by decide +kernel
theorem dX9_tell_32 : decode cX9_tell 32 = .ok (.iload_n 3, 1) := by decide +kernel
theorem dX9_tell_33 : decode cX9_tell 33 = .ok (.sipush 1000, 3) := by decide +kernel
theorem dX9_tell_36 : decode cX9_tell 36 = .ok (.if_icmp .ge 36, 3) := by decide +kernel
theorem dX9_tell_39 : decode cX9_tell 39 = .ok (.iload_n 2, 1) := by decide +kernel
theorem dX9_tell_40 : decode cX9_tell 40 = .ok (.ifCond .eq 32, 3) := by decide +kernel
theorem dX9_tell_43 : decode cX9_tell 43 = .ok (.aload_n 0, 1) := by decide +kernel
theorem dX9_tell_44 : decode cX9_tell 44 = .ok (.getfield 12, 3) := by decide +kernel
theorem dX9_tell_47 : decode cX9_tell 47 = .ok (.getfield 77, 3) := by decide +kernel
theorem dX9_tell_50 : decode cX9_tell 50 = .ok (.iconst 3, 1) := by decide +kernel
theorem dX9_tell_51 : decode cX9_tell 51 = .ok (.if_icmp .ne 21, 3) := by decide +kernel
theorem dX9_tell_54 : decode cX9_tell 54 = .ok (.aload_n 0, 1) := by decide +kernel
theorem dX9_tell_55 : decode cX9_tell 55 = .ok (.getfield 12, 3) := by decide +kernel
theorem dX9_tell_58 : decode cX9_tell 58 = .ok (.invokevirtual 80, 3) := by decide +kernel
theorem dX9_tell_61 : decode cX9_tell 61 = .ok (.aload_n 0, 1) := by decide +kernel
theorem dX9_tell_62 : decode cX9_tell 62 = .ok (.invokevirtual 73, 3) := by decide +kernel
theorem dX9_tell_65 : decode cX9_tell 65 = .ok (.istore_n 2, 1) := by decide +kernel
theorem dX9_tell_66 : decode cX9_tell 66 = .ok (.iinc 3 1, 3) := by decide +kernel
theorem dX9_tell_69 : decode cX9_tell 69 = .ok (.goto (-37), 3) := by decide +kernel
theorem dX9_tell_72 : decode cX9_tell 72 = .ok (.iload_n 2, 1) := by decide +kernel
theorem dX9_tell_73 : decode cX9_tell 73 = .ok (.ifCond .ne 5, 3) := by decide +kernel
theorem dX9_tell_76 : decode cX9_tell 76 = .ok (.iconst 0, 1) := by decide +kernel
theorem dX9_tell_77 : decode cX9_tell 77 = .ok (.ireturn, 1) := by decide +kernel
theorem dX9_tell_78 : decode cX9_tell 78 = .ok (.aload_n 0, 1) := by decide +kernel
theorem dX9_tell_79 : decode cX9_tell 79 = .ok (.getfield 12, 3) := by decide +kernel
theorem dX9_tell_82 : decode cX9_tell 82 = .ok (.getfield 77, 3) := by decide +kernel
theorem dX9_tell_85 : decode cX9_tell 85 = .ok (.ifCond .eq 9, 3) := by decide +kernel
theorem dX9_tell_88 : decode cX9_tell 88 = .ok (.aload_n 0, 1) := by decide +kernel
theorem dX9_tell_89 : decode cX9_tell 89 = .ok (.iconst 1, 1) := by decide +kernel
theorem dX9_tell_90 : decode cX9_tell 90 = .ok (.invokevirtual 83, 3) := by decide +kernel
theorem dX9_tell_93 : decode cX9_tell 93 = .ok (.ireturn, 1) := by decide +kernel
theorem dX9_tell_94 : decode cX9_tell 94 = .ok (.aload_n 0, 1) := by decide +kernel
theorem dX9_tell_95 : decode cX9_tell 95 = .ok (.getfield 31, 3) := by decide +kernel
theorem dX9_tell_98 : decode cX9_tell 98 = .ok (.getfield 87, 3) := by decide +kernel
theorem dX9_tell_101 : decode cX9_tell 101 = .ok (.getfield 91, 3) := by decide +kernel
theorem dX9_tell_104 : decode cX9_tell 104 = .ok (.ifCond .gt 12, 3) := by decide +kernel
theorem dX9_tell_107 : decode cX9_tell 107 = .ok (.aload_n 0, 1) := by decide +kernel
theorem dX9_tell_108 : decode cX9_tell 108 = .ok (.bipush 6, 2) := by decide +kernel
theorem dX9_tell_110 : decode cX9_tell 110 = .ok (.invokevirtual 83, 3) := by decide +kernel
theorem dX9_tell_113 : decode cX9_tell 113 = .ok (.ifCond .eq 7, 3) := by decide +kernel
theorem dX9_tell_116 : decode cX9_tell 116 = .ok (.iconst 1, 1) := by decide +kernel
theorem dX9_tell_117 : decode cX9_tell 117 = .ok (.goto 4, 3) := by decide +kernel
theorem dX9_tell_120 : decode cX9_tell 120 = .ok (.iconst 0, 1) := by decide +kernel
theorem dX9_tell_121 : decode cX9_tell 121 = .ok (.ireturn, 1) := by decide +kernel
theorem dX9_blame_0 : decode cX9_blame 0 = .ok (.aload_n 0, 1) := by decide +kernel
theorem dX9_blame_1 : decode cX9_blame 1 = .ok (.iload_n 1, 1) := by decide +kernel
theorem dX9_blame_2 : decode cX9_blame 2 = .ok (.putfield 62, 3) := by decide +kernel
theorem dX9_blame_5 : decode cX9_blame 5 = .ok (.aload_n 0, 1) := by decide +kernel
theorem dX9_blame_6 : decode cX9_blame 6 = .ok (.aload_n 0, 1) := by decide +kernel
theorem dX9_blame_7 : decode cX9_blame 7 = .ok (.getfield 12, 3) := by decide +kernel
theorem dX9_blame_10 : decode cX9_blame 10 = .ok (.getfield 96, 3) := by decide +kernel
theorem dX9_blame_13 : decode cX9_blame 13 = .ok (.putfield 66, 3) := by decide +kernel
theorem dX9_blame_16 : decode cX9_blame 16 = .ok (.iconst 0, 1) := by decide +kernel
theorem dX9_blame_17 : decode cX9_blame 17 = .ok (.ireturn, 1) := by decide +kernel
theorem dX9_readLine_0 : decode cX9_readLine 0 = .ok (.aload_n 0, 1) := by decide +kernel
theorem dX9_readLine_1 : decode cX9_readLine 1 = .ok (.invokevirtual 99, 3) := by decide +kernel
theorem dX9_readLine_4 : decode cX9_readLine 4 = .ok (.istore_n 1, 1) := by decide +kernel
theorem dX9_readLine_5 : decode cX9_readLine 5 = .ok (.iload_n 1, 1) := by decide +kernel
theorem dX9_readLine_6 : decode cX9_readLine 6 = .ok (.iconst (-1), 1) := by decide +kernel
theorem dX9_readLine_7 : decode cX9_readLine 7 = .ok (.if_icmp .eq 9, 3) := by decide +kernel
theorem dX9_readLine_10 : decode cX9_readLine 10 = .ok (.iload_n 1, 1) := by decide +kernel
theorem dX9_readLine_11 : decode cX9_readLine 11 = .ok (.bipush 9, 2) := by decide +kernel
theorem dX9_readLine_13 : decode cX9_readLine 13 = .ok (.if_icmp .ne 9, 3) := by decide +kernel
theorem dX9_readLine_16 : decode cX9_readLine 16 = .ok (.aload_n 0, 1) := by decide +kernel
theorem dX9_readLine_17 : decode cX9_readLine 17 = .ok (.iconst 1, 1) := by decide +kernel
theorem dX9_readLine_18 : decode cX9_readLine 18 = .ok (.invokevirtual 83, 3) := by decide +kernel
theorem dX9_readLine_21 : decode cX9_readLine 21 = .ok (.ireturn, 1) := by decide +kernel
theorem dX9_readLine_22 : decode cX9_readLine 22 = .ok (.iload_n 1, 1) := by decide +kernel
theorem dX9_readLine_23 : decode cX9_readLine 23 = .ok (.ifCond .ne 19, 3) := by decide +kernel
theorem dX9_readLine_26 : decode cX9_readLine 26 = .ok (.aload_n 0, 1) := by decide +kernel
theorem dX9_readLine_27 : decode cX9_readLine 27 = .ok (.getfield 31, 3) := by decide +kernel
theorem dX9_readLine_30 : decode cX9_readLine 30 = .ok (.getfield 103, 3) := by decide +kernel
theorem dX9_readLine_33 : decode cX9_readLine 33 = .ok (.ifCond .eq 9, 3) := by decide +kernel
theorem dX9_readLine_36 : decode cX9_readLine 36 = .ok (.aload_n 0, 1) := by decide +kernel
theorem dX9_readLine_37 : decode cX9_readLine 37 = .ok (.iconst 3, 1) := by decide +kernel
theorem dX9_readLine_38 : decode cX9_readLine 38 = .ok (.invokevirtual 83, 3) := by decide +kernel
theorem dX9_readLine_41 : decode cX9_readLine 41 = .ok (.ireturn, 1) := by decide +kernel
theorem dX9_readLine_42 : decode cX9_readLine 42 = .ok (.aload_n 0, 1) := by decide +kernel
theorem dX9_readLine_43 : decode cX9_readLine 43 = .ok (.iload_n 1, 1) := by decide +kernel
theorem dX9_readLine_44 : decode cX9_readLine 44 = .ok (.invokevirtual 107, 3) := by decide +kernel
theorem dX9_readLine_47 : decode cX9_readLine 47 = .ok (.ifCond .eq 9, 3) := by decide +kernel
theorem dX9_readLine_50 : decode cX9_readLine 50 = .ok (.aload_n 0, 1) := by decide +kernel
theorem dX9_readLine_51 : decode cX9_readLine 51 = .ok (.iconst 5, 1) := by decide +kernel
theorem dX9_readLine_52 : decode cX9_readLine 52 = .ok (.invokevirtual 83, 3) := by decide +kernel
theorem dX9_readLine_55 : decode cX9_readLine 55 = .ok (.ireturn, 1) := by decide +kernel
theorem dX9_readLine_56 : decode cX9_readLine 56 = .ok (.iload_n 1, 1) := by decide +kernel
theorem dX9_readLine_57 : decode cX9_readLine 57 = .ok (.ifCond .eq 20, 3) := by decide +kernel
theorem dX9_readLine_60 : decode cX9_readLine 60 = .ok (.aload_n 0, 1) := by decide +kernel
theorem dX9_readLine_61 : decode cX9_readLine 61 = .ok (.getfield 31, 3) := by decide +kernel
theorem dX9_readLine_64 : decode cX9_readLine 64 = .ok (.getfield 103, 3) := by decide +kernel
theorem dX9_readLine_67 : decode cX9_readLine 67 = .ok (.ifCond .ne 10, 3) := by decide +kernel
theorem dX9_readLine_70 : decode cX9_readLine 70 = .ok (.aload_n 0, 1) := by decide +kernel
theorem dX9_readLine_71 : decode cX9_readLine 71 = .ok (.bipush 6, 2) := by decide +kernel
theorem dX9_readLine_73 : decode cX9_readLine 73 = .ok (.invokevirtual 83, 3) := by decide +kernel
theorem dX9_readLine_76 : decode cX9_readLine 76 = .ok (.ireturn, 1) := by decide +kernel
theorem dX9_readLine_77 : decode cX9_readLine 77 = .ok (.aload_n 0, 1) := by decide +kernel
theorem dX9_readLine_78 : decode cX9_readLine 78 = .ok (.getfield 12, 3) := by decide +kernel
theorem dX9_readLine_81 : decode cX9_readLine 81 = .ok (.invokevirtual 80, 3) := by decide +kernel
theorem dX9_readLine_84 : decode cX9_readLine 84 = .ok (.iload_n 1, 1) := by decide +kernel
theorem dX9_readLine_85 : decode cX9_readLine 85 = .ok (.tableswitch 90 0 7 #[47, 52, 57, 62, 67, 72, 78, 84], 47) := by decide +kernel
theorem dX9_readLine_132 : decode cX9_readLine 132 = .ok (.aload_n 0, 1) := by decide +kernel
theorem dX9_readLine_133 : decode cX9_readLine 133 = .ok (.invokevirtual 110, 3) := by decide +kernel
theorem dX9_readLine_136 : decode cX9_readLine 136 = .ok (.ireturn, 1) := by decide +kernel
theorem dX9_readLine_137 : decode cX9_readLine 137 = .ok (.aload_n 0, 1) := by decide +kernel
theorem dX9_readLine_138 : decode cX9_readLine 138 = .ok (.invokevirtual 113, 3) := by decide +kernel
theorem dX9_readLine_141 : decode cX9_readLine 141 = .ok (.ireturn, 1) := by decide +kernel
theorem dX9_readLine_142 : decode cX9_readLine 142 = .ok (.aload_n 0, 1) := by decide +kernel
theorem dX9_readLine_143 : decode cX9_readLine 143 = .ok (.invokevirtual 116, 3) := by decide +kernel
theorem dX9_readLine_146 : decode cX9_readLine 146 = .ok (.ireturn, 1) := by decide +kernel
theorem dX9_readLine_147 : decode cX9_readLine 147 = .ok (.aload_n 0, 1) := by decide +kernel
theorem dX9_readLine_148 : decode cX9_readLine 148 = .ok (.invokevirtual 119, 3) := by decide +kernel
theorem dX9_readLine_151 : decode cX9_readLine 151 = .ok (.ireturn, 1) := by decide +kernel
theorem dX9_readLine_152 : decode cX9_readLine 152 = .ok (.aload_n 0, 1) := by decide +kernel
theorem dX9_readLine_153 : decode cX9_readLine 153 = .ok (.invokevirtual 122, 3) := by decide +kernel
theorem dX9_readLine_156 : decode cX9_readLine 156 = .ok (.ireturn, 1) := by decide +kernel
theorem dX9_readLine_157 : decode cX9_readLine 157 = .ok (.aload_n 0, 1) := by decide +kernel
theorem dX9_readLine_158 : decode cX9_readLine 158 = .ok (.iconst 1, 1) := by decide +kernel
theorem dX9_readLine_159 : decode cX9_readLine 159 = .ok (.invokevirtual 125, 3) := by decide +kernel
theorem dX9_readLine_162 : decode cX9_readLine 162 = .ok (.ireturn, 1) := by decide +kernel
theorem dX9_readLine_163 : decode cX9_readLine 163 = .ok (.aload_n 0, 1) := by decide +kernel
theorem dX9_readLine_164 : decode cX9_readLine 164 = .ok (.iconst (-1), 1) := by decide +kernel
theorem dX9_readLine_165 : decode cX9_readLine 165 = .ok (.invokevirtual 125, 3) := by decide +kernel
theorem dX9_readLine_168 : decode cX9_readLine 168 = .ok (.ireturn, 1) := by decide +kernel
theorem dX9_readLine_169 : decode cX9_readLine 169 = .ok (.aload_n 0, 1) := by decide +kernel
theorem dX9_readLine_170 : decode cX9_readLine 170 = .ok (.iconst 1, 1) := by decide +kernel
theorem dX9_readLine_171 : decode cX9_readLine 171 = .ok (.invokevirtual 128, 3) := by decide +kernel
theorem dX9_readLine_174 : decode cX9_readLine 174 = .ok (.ireturn, 1) := by decide +kernel
theorem dX9_readLine_175 : decode cX9_readLine 175 = .ok (.aload_n 0, 1) := by decide +kernel
theorem dX9_readLine_176 : decode cX9_readLine 176 = .ok (.iconst 0, 1) := by decide +kernel
theorem dX9_readLine_177 : decode cX9_readLine 177 = .ok (.invokevirtual 128, 3) := by decide +kernel
theorem dX9_readLine_180 : decode cX9_readLine 180 = .ok (.ireturn, 1) := by decide +kernel
theorem dX9_isFull_0 : decode cX9_isFull 0 = .ok (.iload_n 1, 1) := by decide +kernel
theorem dX9_isFull_1 : decode cX9_isFull 1 = .ok (.tableswitch 152 1 8 #[47, 68, 89, 110, 152, 152, 131, 131], 47) := by decide +kernel
theorem dX9_isFull_48 : decode cX9_isFull 48 = .ok (.aload_n 0, 1) := by decide +kernel
theorem dX9_isFull_49 : decode cX9_isFull 49 = .ok (.getfield 31, 3) := by decide +kernel
theorem dX9_isFull_52 : decode cX9_isFull 52 = .ok (.getfield 87, 3) := by decide +kernel
theorem dX9_isFull_55 : decode cX9_isFull 55 = .ok (.getfield 91, 3) := by decide +kernel
theorem dX9_isFull_58 : decode cX9_isFull 58 = .ok (.bipush 6, 2) := by decide +kernel
theorem dX9_isFull_60 : decode cX9_isFull 60 = .ok (.if_icmp .lt 7, 3) := by decide +kernel
theorem dX9_isFull_63 : decode cX9_isFull 63 = .ok (.iconst 1, 1) := by decide +kernel
theorem dX9_isFull_64 : decode cX9_isFull 64 = .ok (.goto 4, 3) := by decide +kernel
theorem dX9_isFull_67 : decode cX9_isFull 67 = .ok (.iconst 0, 1) := by decide +kernel
theorem dX9_isFull_68 : decode cX9_isFull 68 = .ok (.ireturn, 1) := by decide +kernel
theorem dX9_isFull_69 : decode cX9_isFull 69 = .ok (.aload_n 0, 1) := by decide +kernel
theorem dX9_isFull_70 : decode cX9_isFull 70 = .ok (.getfield 31, 3) := by decide +kernel
theorem dX9_isFull_73 : decode cX9_isFull 73 = .ok (.getfield 132, 3) := by decide +kernel
theorem dX9_isFull_76 : decode cX9_isFull 76 = .ok (.getfield 136, 3) := by decide +kernel
theorem dX9_isFull_79 : decode cX9_isFull 79 = .ok (.bipush 7, 2) := by decide +kernel
theorem dX9_isFull_81 : decode cX9_isFull 81 = .ok (.if_icmp .lt 7, 3) := by decide +kernel
theorem dX9_isFull_84 : decode cX9_isFull 84 = .ok (.iconst 1, 1) := by decide +kernel
theorem dX9_isFull_85 : decode cX9_isFull 85 = .ok (.goto 4, 3) := by decide +kernel
theorem dX9_isFull_88 : decode cX9_isFull 88 = .ok (.iconst 0, 1) := by decide +kernel
theorem dX9_isFull_89 : decode cX9_isFull 89 = .ok (.ireturn, 1) := by decide +kernel
theorem dX9_isFull_90 : decode cX9_isFull 90 = .ok (.aload_n 0, 1) := by decide +kernel
theorem dX9_isFull_91 : decode cX9_isFull 91 = .ok (.getfield 31, 3) := by decide +kernel
theorem dX9_isFull_94 : decode cX9_isFull 94 = .ok (.getfield 132, 3) := by decide +kernel
theorem dX9_isFull_97 : decode cX9_isFull 97 = .ok (.getfield 139, 3) := by decide +kernel
theorem dX9_isFull_100 : decode cX9_isFull 100 = .ok (.bipush 6, 2) := by decide +kernel
theorem dX9_isFull_102 : decode cX9_isFull 102 = .ok (.if_icmp .lt 7, 3) := by decide +kernel
theorem dX9_isFull_105 : decode cX9_isFull 105 = .ok (.iconst 1, 1) := by decide +kernel
theorem dX9_isFull_106 : decode cX9_isFull 106 = .ok (.goto 4, 3) := by decide +kernel
theorem dX9_isFull_109 : decode cX9_isFull 109 = .ok (.iconst 0, 1) := by decide +kernel
theorem dX9_isFull_110 : decode cX9_isFull 110 = .ok (.ireturn, 1) := by decide +kernel
theorem dX9_isFull_111 : decode cX9_isFull 111 = .ok (.aload_n 0, 1) := by decide +kernel
theorem dX9_isFull_112 : decode cX9_isFull 112 = .ok (.getfield 31, 3) := by decide +kernel
theorem dX9_isFull_115 : decode cX9_isFull 115 = .ok (.getfield 132, 3) := by decide +kernel
theorem dX9_isFull_118 : decode cX9_isFull 118 = .ok (.getfield 142, 3) := by decide +kernel
theorem dX9_isFull_121 : decode cX9_isFull 121 = .ok (.bipush 9, 2) := by decide +kernel
theorem dX9_isFull_123 : decode cX9_isFull 123 = .ok (.if_icmp .lt 7, 3) := by decide +kernel
theorem dX9_isFull_126 : decode cX9_isFull 126 = .ok (.iconst 1, 1) := by decide +kernel
theorem dX9_isFull_127 : decode cX9_isFull 127 = .ok (.goto 4, 3) := by decide +kernel
theorem dX9_isFull_130 : decode cX9_isFull 130 = .ok (.iconst 0, 1) := by decide +kernel
theorem dX9_isFull_131 : decode cX9_isFull 131 = .ok (.ireturn, 1) := by decide +kernel
theorem dX9_isFull_132 : decode cX9_isFull 132 = .ok (.aload_n 0, 1) := by decide +kernel
theorem dX9_isFull_133 : decode cX9_isFull 133 = .ok (.getfield 31, 3) := by decide +kernel
theorem dX9_isFull_136 : decode cX9_isFull 136 = .ok (.getfield 145, 3) := by decide +kernel
theorem dX9_isFull_139 : decode cX9_isFull 139 = .ok (.getfield 149, 3) := by decide +kernel
theorem dX9_isFull_142 : decode cX9_isFull 142 = .ok (.bipush 8, 2) := by decide +kernel
theorem dX9_isFull_144 : decode cX9_isFull 144 = .ok (.if_icmp .lt 7, 3) := by decide +kernel
theorem dX9_isFull_147 : decode cX9_isFull 147 = .ok (.iconst 1, 1) := by decide +kernel
theorem dX9_isFull_148 : decode cX9_isFull 148 = .ok (.goto 4, 3) := by decide +kernel
theorem dX9_isFull_151 : decode cX9_isFull 151 = .ok (.iconst 0, 1) := by decide +kernel
theorem dX9_isFull_152 : decode cX9_isFull 152 = .ok (.ireturn, 1) := by decide +kernel
theorem dX9_isFull_153 : decode cX9_isFull 153 = .ok (.iconst 0, 1) := by decide +kernel
theorem dX9_isFull_154 : decode cX9_isFull 154 = .ok (.ireturn, 1) := by decide +kernel
theorem dX9_readRoom_0 : decode cX9_readRoom 0 = .ok (.aload_n 0, 1) := by decide +kernel
theorem dX9_readRoom_1 : decode cX9_readRoom 1 = .ok (.getfield 31, 3) := by decide +kernel
theorem dX9_readRoom_4 : decode cX9_readRoom 4 = .ok (.getfield 87, 3) := by decide +kernel
theorem dX9_readRoom_7 : decode cX9_readRoom 7 = .ok (.astore_n 1, 1) := by decide +kernel
theorem dX9_readRoom_8 : decode cX9_readRoom 8 = .ok (.aload_n 0, 1) := by decide +kernel
theorem dX9_readRoom_9 : decode cX9_readRoom 9 = .ok (.ldc 154, 2) := by decide +kernel
theorem dX9_readRoom_11 : decode cX9_readRoom 11 = .ok (.invokevirtual 156, 3) := by decide +kernel
theorem dX9_readRoom_14 : decode cX9_readRoom 14 = .ok (.ifCond .eq 13, 3) := by decide +kernel
theorem dX9_readRoom_17 : decode cX9_readRoom 17 = .ok (.aload_n 0, 1) := by decide +kernel
theorem dX9_readRoom_18 : decode cX9_readRoom 18 = .ok (.iconst 1, 1) := by decide +kernel
theorem dX9_readRoom_19 : decode cX9_readRoom 19 = .ok (.bipush 9, 2) := by decide +kernel
theorem dX9_readRoom_21 : decode cX9_readRoom 21 = .ok (.invokevirtual 160, 3) := by decide +kernel
theorem dX9_readRoom_24 : decode cX9_readRoom 24 = .ok (.ifCond .ne 5, 3) := by decide +kernel
theorem dX9_readRoom_27 : decode cX9_readRoom 27 = .ok (.iconst 0, 1) := by decide +kernel
theorem dX9_readRoom_28 : decode cX9_readRoom 28 = .ok (.ireturn, 1) := by decide +kernel
theorem dX9_readRoom_29 : decode cX9_readRoom 29 = .ok (.aload_n 1, 1) := by decide +kernel
theorem dX9_readRoom_30 : decode cX9_readRoom 30 = .ok (.aload_n 0, 1) := by decide +kernel
theorem dX9_readRoom_31 : decode cX9_readRoom 31 = .ok (.getfield 164, 3) := by decide +kernel
theorem dX9_readRoom_34 : decode cX9_readRoom 34 = .ok (.putfield 167, 3) := by decide +kernel
theorem dX9_readRoom_37 : decode cX9_readRoom 37 = .ok (.aload_n 0, 1) := by decide +kernel
theorem dX9_readRoom_38 : decode cX9_readRoom 38 = .ok (.ldc 169, 2) := by decide +kernel
theorem dX9_readRoom_40 : decode cX9_readRoom 40 = .ok (.invokevirtual 156, 3) := by decide +kernel
theorem dX9_readRoom_43 : decode cX9_readRoom 43 = .ok (.ifCond .eq 13, 3) := by decide +kernel
theorem dX9_readRoom_46 : decode cX9_readRoom 46 = .ok (.aload_n 0, 1) := by decide +kernel
theorem dX9_readRoom_47 : decode cX9_readRoom 47 = .ok (.iconst 1, 1) := by decide +kernel
theorem dX9_readRoom_48 : decode cX9_readRoom 48 = .ok (.bipush 9, 2) := by decide +kernel
theorem dX9_readRoom_50 : decode cX9_readRoom 50 = .ok (.invokevirtual 160, 3) := by decide +kernel
theorem dX9_readRoom_53 : decode cX9_readRoom 53 = .ok (.ifCond .ne 5, 3) := by decide +kernel
theorem dX9_readRoom_56 : decode cX9_readRoom 56 = .ok (.iconst 0, 1) := by decide +kernel
theorem dX9_readRoom_57 : decode cX9_readRoom 57 = .ok (.ireturn, 1) := by decide +kernel
theorem dX9_readRoom_58 : decode cX9_readRoom 58 = .ok (.aload_n 1, 1) := by decide +kernel
theorem dX9_readRoom_59 : decode cX9_readRoom 59 = .ok (.aload_n 0, 1) := by decide +kernel
theorem dX9_readRoom_60 : decode cX9_readRoom 60 = .ok (.getfield 164, 3) := by decide +kernel
theorem dX9_readRoom_63 : decode cX9_readRoom 63 = .ok (.putfield 171, 3) := by decide +kernel
theorem dX9_readRoom_66 : decode cX9_readRoom 66 = .ok (.aload_n 0, 1) := by decide +kernel
theorem dX9_readRoom_67 : decode cX9_readRoom 67 = .ok (.ldc 173, 2) := by decide +kernel
theorem dX9_readRoom_69 : decode cX9_readRoom 69 = .ok (.invokevirtual 156, 3) := by decide +kernel
theorem dX9_readRoom_72 : decode cX9_readRoom 72 = .ok (.ifCond .eq 17, 3) := by decide +kernel
theorem dX9_readRoom_75 : decode cX9_readRoom 75 = .ok (.aload_n 0, 1) := by decide +kernel
theorem dX9_readRoom_76 : decode cX9_readRoom 76 = .ok (.iconst 0, 1) := by decide +kernel
theorem dX9_readRoom_77 : decode cX9_readRoom 77 = .ok (.aload_n 1, 1) := by decide +kernel
theorem dX9_readRoom_78 : decode cX9_readRoom 78 = .ok (.getfield 167, 3) := by decide +kernel
theorem dX9_readRoom_81 : decode cX9_readRoom 81 = .ok (.iconst 1, 1) := by decide +kernel
theorem dX9_readRoom_82 : decode cX9_readRoom 82 = .ok (.isub, 1) := by decide +kernel
theorem dX9_readRoom_83 : decode cX9_readRoom 83 = .ok (.invokevirtual 160, 3) := by decide +kernel
theorem dX9_readRoom_86 : decode cX9_readRoom 86 = .ok (.ifCond .ne 5, 3) := by decide +kernel
theorem dX9_readRoom_89 : decode cX9_readRoom 89 = .ok (.iconst 0, 1) := by decide +kernel
theorem dX9_readRoom_90 : decode cX9_readRoom 90 = .ok (.ireturn, 1) := by decide +kernel
theorem dX9_readRoom_91 : decode cX9_readRoom 91 = .ok (.aload_n 1, 1) := by decide +kernel
theorem dX9_readRoom_92 : decode cX9_readRoom 92 = .ok (.aload_n 0, 1) := by decide +kernel
theorem dX9_readRoom_93 : decode cX9_readRoom 93 = .ok (.getfield 164, 3) := by decide +kernel
theorem dX9_readRoom_96 : decode cX9_readRoom 96 = .ok (.putfield 175, 3) := by decide +kernel
theorem dX9_readRoom_99 : decode cX9_readRoom 99 = .ok (.aload_n 0, 1) := by decide +kernel
theorem dX9_readRoom_100 : decode cX9_readRoom 100 = .ok (.iconst 0, 1) := by decide +kernel
theorem dX9_readRoom_101 : decode cX9_readRoom 101 = .ok (.aload_n 1, 1) := by decide +kernel
theorem dX9_readRoom_102 : decode cX9_readRoom 102 = .ok (.getfield 171, 3) := by decide +kernel
theorem dX9_readRoom_105 : decode cX9_readRoom 105 = .ok (.iconst 1, 1) := by decide +kernel
theorem dX9_readRoom_106 : decode cX9_readRoom 106 = .ok (.isub, 1) := by decide +kernel
theorem dX9_readRoom_107 : decode cX9_readRoom 107 = .ok (.invokevirtual 160, 3) := by decide +kernel
theorem dX9_readRoom_110 : decode cX9_readRoom 110 = .ok (.ifCond .ne 5, 3) := by decide +kernel
theorem dX9_readRoom_113 : decode cX9_readRoom 113 = .ok (.iconst 0, 1) := by decide +kernel
theorem dX9_readRoom_114 : decode cX9_readRoom 114 = .ok (.ireturn, 1) := by decide +kernel
theorem dX9_readRoom_115 : decode cX9_readRoom 115 = .ok (.aload_n 1, 1) := by decide +kernel
theorem dX9_readRoom_116 : decode cX9_readRoom 116 = .ok (.aload_n 0, 1) := by decide +kernel
theorem dX9_readRoom_117 : decode cX9_readRoom 117 = .ok (.getfield 164, 3) := by decide +kernel
theorem dX9_readRoom_120 : decode cX9_readRoom 120 = .ok (.putfield 178, 3) := by decide +kernel
theorem dX9_readRoom_123 : decode cX9_readRoom 123 = .ok (.aload_n 0, 1) := by decide +kernel
theorem dX9_readRoom_124 : decode cX9_readRoom 124 = .ok (.ldc 181, 2) := by decide +kernel
theorem dX9_readRoom_126 : decode cX9_readRoom 126 = .ok (.invokevirtual 156, 3) := by decide +kernel
theorem dX9_readRoom_129 : decode cX9_readRoom 129 = .ok (.ifCond .eq 13, 3) := by decide +kernel
theorem dX9_readRoom_132 : decode cX9_readRoom 132 = .ok (.aload_n 0, 1) := by decide +kernel
theorem dX9_readRoom_133 : decode cX9_readRoom 133 = .ok (.iconst 1, 1) := by decide +kernel
theorem dX9_readRoom_134 : decode cX9_readRoom 134 = .ok (.bipush 60, 2) := by decide +kernel
theorem dX9_readRoom_136 : decode cX9_readRoom 136 = .ok (.invokevirtual 160, 3) := by decide +kernel
theorem dX9_readRoom_139 : decode cX9_readRoom 139 = .ok (.ifCond .ne 5, 3) := by decide +kernel
theorem dX9_readRoom_142 : decode cX9_readRoom 142 = .ok (.iconst 0, 1) := by decide +kernel
theorem dX9_readRoom_143 : decode cX9_readRoom 143 = .ok (.ireturn, 1) := by decide +kernel
theorem dX9_readRoom_144 : decode cX9_readRoom 144 = .ok (.aload_n 1, 1) := by decide +kernel
theorem dX9_readRoom_145 : decode cX9_readRoom 145 = .ok (.aload_n 0, 1) := by decide +kernel
theorem dX9_readRoom_146 : decode cX9_readRoom 146 = .ok (.getfield 164, 3) := by decide +kernel
theorem dX9_readRoom_149 : decode cX9_readRoom 149 = .ok (.putfield 183, 3) := by decide +kernel
theorem dX9_readRoom_152 : decode cX9_readRoom 152 = .ok (.aload_n 0, 1) := by decide +kernel
theorem dX9_readRoom_153 : decode cX9_readRoom 153 = .ok (.ldc 185, 2) := by decide +kernel
theorem dX9_readRoom_155 : decode cX9_readRoom 155 = .ok (.invokevirtual 156, 3) := by decide +kernel
theorem dX9_readRoom_158 : decode cX9_readRoom 158 = .ok (.ifCond .eq 14, 3) := by decide +kernel
theorem dX9_readRoom_161 : decode cX9_readRoom 161 = .ok (.aload_n 0, 1) := by decide +kernel
theorem dX9_readRoom_162 : decode cX9_readRoom 162 = .ok (.iconst 0, 1) := by decide +kernel
theorem dX9_readRoom_163 : decode cX9_readRoom 163 = .ok (.sipush 200, 3) := by decide +kernel
theorem dX9_readRoom_166 : decode cX9_readRoom 166 = .ok (.invokevirtual 160, 3) := by decide +kernel
theorem dX9_readRoom_169 : decode cX9_readRoom 169 = .ok (.ifCond .ne 5, 3) := by decide +kernel
theorem dX9_readRoom_172 : decode cX9_readRoom 172 = .ok (.iconst 0, 1) := by decide +kernel
theorem dX9_readRoom_173 : decode cX9_readRoom 173 = .ok (.ireturn, 1) := by decide +kernel
theorem dX9_readRoom_174 : decode cX9_readRoom 174 = .ok (.aload_n 0, 1) := by decide +kernel
theorem dX9_readRoom_175 : decode cX9_readRoom 175 = .ok (.getfield 31, 3) := by decide +kernel
theorem dX9_readRoom_178 : decode cX9_readRoom 178 = .ok (.getfield 187, 3) := by decide +kernel
theorem dX9_readRoom_181 : decode cX9_readRoom 181 = .ok (.aload_n 0, 1) := by decide +kernel
theorem dX9_readRoom_182 : decode cX9_readRoom 182 = .ok (.getfield 164, 3) := by decide +kernel
theorem dX9_readRoom_185 : decode cX9_readRoom 185 = .ok (.putfield 191, 3) := by decide +kernel
theorem dX9_readRoom_188 : decode cX9_readRoom 188 = .ok (.aload_n 0, 1) := by decide +kernel
theorem dX9_readRoom_189 : decode cX9_readRoom 189 = .ok (.getfield 31, 3) := by decide +kernel
theorem dX9_readRoom_192 : decode cX9_readRoom 192 = .ok (.iconst 1, 1) := by decide +kernel
theorem dX9_readRoom_193 : decode cX9_readRoom 193 = .ok (.putfield 103, 3) := by decide +kernel
theorem dX9_readRoom_196 : decode cX9_readRoom 196 = .ok (.iconst 1, 1) := by decide +kernel
theorem dX9_readRoom_197 : decode cX9_readRoom 197 = .ok (.ireturn, 1) := by decide +kernel
theorem dX9_readBench_0 : decode cX9_readBench 0 = .ok (.aload_n 0, 1) := by decide +kernel
theorem dX9_readBench_1 : decode cX9_readBench 1 = .ok (.getfield 31, 3) := by decide +kernel
theorem dX9_readBench_4 : decode cX9_readBench 4 = .ok (.getfield 87, 3) := by decide +kernel
theorem dX9_readBench_7 : decode cX9_readBench 7 = .ok (.astore_n 1, 1) := by decide +kernel
theorem dX9_readBench_8 : decode cX9_readBench 8 = .ok (.aload_n 1, 1) := by decide +kernel
theorem dX9_readBench_9 : decode cX9_readBench 9 = .ok (.getfield 91, 3) := by decide +kernel
theorem dX9_readBench_12 : decode cX9_readBench 12 = .ok (.istore_n 2, 1) := by decide +kernel
theorem dX9_readBench_13 : decode cX9_readBench 13 = .ok (.iload_n 2, 1) := by decide +kernel
theorem dX9_readBench_14 : decode cX9_readBench 14 = .ok (.bipush 6, 2) := by decide +kernel
theorem dX9_readBench_16 : decode cX9_readBench 16 = .ok (.if_icmp .lt 9, 3) := by decide +kernel
theorem dX9_readBench_19 : decode cX9_readBench 19 = .ok (.aload_n 0, 1) := by decide +kernel
theorem dX9_readBench_20 : decode cX9_readBench 20 = .ok (.iconst 5, 1) := by decide +kernel
theorem dX9_readBench_21 : decode cX9_readBench 21 = .ok (.invokevirtual 83, 3) := by decide +kernel
theorem dX9_readBench_24 : decode cX9_readBench 24 = .ok (.ireturn, 1) := by decide +kernel
theorem dX9_readBench_25 : decode cX9_readBench 25 = .ok (.aload_n 0, 1) := by decide +kernel
theorem dX9_readBench_26 : decode cX9_readBench 26 = .ok (.getfield 12, 3) := by decide +kernel
theorem dX9_readBench_29 : decode cX9_readBench 29 = .ok (.getfield 196, 3) := by decide +kernel
theorem dX9_readBench_32 : decode cX9_readBench 32 = .ok (.lstore_n 3, 1) := by decide +kernel
theorem dX9_readBench_33 : decode cX9_readBench 33 = .ok (.aload_n 0, 1) := by decide +kernel
theorem dX9_readBench_34 : decode cX9_readBench 34 = .ok (.invokevirtual 200, 3) := by decide +kernel
theorem dX9_readBench_37 : decode cX9_readBench 37 = .ok (.ifCond .eq 10, 3) := by decide +kernel
theorem dX9_readBench_40 : decode cX9_readBench 40 = .ok (.aload_n 0, 1) := by decide +kernel
theorem dX9_readBench_41 : decode cX9_readBench 41 = .ok (.invokevirtual 203, 3) := by decide +kernel
theorem dX9_readBench_44 : decode cX9_readBench 44 = .ok (.ifCond .ne 5, 3) := by decide +kernel
theorem dX9_readBench_47 : decode cX9_readBench 47 = .ok (.iconst 0, 1) := by decide +kernel
theorem dX9_readBench_48 : decode cX9_readBench 48 = .ok (.ireturn, 1) := by decide +kernel
theorem dX9_readBench_49 : decode cX9_readBench 49 = .ok (.aload_n 1, 1) := by decide +kernel
theorem dX9_readBench_50 : decode cX9_readBench 50 = .ok (.getfield 206, 3) := by decide +kernel
theorem dX9_readBench_53 : decode cX9_readBench 53 = .ok (.iload_n 2, 1) := by decide +kernel
theorem dX9_readBench_54 : decode cX9_readBench 54 = .ok (.aload_n 0, 1) := by decide +kernel
theorem dX9_readBench_55 : decode cX9_readBench 55 = .ok (.getfield 164, 3) := by decide +kernel
theorem dX9_readBench_58 : decode cX9_readBench 58 = .ok (.iastore, 1) := by decide +kernel
theorem dX9_readBench_59 : decode cX9_readBench 59 = .ok (.aload_n 0, 1) := by decide +kernel
theorem dX9_readBench_60 : decode cX9_readBench 60 = .ok (.ldc 210, 2) := by decide +kernel
theorem dX9_readBench_62 : decode cX9_readBench 62 = .ok (.invokevirtual 156, 3) := by decide +kernel
theorem dX9_readBench_65 : decode cX9_readBench 65 = .ok (.ifCond .eq 17, 3) := by decide +kernel
theorem dX9_readBench_68 : decode cX9_readBench 68 = .ok (.aload_n 0, 1) := by decide +kernel
theorem dX9_readBench_69 : decode cX9_readBench 69 = .ok (.iconst 0, 1) := by decide +kernel
theorem dX9_readBench_70 : decode cX9_readBench 70 = .ok (.aload_n 1, 1) := by decide +kernel
theorem dX9_readBench_71 : decode cX9_readBench 71 = .ok (.getfield 167, 3) := by decide +kernel
theorem dX9_readBench_74 : decode cX9_readBench 74 = .ok (.iconst 1, 1) := by decide +kernel
theorem dX9_readBench_75 : decode cX9_readBench 75 = .ok (.isub, 1) := by decide +kernel
theorem dX9_readBench_76 : decode cX9_readBench 76 = .ok (.invokevirtual 160, 3) := by decide +kernel
theorem dX9_readBench_79 : decode cX9_readBench 79 = .ok (.ifCond .ne 5, 3) := by decide +kernel
theorem dX9_readBench_82 : decode cX9_readBench 82 = .ok (.iconst 0, 1) := by decide +kernel
theorem dX9_readBench_83 : decode cX9_readBench 83 = .ok (.ireturn, 1) := by decide +kernel
theorem dX9_readBench_84 : decode cX9_readBench 84 = .ok (.aload_n 1, 1) := by decide +kernel
theorem dX9_readBench_85 : decode cX9_readBench 85 = .ok (.getfield 212, 3) := by decide +kernel
theorem dX9_readBench_88 : decode cX9_readBench 88 = .ok (.iload_n 2, 1) := by decide +kernel
theorem dX9_readBench_89 : decode cX9_readBench 89 = .ok (.aload_n 0, 1) := by decide +kernel
theorem dX9_readBench_90 : decode cX9_readBench 90 = .ok (.getfield 164, 3) := by decide +kernel
theorem dX9_readBench_93 : decode cX9_readBench 93 = .ok (.iastore, 1) := by decide +kernel
theorem dX9_readBench_94 : decode cX9_readBench 94 = .ok (.aload_n 0, 1) := by decide +kernel
theorem dX9_readBench_95 : decode cX9_readBench 95 = .ok (.aload_n 1, 1) := by decide +kernel
theorem dX9_readBench_96 : decode cX9_readBench 96 = .ok (.getfield 212, 3) := by decide +kernel
theorem dX9_readBench_99 : decode cX9_readBench 99 = .ok (.iload_n 2, 1) := by decide +kernel
theorem dX9_readBench_100 : decode cX9_readBench 100 = .ok (.iaload, 1) := by decide +kernel
theorem dX9_readBench_101 : decode cX9_readBench 101 = .ok (.invokevirtual 215, 3) := by decide +kernel
theorem dX9_readBench_104 : decode cX9_readBench 104 = .ok (.ifCond .ne 5, 3) := by decide +kernel
theorem dX9_readBench_107 : decode cX9_readBench 107 = .ok (.iconst 0, 1) := by decide +kernel
theorem dX9_readBench_108 : decode cX9_readBench 108 = .ok (.ireturn, 1) := by decide +kernel
theorem dX9_readBench_109 : decode cX9_readBench 109 = .ok (.aload_n 1, 1) := by decide +kernel
theorem dX9_readBench_110 : decode cX9_readBench 110 = .ok (.getfield 218, 3) := by decide +kernel
theorem dX9_readBench_113 : decode cX9_readBench 113 = .ok (.iload_n 2, 1) := by decide +kernel
theorem dX9_readBench_114 : decode cX9_readBench 114 = .ok (.aload_n 0, 1) := by decide +kernel
theorem dX9_readBench_115 : decode cX9_readBench 115 = .ok (.getfield 164, 3) := by decide +kernel
theorem dX9_readBench_118 : decode cX9_readBench 118 = .ok (.iastore, 1) := by decide +kernel
theorem dX9_readBench_119 : decode cX9_readBench 119 = .ok (.aload_n 0, 1) := by decide +kernel
theorem dX9_readBench_120 : decode cX9_readBench 120 = .ok (.ldc 221, 2) := by decide +kernel
theorem dX9_readBench_122 : decode cX9_readBench 122 = .ok (.invokevirtual 156, 3) := by decide +kernel
theorem dX9_readBench_125 : decode cX9_readBench 125 = .ok (.ifCond .eq 12, 3) := by decide +kernel
theorem dX9_readBench_128 : decode cX9_readBench 128 = .ok (.aload_n 0, 1) := by decide +kernel
theorem dX9_readBench_129 : decode cX9_readBench 129 = .ok (.iconst 1, 1) := by decide +kernel
theorem dX9_readBench_130 : decode cX9_readBench 130 = .ok (.iconst 3, 1) := by decide +kernel
theorem dX9_readBench_131 : decode cX9_readBench 131 = .ok (.invokevirtual 160, 3) := by decide +kernel
theorem dX9_readBench_134 : decode cX9_readBench 134 = .ok (.ifCond .ne 5, 3) := by decide +kernel
theorem dX9_readBench_137 : decode cX9_readBench 137 = .ok (.iconst 0, 1) := by decide +kernel
theorem dX9_readBench_138 : decode cX9_readBench 138 = .ok (.ireturn, 1) := by decide +kernel
theorem dX9_readBench_139 : decode cX9_readBench 139 = .ok (.aload_n 1, 1) := by decide +kernel
theorem dX9_readBench_140 : decode cX9_readBench 140 = .ok (.getfield 223, 3) := by decide +kernel
theorem dX9_readBench_143 : decode cX9_readBench 143 = .ok (.iload_n 2, 1) := by decide +kernel
theorem dX9_readBench_144 : decode cX9_readBench 144 = .ok (.aload_n 0, 1) := by decide +kernel
theorem dX9_readBench_145 : decode cX9_readBench 145 = .ok (.getfield 164, 3) := by decide +kernel
theorem dX9_readBench_148 : decode cX9_readBench 148 = .ok (.iastore, 1) := by decide +kernel
theorem dX9_readBench_149 : decode cX9_readBench 149 = .ok (.aload_n 0, 1) := by decide +kernel
theorem dX9_readBench_150 : decode cX9_readBench 150 = .ok (.ldc 225, 2) := by decide +kernel
theorem dX9_readBench_152 : decode cX9_readBench 152 = .ok (.invokevirtual 156, 3) := by decide +kernel
theorem dX9_readBench_155 : decode cX9_readBench 155 = .ok (.ifCond .eq 13, 3) := by decide +kernel
theorem dX9_readBench_158 : decode cX9_readBench 158 = .ok (.aload_n 0, 1) := by decide +kernel
theorem dX9_readBench_159 : decode cX9_readBench 159 = .ok (.iconst 0, 1) := by decide +kernel
theorem dX9_readBench_160 : decode cX9_readBench 160 = .ok (.bipush 30, 2) := by decide +kernel
theorem dX9_readBench_162 : decode cX9_readBench 162 = .ok (.invokevirtual 160, 3) := by decide +kernel
theorem dX9_readBench_165 : decode cX9_readBench 165 = .ok (.ifCond .ne 5, 3) := by decide +kernel
theorem dX9_readBench_168 : decode cX9_readBench 168 = .ok (.iconst 0, 1) := by decide +kernel
theorem dX9_readBench_169 : decode cX9_readBench 169 = .ok (.ireturn, 1) := by decide +kernel
theorem dX9_readBench_170 : decode cX9_readBench 170 = .ok (.aload_n 1, 1) := by decide +kernel
theorem dX9_readBench_171 : decode cX9_readBench 171 = .ok (.getfield 227, 3) := by decide +kernel
theorem dX9_readBench_174 : decode cX9_readBench 174 = .ok (.iload_n 2, 1) := by decide +kernel
theorem dX9_readBench_175 : decode cX9_readBench 175 = .ok (.aload_n 0, 1) := by decide +kernel
theorem dX9_readBench_176 : decode cX9_readBench 176 = .ok (.getfield 164, 3) := by decide +kernel
theorem dX9_readBench_179 : decode cX9_readBench 179 = .ok (.iastore, 1) := by decide +kernel
theorem dX9_readBench_180 : decode cX9_readBench 180 = .ok (.aload_n 0, 1) := by decide +kernel
theorem dX9_readBench_181 : decode cX9_readBench 181 = .ok (.getfield 22, 3) := by decide +kernel
theorem dX9_readBench_184 : decode cX9_readBench 184 = .ok (.iload_n 2, 1) := by decide +kernel
theorem dX9_readBench_185 : decode cX9_readBench 185 = .ok (.lload_n 3, 1) := by decide +kernel
theorem dX9_readBench_186 : decode cX9_readBench 186 = .ok (.lastore, 1) := by decide +kernel
theorem dX9_readBench_187 : decode cX9_readBench 187 = .ok (.aload_n 1, 1) := by decide +kernel
theorem dX9_readBench_188 : decode cX9_readBench 188 = .ok (.dup, 1) := by decide +kernel
theorem dX9_readBench_189 : decode cX9_readBench 189 = .ok (.getfield 91, 3) := by decide +kernel
theorem dX9_readBench_192 : decode cX9_readBench 192 = .ok (.iconst 1, 1) := by decide +kernel
theorem dX9_readBench_193 : decode cX9_readBench 193 = .ok (.iadd, 1) := by decide +kernel
theorem dX9_readBench_194 : decode cX9_readBench 194 = .ok (.putfield 91, 3) := by decide +kernel
theorem dX9_readBench_197 : decode cX9_readBench 197 = .ok (.iconst 1, 1) := by decide +kernel
theorem dX9_readBench_198 : decode cX9_readBench 198 = .ok (.ireturn, 1) := by decide +kernel
theorem dX9_readDown_0 : decode cX9_readDown 0 = .ok (.aload_n 0, 1) := by decide +kernel
theorem dX9_readDown_1 : decode cX9_readDown 1 = .ok (.getfield 31, 3) := by decide +kernel
theorem dX9_readDown_4 : decode cX9_readDown 4 = .ok (.getfield 87, 3) := by decide +kernel
theorem dX9_readDown_7 : decode cX9_readDown 7 = .ok (.astore_n 2, 1) := by decide +kernel
theorem dX9_readDown_8 : decode cX9_readDown 8 = .ok (.aload_n 0, 1) := by decide +kernel
theorem dX9_readDown_9 : decode cX9_readDown 9 = .ok (.getfield 12, 3) := by decide +kernel
theorem dX9_readDown_12 : decode cX9_readDown 12 = .ok (.getfield 77, 3) := by decide +kernel
theorem dX9_readDown_15 : decode cX9_readDown 15 = .ok (.iconst 2, 1) := by decide +kernel
theorem dX9_readDown_16 : decode cX9_readDown 16 = .ok (.if_icmp .ne 39, 3) := by decide +kernel
theorem dX9_readDown_19 : decode cX9_readDown 19 = .ok (.aload_n 0, 1) := by decide +kernel
theorem dX9_readDown_20 : decode cX9_readDown 20 = .ok (.getfield 12, 3) := by decide +kernel
theorem dX9_readDown_23 : decode cX9_readDown 23 = .ok (.getfield 230, 3) := by decide +kernel
theorem dX9_readDown_26 : decode cX9_readDown 26 = .ok (.aload_n 2, 1) := by decide +kernel
theorem dX9_readDown_27 : decode cX9_readDown 27 = .ok (.getfield 171, 3) := by decide +kernel
theorem dX9_readDown_30 : decode cX9_readDown 30 = .ok (.if_icmp .ge 25, 3) := by decide +kernel
theorem dX9_readDown_33 : decode cX9_readDown 33 = .ok (.aload_n 2, 1) := by decide +kernel
theorem dX9_readDown_34 : decode cX9_readDown 34 = .ok (.iload_n 1, 1) := by decide +kernel
theorem dX9_readDown_35 : decode cX9_readDown 35 = .ok (.aload_n 0, 1) := by decide +kernel
theorem dX9_readDown_36 : decode cX9_readDown 36 = .ok (.getfield 12, 3) := by decide +kernel
theorem dX9_readDown_39 : decode cX9_readDown 39 = .ok (.getfield 230, 3) := by decide +kernel
theorem dX9_readDown_42 : decode cX9_readDown 42 = .ok (.invokevirtual 233, 3) := by decide +kernel
theorem dX9_readDown_45 : decode cX9_readDown 45 = .ok (.ifCond .eq 10, 3) := by decide +kernel
theorem dX9_readDown_48 : decode cX9_readDown 48 = .ok (.aload_n 0, 1) := by decide +kernel
theorem dX9_readDown_49 : decode cX9_readDown 49 = .ok (.bipush 7, 2) := by decide +kernel
theorem dX9_readDown_51 : decode cX9_readDown 51 = .ok (.invokevirtual 83, 3) := by decide +kernel
theorem dX9_readDown_54 : decode cX9_readDown 54 = .ok (.ireturn, 1) := by decide +kernel
theorem dX9_readDown_55 : decode cX9_readDown 55 = .ok (.aload_n 0, 1) := by decide +kernel
theorem dX9_readDown_56 : decode cX9_readDown 56 = .ok (.iconst 0, 1) := by decide +kernel
theorem dX9_readDown_57 : decode cX9_readDown 57 = .ok (.aload_n 2, 1) := by decide +kernel
theorem dX9_readDown_58 : decode cX9_readDown 58 = .ok (.getfield 171, 3) := by decide +kernel
theorem dX9_readDown_61 : decode cX9_readDown 61 = .ok (.iconst 1, 1) := by decide +kernel
theorem dX9_readDown_62 : decode cX9_readDown 62 = .ok (.isub, 1) := by decide +kernel
theorem dX9_readDown_63 : decode cX9_readDown 63 = .ok (.invokevirtual 160, 3) := by decide +kernel
theorem dX9_readDown_66 : decode cX9_readDown 66 = .ok (.ireturn, 1) := by decide +kernel
theorem dX9_readPerson_0 : decode cX9_readPerson 0 = .ok (.aload_n 0, 1) := by decide +kernel
theorem dX9_readPerson_1 : decode cX9_readPerson 1 = .ok (.getfield 31, 3) := by decide +kernel
theorem dX9_readPerson_4 : decode cX9_readPerson 4 = .ok (.getfield 132, 3) := by decide +kernel
theorem dX9_readPerson_7 : decode cX9_readPerson 7 = .ok (.astore_n 1, 1) := by decide +kernel
theorem dX9_readPerson_8 : decode cX9_readPerson 8 = .ok (.aload_n 1, 1) := by decide +kernel
theorem dX9_readPerson_9 : decode cX9_readPerson 9 = .ok (.getfield 136, 3) := by decide +kernel
theorem dX9_readPerson_12 : decode cX9_readPerson 12 = .ok (.istore_n 2, 1) := by decide +kernel
theorem dX9_readPerson_13 : decode cX9_readPerson 13 = .ok (.iload_n 2, 1) := by decide +kernel
theorem dX9_readPerson_14 : decode cX9_readPerson 14 = .ok (.bipush 7, 2) := by decide +kernel
theorem dX9_readPerson_16 : decode cX9_readPerson 16 = .ok (.if_icmp .lt 9, 3) := by decide +kernel
theorem dX9_readPerson_19 : decode cX9_readPerson 19 = .ok (.aload_n 0, 1) := by decide +kernel
theorem dX9_readPerson_20 : decode cX9_readPerson 20 = .ok (.iconst 5, 1) := by decide +kernel
theorem dX9_readPerson_21 : decode cX9_readPerson 21 = .ok (.invokevirtual 83, 3) := by decide +kernel
theorem dX9_readPerson_24 : decode cX9_readPerson 24 = .ok (.ireturn, 1) := by decide +kernel
theorem dX9_readPerson_25 : decode cX9_readPerson 25 = .ok (.aload_n 0, 1) := by decide +kernel
theorem dX9_readPerson_26 : decode cX9_readPerson 26 = .ok (.getfield 12, 3) := by decide +kernel
theorem dX9_readPerson_29 : decode cX9_readPerson 29 = .ok (.getfield 196, 3) := by decide +kernel
theorem dX9_readPerson_32 : decode cX9_readPerson 32 = .ok (.lstore_n 3, 1) := by decide +kernel
theorem dX9_readPerson_33 : decode cX9_readPerson 33 = .ok (.aload_n 0, 1) := by decide +kernel
theorem dX9_readPerson_34 : decode cX9_readPerson 34 = .ok (.invokevirtual 200, 3) := by decide +kernel
theorem dX9_readPerson_37 : decode cX9_readPerson 37 = .ok (.ifCond .eq 10, 3) := by decide +kernel
theorem dX9_readPerson_40 : decode cX9_readPerson 40 = .ok (.aload_n 0, 1) := by decide +kernel
theorem dX9_readPerson_41 : decode cX9_readPerson 41 = .ok (.invokevirtual 236, 3) := by decide +kernel
theorem dX9_readPerson_44 : decode cX9_readPerson 44 = .ok (.ifCond .ne 5, 3) := by decide +kernel
theorem dX9_readPerson_47 : decode cX9_readPerson 47 = .ok (.iconst 0, 1) := by decide +kernel
theorem dX9_readPerson_48 : decode cX9_readPerson 48 = .ok (.ireturn, 1) := by decide +kernel
theorem dX9_readPerson_49 : decode cX9_readPerson 49 = .ok (.aload_n 1, 1) := by decide +kernel
theorem dX9_readPerson_50 : decode cX9_readPerson 50 = .ok (.getfield 239, 3) := by decide +kernel
theorem dX9_readPerson_53 : decode cX9_readPerson 53 = .ok (.iload_n 2, 1) := by decide +kernel
theorem dX9_readPerson_54 : decode cX9_readPerson 54 = .ok (.aload_n 0, 1) := by decide +kernel
theorem dX9_readPerson_55 : decode cX9_readPerson 55 = .ok (.getfield 164, 3) := by decide +kernel
theorem dX9_readPerson_58 : decode cX9_readPerson 58 = .ok (.iastore, 1) := by decide +kernel
theorem dX9_readPerson_59 : decode cX9_readPerson 59 = .ok (.aload_n 0, 1) := by decide +kernel
theorem dX9_readPerson_60 : decode cX9_readPerson 60 = .ok (.ldc 242, 2) := by decide +kernel
theorem dX9_readPerson_62 : decode cX9_readPerson 62 = .ok (.invokevirtual 156, 3) := by decide +kernel
theorem dX9_readPerson_65 : decode cX9_readPerson 65 = .ok (.ifCond .eq 11, 3) := by decide +kernel
theorem dX9_readPerson_68 : decode cX9_readPerson 68 = .ok (.aload_n 0, 1) := by decide +kernel
theorem dX9_readPerson_69 : decode cX9_readPerson 69 = .ok (.iload_n 2, 1) := by decide +kernel
theorem dX9_readPerson_70 : decode cX9_readPerson 70 = .ok (.invokevirtual 244, 3) := by decide +kernel
theorem dX9_readPerson_73 : decode cX9_readPerson 73 = .ok (.ifCond .ne 5, 3) := by decide +kernel
theorem dX9_readPerson_76 : decode cX9_readPerson 76 = .ok (.iconst 0, 1) := by decide +kernel
theorem dX9_readPerson_77 : decode cX9_readPerson 77 = .ok (.ireturn, 1) := by decide +kernel
theorem dX9_readPerson_78 : decode cX9_readPerson 78 = .ok (.aload_n 0, 1) := by decide +kernel
theorem dX9_readPerson_79 : decode cX9_readPerson 79 = .ok (.ldc 247, 2) := by decide +kernel
theorem dX9_readPerson_81 : decode cX9_readPerson 81 = .ok (.invokevirtual 156, 3) := by decide +kernel
theorem dX9_readPerson_84 : decode cX9_readPerson 84 = .ok (.ifCond .eq 13, 3) := by decide +kernel
theorem dX9_readPerson_87 : decode cX9_readPerson 87 = .ok (.aload_n 0, 1) := by decide +kernel
theorem dX9_readPerson_88 : decode cX9_readPerson 88 = .ok (.iconst 0, 1) := by decide +kernel
theorem dX9_readPerson_89 : decode cX9_readPerson 89 = .ok (.bipush 60, 2) := by decide +kernel
theorem dX9_readPerson_91 : decode cX9_readPerson 91 = .ok (.invokevirtual 160, 3) := by decide +kernel
theorem dX9_readPerson_94 : decode cX9_readPerson 94 = .ok (.ifCond .ne 5, 3) := by decide +kernel
theorem dX9_readPerson_97 : decode cX9_readPerson 97 = .ok (.iconst 0, 1) := by decide +kernel
theorem dX9_readPerson_98 : decode cX9_readPerson 98 = .ok (.ireturn, 1) := by decide +kernel
theorem dX9_readPerson_99 : decode cX9_readPerson 99 = .ok (.aload_n 1, 1) := by decide +kernel
theorem dX9_readPerson_100 : decode cX9_readPerson 100 = .ok (.getfield 249, 3) := by decide +kernel
theorem dX9_readPerson_103 : decode cX9_readPerson 103 = .ok (.iload_n 2, 1) := by decide +kernel
theorem dX9_readPerson_104 : decode cX9_readPerson 104 = .ok (.aload_n 0, 1) := by decide +kernel
theorem dX9_readPerson_105 : decode cX9_readPerson 105 = .ok (.getfield 164, 3) := by decide +kernel
theorem dX9_readPerson_108 : decode cX9_readPerson 108 = .ok (.iastore, 1) := by decide +kernel
theorem dX9_readPerson_109 : decode cX9_readPerson 109 = .ok (.aload_n 0, 1) := by decide +kernel
theorem dX9_readPerson_110 : decode cX9_readPerson 110 = .ok (.getfield 25, 3) := by decide +kernel
theorem dX9_readPerson_113 : decode cX9_readPerson 113 = .ok (.iload_n 2, 1) := by decide +kernel
theorem dX9_readPerson_114 : decode cX9_readPerson 114 = .ok (.lload_n 3, 1) := by decide +kernel
theorem dX9_readPerson_115 : decode cX9_readPerson 115 = .ok (.lastore, 1) := by decide +kernel
theorem dX9_readPerson_116 : decode cX9_readPerson 116 = .ok (.aload_n 1, 1) := by decide +kernel
theorem dX9_readPerson_117 : decode cX9_readPerson 117 = .ok (.dup, 1) := by decide +kernel
theorem dX9_readPerson_118 : decode cX9_readPerson 118 = .ok (.getfield 136, 3) := by decide +kernel
theorem dX9_readPerson_121 : decode cX9_readPerson 121 = .ok (.iconst 1, 1) := by decide +kernel
theorem dX9_readPerson_122 : decode cX9_readPerson 122 = .ok (.iadd, 1) := by decide +kernel
theorem dX9_readPerson_123 : decode cX9_readPerson 123 = .ok (.putfield 136, 3) := by decide +kernel
theorem dX9_readPerson_126 : decode cX9_readPerson 126 = .ok (.aload_n 0, 1) := by decide +kernel
theorem dX9_readPerson_127 : decode cX9_readPerson 127 = .ok (.getfield 12, 3) := by decide +kernel
theorem dX9_readPerson_130 : decode cX9_readPerson 130 = .ok (.ldc 57, 2) := by decide +kernel
theorem dX9_readPerson_132 : decode cX9_readPerson 132 = .ok (.invokevirtual 252, 3) := by decide +kernel
theorem dX9_readPerson_135 : decode cX9_readPerson 135 = .ok (.ifCond .ne 5, 3) := by decide +kernel
theorem dX9_readPerson_138 : decode cX9_readPerson 138 = .ok (.iconst 1, 1) := by decide +kernel
theorem dX9_readPerson_139 : decode cX9_readPerson 139 = .ok (.ireturn, 1) := by decide +kernel
theorem dX9_readPerson_140 : decode cX9_readPerson 140 = .ok (.aload_n 0, 1) := by decide +kernel
theorem dX9_readPerson_141 : decode cX9_readPerson 141 = .ok (.getfield 12, 3) := by decide +kernel
theorem dX9_readPerson_144 : decode cX9_readPerson 144 = .ok (.invokevirtual 80, 3) := by decide +kernel
theorem dX9_readPerson_147 : decode cX9_readPerson 147 = .ok (.aload_n 0, 1) := by decide +kernel
theorem dX9_readPerson_148 : decode cX9_readPerson 148 = .ok (.iload_n 2, 1) := by decide +kernel
theorem dX9_readPerson_149 : decode cX9_readPerson 149 = .ok (.invokevirtual 255, 3) := by decide +kernel
theorem dX9_readPerson_152 : decode cX9_readPerson 152 = .ok (.ireturn, 1) := by decide +kernel
theorem dX9_readTown_0 : decode cX9_readTown 0 = .ok (.aload_n 0, 1) := by decide +kernel
theorem dX9_readTown_1 : decode cX9_readTown 1 = .ok (.getfield 12, 3) := by decide +kernel
theorem dX9_readTown_4 : decode cX9_readTown 4 = .ok (.getfield 77, 3) := by decide +kernel
theorem dX9_readTown_7 : decode cX9_readTown 7 = .ok (.iconst 1, 1) := by decide +kernel
theorem dX9_readTown_8 : decode cX9_readTown 8 = .ok (.if_icmp .eq 9, 3) := by decide +kernel
theorem dX9_readTown_11 : decode cX9_readTown 11 = .ok (.aload_n 0, 1) := by decide +kernel
theorem dX9_readTown_12 : decode cX9_readTown 12 = .ok (.iconst 1, 1) := by decide +kernel
theorem dX9_readTown_13 : decode cX9_readTown 13 = .ok (.invokevirtual 83, 3) := by decide +kernel
theorem dX9_readTown_16 : decode cX9_readTown 16 = .ok (.ireturn, 1) := by decide +kernel
theorem dX9_readTown_17 : decode cX9_readTown 17 = .ok (.aload_n 0, 1) := by decide +kernel
theorem dX9_readTown_18 : decode cX9_readTown 18 = .ok (.getfield 31, 3) := by decide +kernel
theorem dX9_readTown_21 : decode cX9_readTown 21 = .ok (.getfield 132, 3) := by decide +kernel
theorem dX9_readTown_24 : decode cX9_readTown 24 = .ok (.getfield 258, 3) := by decide +kernel
theorem dX9_readTown_27 : decode cX9_readTown 27 = .ok (.iload_n 1, 1) := by decide +kernel
theorem dX9_readTown_28 : decode cX9_readTown 28 = .ok (.aload_n 0, 1) := by decide +kernel
theorem dX9_readTown_29 : decode cX9_readTown 29 = .ok (.getfield 12, 3) := by decide +kernel
theorem dX9_readTown_32 : decode cX9_readTown 32 = .ok (.getfield 196, 3) := by decide +kernel
theorem dX9_readTown_35 : decode cX9_readTown 35 = .ok (.lastore, 1) := by decide +kernel
theorem dX9_readTown_36 : decode cX9_readTown 36 = .ok (.aload_n 0, 1) := by decide +kernel
theorem dX9_readTown_37 : decode cX9_readTown 37 = .ok (.getfield 12, 3) := by decide +kernel
theorem dX9_readTown_40 : decode cX9_readTown 40 = .ok (.invokevirtual 80, 3) := by decide +kernel
theorem dX9_readTown_43 : decode cX9_readTown 43 = .ok (.iconst 1, 1) := by decide +kernel
theorem dX9_readTown_44 : decode cX9_readTown 44 = .ok (.ireturn, 1) := by decide +kernel
theorem dX9_readSeat_0 : decode cX9_readSeat 0 = .ok (.aload_n 0, 1) := by decide +kernel
theorem dX9_readSeat_1 : decode cX9_readSeat 1 = .ok (.invokevirtual 261, 3) := by decide +kernel
theorem dX9_readSeat_4 : decode cX9_readSeat 4 = .ok (.ifCond .ne 9, 3) := by decide +kernel
theorem dX9_readSeat_7 : decode cX9_readSeat 7 = .ok (.aload_n 0, 1) := by decide +kernel
theorem dX9_readSeat_8 : decode cX9_readSeat 8 = .ok (.iconst 1, 1) := by decide +kernel
theorem dX9_readSeat_9 : decode cX9_readSeat 9 = .ok (.invokevirtual 83, 3) := by decide +kernel
theorem dX9_readSeat_12 : decode cX9_readSeat 12 = .ok (.ireturn, 1) := by decide +kernel
theorem dX9_readSeat_13 : decode cX9_readSeat 13 = .ok (.aload_n 0, 1) := by decide +kernel
theorem dX9_readSeat_14 : decode cX9_readSeat 14 = .ok (.getfield 22, 3) := by decide +kernel
theorem dX9_readSeat_17 : decode cX9_readSeat 17 = .ok (.aload_n 0, 1) := by decide +kernel
theorem dX9_readSeat_18 : decode cX9_readSeat 18 = .ok (.getfield 31, 3) := by decide +kernel
theorem dX9_readSeat_21 : decode cX9_readSeat 21 = .ok (.getfield 87, 3) := by decide +kernel
theorem dX9_readSeat_24 : decode cX9_readSeat 24 = .ok (.getfield 91, 3) := by decide +kernel
theorem dX9_readSeat_27 : decode cX9_readSeat 27 = .ok (.aload_n 0, 1) := by decide +kernel
theorem dX9_readSeat_28 : decode cX9_readSeat 28 = .ok (.getfield 12, 3) := by decide +kernel
theorem dX9_readSeat_31 : decode cX9_readSeat 31 = .ok (.getfield 196, 3) := by decide +kernel
theorem dX9_readSeat_34 : decode cX9_readSeat 34 = .ok (.invokestatic 264, 3) := by decide +kernel
theorem dX9_readSeat_37 : decode cX9_readSeat 37 = .ok (.istore_n 2, 1) := by decide +kernel
theorem dX9_readSeat_38 : decode cX9_readSeat 38 = .ok (.iload_n 2, 1) := by decide +kernel
theorem dX9_readSeat_39 : decode cX9_readSeat 39 = .ok (.iconst (-1), 1) := by decide +kernel
theorem dX9_readSeat_40 : decode cX9_readSeat 40 = .ok (.if_icmp .ne 9, 3) := by decide +kernel
theorem dX9_readSeat_43 : decode cX9_readSeat 43 = .ok (.aload_n 0, 1) := by decide +kernel
theorem dX9_readSeat_44 : decode cX9_readSeat 44 = .ok (.iconst 2, 1) := by decide +kernel
theorem dX9_readSeat_45 : decode cX9_readSeat 45 = .ok (.invokevirtual 83, 3) := by decide +kernel
theorem dX9_readSeat_48 : decode cX9_readSeat 48 = .ok (.ireturn, 1) := by decide +kernel
theorem dX9_readSeat_49 : decode cX9_readSeat 49 = .ok (.aload_n 0, 1) := by decide +kernel
theorem dX9_readSeat_50 : decode cX9_readSeat 50 = .ok (.getfield 31, 3) := by decide +kernel
theorem dX9_readSeat_53 : decode cX9_readSeat 53 = .ok (.iload_n 1, 1) := by decide +kernel
theorem dX9_readSeat_54 : decode cX9_readSeat 54 = .ok (.iload_n 2, 1) := by decide +kernel
theorem dX9_readSeat_55 : decode cX9_readSeat 55 = .ok (.invokevirtual 268, 3) := by decide +kernel
theorem dX9_readSeat_58 : decode cX9_readSeat 58 = .ok (.ifCond .eq 21, 3) := by decide +kernel
theorem dX9_readSeat_61 : decode cX9_readSeat 61 = .ok (.aload_n 0, 1) := by decide +kernel
theorem dX9_readSeat_62 : decode cX9_readSeat 62 = .ok (.getfield 31, 3) := by decide +kernel
theorem dX9_readSeat_65 : decode cX9_readSeat 65 = .ok (.aload_n 0, 1) := by decide +kernel
theorem dX9_readSeat_66 : decode cX9_readSeat 66 = .ok (.getfield 31, 3) := by decide +kernel
theorem dX9_readSeat_69 : decode cX9_readSeat 69 = .ok (.getfield 187, 3) := by decide +kernel
theorem dX9_readSeat_72 : decode cX9_readSeat 72 = .ok (.iload_n 2, 1) := by decide +kernel
theorem dX9_readSeat_73 : decode cX9_readSeat 73 = .ok (.invokevirtual 271, 3) := by decide +kernel
theorem dX9_readSeat_76 : decode cX9_readSeat 76 = .ok (.ifCond .ne 10, 3) := by decide +kernel
theorem dX9_readSeat_79 : decode cX9_readSeat 79 = .ok (.aload_n 0, 1) := by decide +kernel
theorem dX9_readSeat_80 : decode cX9_readSeat 80 = .ok (.bipush 7, 2) := by decide +kernel
theorem dX9_readSeat_82 : decode cX9_readSeat 82 = .ok (.invokevirtual 83, 3) := by decide +kernel
theorem dX9_readSeat_85 : decode cX9_readSeat 85 = .ok (.ireturn, 1) := by decide +kernel
theorem dX9_readSeat_86 : decode cX9_readSeat 86 = .ok (.aload_n 0, 1) := by decide +kernel
theorem dX9_readSeat_87 : decode cX9_readSeat 87 = .ok (.getfield 31, 3) := by decide +kernel
theorem dX9_readSeat_90 : decode cX9_readSeat 90 = .ok (.getfield 187, 3) := by decide +kernel
theorem dX9_readSeat_93 : decode cX9_readSeat 93 = .ok (.getfield 275, 3) := by decide +kernel
theorem dX9_readSeat_96 : decode cX9_readSeat 96 = .ok (.iload_n 1, 1) := by decide +kernel
theorem dX9_readSeat_97 : decode cX9_readSeat 97 = .ok (.iload_n 2, 1) := by decide +kernel
theorem dX9_readSeat_98 : decode cX9_readSeat 98 = .ok (.iastore, 1) := by decide +kernel
theorem dX9_readSeat_99 : decode cX9_readSeat 99 = .ok (.aload_n 0, 1) := by decide +kernel
theorem dX9_readSeat_100 : decode cX9_readSeat 100 = .ok (.getfield 12, 3) := by decide +kernel
theorem dX9_readSeat_103 : decode cX9_readSeat 103 = .ok (.invokevirtual 80, 3) := by decide +kernel
theorem dX9_readSeat_106 : decode cX9_readSeat 106 = .ok (.iconst 1, 1) := by decide +kernel
theorem dX9_readSeat_107 : decode cX9_readSeat 107 = .ok (.ireturn, 1) := by decide +kernel
theorem dX9_readKin_0 : decode cX9_readKin 0 = .ok (.aload_n 0, 1) := by decide +kernel
theorem dX9_readKin_1 : decode cX9_readKin 1 = .ok (.invokevirtual 278, 3) := by decide +kernel
theorem dX9_readKin_4 : decode cX9_readKin 4 = .ok (.ifCond .ne 5, 3) := by decide +kernel
theorem dX9_readKin_7 : decode cX9_readKin 7 = .ok (.iconst 0, 1) := by decide +kernel
theorem dX9_readKin_8 : decode cX9_readKin 8 = .ok (.ireturn, 1) := by decide +kernel
theorem dX9_readKin_9 : decode cX9_readKin 9 = .ok (.aload_n 0, 1) := by decide +kernel
theorem dX9_readKin_10 : decode cX9_readKin 10 = .ok (.getfield 164, 3) := by decide +kernel
theorem dX9_readKin_13 : decode cX9_readKin 13 = .ok (.istore_n 1, 1) := by decide +kernel
theorem dX9_readKin_14 : decode cX9_readKin 14 = .ok (.aload_n 0, 1) := by decide +kernel
theorem dX9_readKin_15 : decode cX9_readKin 15 = .ok (.getfield 12, 3) := by decide +kernel
theorem dX9_readKin_18 : decode cX9_readKin 18 = .ok (.invokevirtual 80, 3) := by decide +kernel
theorem dX9_readKin_21 : decode cX9_readKin 21 = .ok (.aload_n 0, 1) := by decide +kernel
theorem dX9_readKin_22 : decode cX9_readKin 22 = .ok (.invokevirtual 278, 3) := by decide +kernel
theorem dX9_readKin_25 : decode cX9_readKin 25 = .ok (.ifCond .ne 5, 3) := by decide +kernel
theorem dX9_readKin_28 : decode cX9_readKin 28 = .ok (.iconst 0, 1) := by decide +kernel
theorem dX9_readKin_29 : decode cX9_readKin 29 = .ok (.ireturn, 1) := by decide +kernel
theorem dX9_readKin_30 : decode cX9_readKin 30 = .ok (.aload_n 0, 1) := by decide +kernel
theorem dX9_readKin_31 : decode cX9_readKin 31 = .ok (.getfield 164, 3) := by decide +kernel
theorem dX9_readKin_34 : decode cX9_readKin 34 = .ok (.iload_n 1, 1) := by decide +kernel
theorem dX9_readKin_35 : decode cX9_readKin 35 = .ok (.if_icmp .eq 21, 3) := by decide +kernel
theorem dX9_readKin_38 : decode cX9_readKin 38 = .ok (.aload_n 0, 1) := by decide +kernel
theorem dX9_readKin_39 : decode cX9_readKin 39 = .ok (.getfield 31, 3) := by decide +kernel
theorem dX9_readKin_42 : decode cX9_readKin 42 = .ok (.getfield 132, 3) := by decide +kernel
theorem dX9_readKin_45 : decode cX9_readKin 45 = .ok (.iload_n 1, 1) := by decide +kernel
theorem dX9_readKin_46 : decode cX9_readKin 46 = .ok (.aload_n 0, 1) := by decide +kernel
theorem dX9_readKin_47 : decode cX9_readKin 47 = .ok (.getfield 164, 3) := by decide +kernel
theorem dX9_readKin_50 : decode cX9_readKin 50 = .ok (.invokevirtual 281, 3) := by decide +kernel
theorem dX9_readKin_53 : decode cX9_readKin 53 = .ok (.ifCond .eq 9, 3) := by decide +kernel
theorem dX9_readKin_56 : decode cX9_readKin 56 = .ok (.aload_n 0, 1) := by decide +kernel
theorem dX9_readKin_57 : decode cX9_readKin 57 = .ok (.iconst 3, 1) := by decide +kernel
theorem dX9_readKin_58 : decode cX9_readKin 58 = .ok (.invokevirtual 83, 3) := by decide +kernel
theorem dX9_readKin_61 : decode cX9_readKin 61 = .ok (.ireturn, 1) := by decide +kernel
theorem dX9_readKin_62 : decode cX9_readKin 62 = .ok (.aload_n 0, 1) := by decide +kernel
theorem dX9_readKin_63 : decode cX9_readKin 63 = .ok (.getfield 31, 3) := by decide +kernel
theorem dX9_readKin_66 : decode cX9_readKin 66 = .ok (.getfield 132, 3) := by decide +kernel
theorem dX9_readKin_69 : decode cX9_readKin 69 = .ok (.iload_n 1, 1) := by decide +kernel
theorem dX9_readKin_70 : decode cX9_readKin 70 = .ok (.aload_n 0, 1) := by decide +kernel
theorem dX9_readKin_71 : decode cX9_readKin 71 = .ok (.getfield 164, 3) := by decide +kernel
theorem dX9_readKin_74 : decode cX9_readKin 74 = .ok (.invokevirtual 284, 3) := by decide +kernel
theorem dX9_readKin_77 : decode cX9_readKin 77 = .ok (.aload_n 0, 1) := by decide +kernel
theorem dX9_readKin_78 : decode cX9_readKin 78 = .ok (.getfield 12, 3) := by decide +kernel
theorem dX9_readKin_81 : decode cX9_readKin 81 = .ok (.invokevirtual 80, 3) := by decide +kernel
theorem dX9_readKin_84 : decode cX9_readKin 84 = .ok (.iconst 1, 1) := by decide +kernel
theorem dX9_readKin_85 : decode cX9_readKin 85 = .ok (.ireturn, 1) := by decide +kernel
theorem dX9_readHeeds_0 : decode cX9_readHeeds 0 = .ok (.aload_n 0, 1) := by decide +kernel
theorem dX9_readHeeds_1 : decode cX9_readHeeds 1 = .ok (.invokevirtual 278, 3) := by decide +kernel
theorem dX9_readHeeds_4 : decode cX9_readHeeds 4 = .ok (.ifCond .ne 5, 3) := by decide +kernel
theorem dX9_readHeeds_7 : decode cX9_readHeeds 7 = .ok (.iconst 0, 1) := by decide +kernel
theorem dX9_readHeeds_8 : decode cX9_readHeeds 8 = .ok (.ireturn, 1) := by decide +kernel
theorem dX9_readHeeds_9 : decode cX9_readHeeds 9 = .ok (.aload_n 0, 1) := by decide +kernel
theorem dX9_readHeeds_10 : decode cX9_readHeeds 10 = .ok (.getfield 164, 3) := by decide +kernel
theorem dX9_readHeeds_13 : decode cX9_readHeeds 13 = .ok (.istore_n 1, 1) := by decide +kernel
theorem dX9_readHeeds_14 : decode cX9_readHeeds 14 = .ok (.aload_n 0, 1) := by decide +kernel
theorem dX9_readHeeds_15 : decode cX9_readHeeds 15 = .ok (.getfield 12, 3) := by decide +kernel
theorem dX9_readHeeds_18 : decode cX9_readHeeds 18 = .ok (.invokevirtual 80, 3) := by decide +kernel
theorem dX9_readHeeds_21 : decode cX9_readHeeds 21 = .ok (.aload_n 0, 1) := by decide +kernel
theorem dX9_readHeeds_22 : decode cX9_readHeeds 22 = .ok (.invokevirtual 278, 3) := by decide +kernel
theorem dX9_readHeeds_25 : decode cX9_readHeeds 25 = .ok (.ifCond .ne 5, 3) := by decide +kernel
theorem dX9_readHeeds_28 : decode cX9_readHeeds 28 = .ok (.iconst 0, 1) := by decide +kernel
theorem dX9_readHeeds_29 : decode cX9_readHeeds 29 = .ok (.ireturn, 1) := by decide +kernel
theorem dX9_readHeeds_30 : decode cX9_readHeeds 30 = .ok (.aload_n 0, 1) := by decide +kernel
theorem dX9_readHeeds_31 : decode cX9_readHeeds 31 = .ok (.getfield 164, 3) := by decide +kernel
theorem dX9_readHeeds_34 : decode cX9_readHeeds 34 = .ok (.istore_n 2, 1) := by decide +kernel
theorem dX9_readHeeds_35 : decode cX9_readHeeds 35 = .ok (.iload_n 2, 1) := by decide +kernel
theorem dX9_readHeeds_36 : decode cX9_readHeeds 36 = .ok (.iload_n 1, 1) := by decide +kernel
theorem dX9_readHeeds_37 : decode cX9_readHeeds 37 = .ok (.if_icmp .eq 18, 3) := by decide +kernel
theorem dX9_readHeeds_40 : decode cX9_readHeeds 40 = .ok (.aload_n 0, 1) := by decide +kernel
theorem dX9_readHeeds_41 : decode cX9_readHeeds 41 = .ok (.getfield 31, 3) := by decide +kernel
theorem dX9_readHeeds_44 : decode cX9_readHeeds 44 = .ok (.getfield 132, 3) := by decide +kernel
theorem dX9_readHeeds_47 : decode cX9_readHeeds 47 = .ok (.iload_n 1, 1) := by decide +kernel
theorem dX9_readHeeds_48 : decode cX9_readHeeds 48 = .ok (.iload_n 2, 1) := by decide +kernel
theorem dX9_readHeeds_49 : decode cX9_readHeeds 49 = .ok (.invokevirtual 288, 3) := by decide +kernel
theorem dX9_readHeeds_52 : decode cX9_readHeeds 52 = .ok (.ifCond .eq 9, 3) := by decide +kernel
theorem dX9_readHeeds_55 : decode cX9_readHeeds 55 = .ok (.aload_n 0, 1) := by decide +kernel
theorem dX9_readHeeds_56 : decode cX9_readHeeds 56 = .ok (.iconst 3, 1) := by decide +kernel
theorem dX9_readHeeds_57 : decode cX9_readHeeds 57 = .ok (.invokevirtual 83, 3) := by decide +kernel
theorem dX9_readHeeds_60 : decode cX9_readHeeds 60 = .ok (.ireturn, 1) := by decide +kernel
theorem dX9_readHeeds_61 : decode cX9_readHeeds 61 = .ok (.aload_n 0, 1) := by decide +kernel
theorem dX9_readHeeds_62 : decode cX9_readHeeds 62 = .ok (.getfield 12, 3) := by decide +kernel
theorem dX9_readHeeds_65 : decode cX9_readHeeds 65 = .ok (.invokevirtual 80, 3) := by decide +kernel
theorem dX9_readHeeds_68 : decode cX9_readHeeds 68 = .ok (.aload_n 0, 1) := by decide +kernel
theorem dX9_readHeeds_69 : decode cX9_readHeeds 69 = .ok (.ldc_w 290, 3) := by decide +kernel
theorem dX9_readHeeds_72 : decode cX9_readHeeds 72 = .ok (.invokevirtual 156, 3) := by decide +kernel
theorem dX9_readHeeds_75 : decode cX9_readHeeds 75 = .ok (.ifCond .eq 13, 3) := by decide +kernel
theorem dX9_readHeeds_78 : decode cX9_readHeeds 78 = .ok (.aload_n 0, 1) := by decide +kernel
theorem dX9_readHeeds_79 : decode cX9_readHeeds 79 = .ok (.iconst 1, 1) := by decide +kernel
theorem dX9_readHeeds_80 : decode cX9_readHeeds 80 = .ok (.bipush 9, 2) := by decide +kernel
theorem dX9_readHeeds_82 : decode cX9_readHeeds 82 = .ok (.invokevirtual 160, 3) := by decide +kernel
theorem dX9_readHeeds_85 : decode cX9_readHeeds 85 = .ok (.ifCond .ne 5, 3) := by decide +kernel
theorem dX9_readHeeds_88 : decode cX9_readHeeds 88 = .ok (.iconst 0, 1) := by decide +kernel
theorem dX9_readHeeds_89 : decode cX9_readHeeds 89 = .ok (.ireturn, 1) := by decide +kernel
theorem dX9_readHeeds_90 : decode cX9_readHeeds 90 = .ok (.aload_n 0, 1) := by decide +kernel
theorem dX9_readHeeds_91 : decode cX9_readHeeds 91 = .ok (.getfield 31, 3) := by decide +kernel
theorem dX9_readHeeds_94 : decode cX9_readHeeds 94 = .ok (.getfield 132, 3) := by decide +kernel
theorem dX9_readHeeds_97 : decode cX9_readHeeds 97 = .ok (.iload_n 1, 1) := by decide +kernel
theorem dX9_readHeeds_98 : decode cX9_readHeeds 98 = .ok (.iload_n 2, 1) := by decide +kernel
theorem dX9_readHeeds_99 : decode cX9_readHeeds 99 = .ok (.aload_n 0, 1) := by decide +kernel
theorem dX9_readHeeds_100 : decode cX9_readHeeds 100 = .ok (.getfield 164, 3) := by decide +kernel
theorem dX9_readHeeds_103 : decode cX9_readHeeds 103 = .ok (.invokevirtual 292, 3) := by decide +kernel
theorem dX9_readHeeds_106 : decode cX9_readHeeds 106 = .ok (.iconst 1, 1) := by decide +kernel
theorem dX9_readHeeds_107 : decode cX9_readHeeds 107 = .ok (.ireturn, 1) := by decide +kernel
theorem dX9_readBelief_0 : decode cX9_readBelief 0 = .ok (.aload_n 0, 1) := by decide +kernel
theorem dX9_readBelief_1 : decode cX9_readBelief 1 = .ok (.invokevirtual 278, 3) := by decide +kernel
theorem dX9_readBelief_4 : decode cX9_readBelief 4 = .ok (.ifCond .ne 5, 3) := by decide +kernel
theorem dX9_readBelief_7 : decode cX9_readBelief 7 = .ok (.iconst 0, 1) := by decide +kernel
theorem dX9_readBelief_8 : decode cX9_readBelief 8 = .ok (.ireturn, 1) := by decide +kernel
theorem dX9_readBelief_9 : decode cX9_readBelief 9 = .ok (.aload_n 0, 1) := by decide +kernel
theorem dX9_readBelief_10 : decode cX9_readBelief 10 = .ok (.getfield 31, 3) := by decide +kernel
theorem dX9_readBelief_13 : decode cX9_readBelief 13 = .ok (.getfield 187, 3) := by decide +kernel
theorem dX9_readBelief_16 : decode cX9_readBelief 16 = .ok (.getfield 296, 3) := by decide +kernel
theorem dX9_readBelief_19 : decode cX9_readBelief 19 = .ok (.aload_n 0, 1) := by decide +kernel
theorem dX9_readBelief_20 : decode cX9_readBelief 20 = .ok (.getfield 164, 3) := by decide +kernel
theorem dX9_readBelief_23 : decode cX9_readBelief 23 = .ok (.iaload, 1) := by decide +kernel
theorem dX9_readBelief_24 : decode cX9_readBelief 24 = .ok (.ifCond .eq 9, 3) := by decide +kernel
theorem dX9_readBelief_27 : decode cX9_readBelief 27 = .ok (.aload_n 0, 1) := by decide +kernel
theorem dX9_readBelief_28 : decode cX9_readBelief 28 = .ok (.iconst 3, 1) := by decide +kernel
theorem dX9_readBelief_29 : decode cX9_readBelief 29 = .ok (.invokevirtual 83, 3) := by decide +kernel
theorem dX9_readBelief_32 : decode cX9_readBelief 32 = .ok (.ireturn, 1) := by decide +kernel
theorem dX9_readBelief_33 : decode cX9_readBelief 33 = .ok (.aload_n 0, 1) := by decide +kernel
theorem dX9_readBelief_34 : decode cX9_readBelief 34 = .ok (.getfield 31, 3) := by decide +kernel
theorem dX9_readBelief_37 : decode cX9_readBelief 37 = .ok (.getfield 187, 3) := by decide +kernel
theorem dX9_readBelief_40 : decode cX9_readBelief 40 = .ok (.getfield 296, 3) := by decide +kernel
theorem dX9_readBelief_43 : decode cX9_readBelief 43 = .ok (.aload_n 0, 1) := by decide +kernel
theorem dX9_readBelief_44 : decode cX9_readBelief 44 = .ok (.getfield 164, 3) := by decide +kernel
theorem dX9_readBelief_47 : decode cX9_readBelief 47 = .ok (.iload_n 1, 1) := by decide +kernel
theorem dX9_readBelief_48 : decode cX9_readBelief 48 = .ok (.iastore, 1) := by decide +kernel
theorem dX9_readBelief_49 : decode cX9_readBelief 49 = .ok (.aload_n 0, 1) := by decide +kernel
theorem dX9_readBelief_50 : decode cX9_readBelief 50 = .ok (.getfield 12, 3) := by decide +kernel
theorem dX9_readBelief_53 : decode cX9_readBelief 53 = .ok (.invokevirtual 80, 3) := by decide +kernel
theorem dX9_readBelief_56 : decode cX9_readBelief 56 = .ok (.iconst 1, 1) := by decide +kernel
theorem dX9_readBelief_57 : decode cX9_readBelief 57 = .ok (.ireturn, 1) := by decide +kernel
theorem dX9_readHour_0 : decode cX9_readHour 0 = .ok (.aload_n 0, 1) := by decide +kernel
theorem dX9_readHour_1 : decode cX9_readHour 1 = .ok (.getfield 12, 3) := by decide +kernel
theorem dX9_readHour_4 : decode cX9_readHour 4 = .ok (.getfield 77, 3) := by decide +kernel
theorem dX9_readHour_7 : decode cX9_readHour 7 = .ok (.iconst 2, 1) := by decide +kernel
theorem dX9_readHour_8 : decode cX9_readHour 8 = .ok (.if_icmp .ne 29, 3) := by decide +kernel
theorem dX9_readHour_11 : decode cX9_readHour 11 = .ok (.aload_n 0, 1) := by decide +kernel
theorem dX9_readHour_12 : decode cX9_readHour 12 = .ok (.getfield 31, 3) := by decide +kernel
theorem dX9_readHour_15 : decode cX9_readHour 15 = .ok (.getfield 145, 3) := by decide +kernel
theorem dX9_readHour_18 : decode cX9_readHour 18 = .ok (.aload_n 0, 1) := by decide +kernel
theorem dX9_readHour_19 : decode cX9_readHour 19 = .ok (.getfield 12, 3) := by decide +kernel
theorem dX9_readHour_22 : decode cX9_readHour 22 = .ok (.getfield 230, 3) := by decide +kernel
theorem dX9_readHour_25 : decode cX9_readHour 25 = .ok (.invokevirtual 299, 3) := by decide +kernel
theorem dX9_readHour_28 : decode cX9_readHour 28 = .ok (.ifCond .eq 9, 3) := by decide +kernel
theorem dX9_readHour_31 : decode cX9_readHour 31 = .ok (.aload_n 0, 1) := by decide +kernel
theorem dX9_readHour_32 : decode cX9_readHour 32 = .ok (.iconst 3, 1) := by decide +kernel
theorem dX9_readHour_33 : decode cX9_readHour 33 = .ok (.invokevirtual 83, 3) := by decide +kernel
theorem dX9_readHour_36 : decode cX9_readHour 36 = .ok (.ireturn, 1) := by decide +kernel
theorem dX9_readHour_37 : decode cX9_readHour 37 = .ok (.aload_n 0, 1) := by decide +kernel
theorem dX9_readHour_38 : decode cX9_readHour 38 = .ok (.iconst 0, 1) := by decide +kernel
theorem dX9_readHour_39 : decode cX9_readHour 39 = .ok (.bipush 99, 2) := by decide +kernel
theorem dX9_readHour_41 : decode cX9_readHour 41 = .ok (.invokevirtual 160, 3) := by decide +kernel
theorem dX9_readHour_44 : decode cX9_readHour 44 = .ok (.ifCond .ne 5, 3) := by decide +kernel
theorem dX9_readHour_47 : decode cX9_readHour 47 = .ok (.iconst 0, 1) := by decide +kernel
theorem dX9_readHour_48 : decode cX9_readHour 48 = .ok (.ireturn, 1) := by decide +kernel
theorem dX9_readHour_49 : decode cX9_readHour 49 = .ok (.aload_n 0, 1) := by decide +kernel
theorem dX9_readHour_50 : decode cX9_readHour 50 = .ok (.getfield 31, 3) := by decide +kernel
theorem dX9_readHour_53 : decode cX9_readHour 53 = .ok (.getfield 145, 3) := by decide +kernel
theorem dX9_readHour_56 : decode cX9_readHour 56 = .ok (.aload_n 0, 1) := by decide +kernel
theorem dX9_readHour_57 : decode cX9_readHour 57 = .ok (.getfield 164, 3) := by decide +kernel
theorem dX9_readHour_60 : decode cX9_readHour 60 = .ok (.iload_n 1, 1) := by decide +kernel
theorem dX9_readHour_61 : decode cX9_readHour 61 = .ok (.invokevirtual 302, 3) := by decide +kernel
theorem dX9_readHour_64 : decode cX9_readHour 64 = .ok (.iconst 1, 1) := by decide +kernel
theorem dX9_readHour_65 : decode cX9_readHour 65 = .ok (.ireturn, 1) := by decide +kernel
theorem dX9_readWord_0 : decode cX9_readWord 0 = .ok (.aload_n 0, 1) := by decide +kernel
theorem dX9_readWord_1 : decode cX9_readWord 1 = .ok (.getfield 12, 3) := by decide +kernel
theorem dX9_readWord_4 : decode cX9_readWord 4 = .ok (.aload_n 1, 1) := by decide +kernel
theorem dX9_readWord_5 : decode cX9_readWord 5 = .ok (.invokevirtual 252, 3) := by decide +kernel
theorem dX9_readWord_8 : decode cX9_readWord 8 = .ok (.ifCond .ne 9, 3) := by decide +kernel
theorem dX9_readWord_11 : decode cX9_readWord 11 = .ok (.aload_n 0, 1) := by decide +kernel
theorem dX9_readWord_12 : decode cX9_readWord 12 = .ok (.iconst 1, 1) := by decide +kernel
theorem dX9_readWord_13 : decode cX9_readWord 13 = .ok (.invokevirtual 83, 3) := by decide +kernel
theorem dX9_readWord_16 : decode cX9_readWord 16 = .ok (.ireturn, 1) := by decide +kernel
theorem dX9_readWord_17 : decode cX9_readWord 17 = .ok (.aload_n 0, 1) := by decide +kernel
theorem dX9_readWord_18 : decode cX9_readWord 18 = .ok (.getfield 12, 3) := by decide +kernel
theorem dX9_readWord_21 : decode cX9_readWord 21 = .ok (.invokevirtual 80, 3) := by decide +kernel
theorem dX9_readWord_24 : decode cX9_readWord 24 = .ok (.iconst 1, 1) := by decide +kernel
theorem dX9_readWord_25 : decode cX9_readWord 25 = .ok (.ireturn, 1) := by decide +kernel
theorem dX9_readWhole_0 : decode cX9_readWhole 0 = .ok (.aload_n 0, 1) := by decide +kernel
theorem dX9_readWhole_1 : decode cX9_readWhole 1 = .ok (.getfield 12, 3) := by decide +kernel
theorem dX9_readWhole_4 : decode cX9_readWhole 4 = .ok (.getfield 77, 3) := by decide +kernel
theorem dX9_readWhole_7 : decode cX9_readWhole 7 = .ok (.iconst 2, 1) := by decide +kernel
theorem dX9_readWhole_8 : decode cX9_readWhole 8 = .ok (.if_icmp .eq 9, 3) := by decide +kernel
theorem dX9_readWhole_11 : decode cX9_readWhole 11 = .ok (.aload_n 0, 1) := by decide +kernel
theorem dX9_readWhole_12 : decode cX9_readWhole 12 = .ok (.iconst 1, 1) := by decide +kernel
theorem dX9_readWhole_13 : decode cX9_readWhole 13 = .ok (.invokevirtual 83, 3) := by decide +kernel
theorem dX9_readWhole_16 : decode cX9_readWhole 16 = .ok (.ireturn, 1) := by decide +kernel
theorem dX9_readWhole_17 : decode cX9_readWhole 17 = .ok (.aload_n 0, 1) := by decide +kernel
theorem dX9_readWhole_18 : decode cX9_readWhole 18 = .ok (.getfield 12, 3) := by decide +kernel
theorem dX9_readWhole_21 : decode cX9_readWhole 21 = .ok (.getfield 230, 3) := by decide +kernel
theorem dX9_readWhole_24 : decode cX9_readWhole 24 = .ok (.iload_n 1, 1) := by decide +kernel
theorem dX9_readWhole_25 : decode cX9_readWhole 25 = .ok (.if_icmp .lt 14, 3) := by decide +kernel
theorem dX9_readWhole_28 : decode cX9_readWhole 28 = .ok (.aload_n 0, 1) := by decide +kernel
theorem dX9_readWhole_29 : decode cX9_readWhole 29 = .ok (.getfield 12, 3) := by decide +kernel
theorem dX9_readWhole_32 : decode cX9_readWhole 32 = .ok (.getfield 230, 3) := by decide +kernel
theorem dX9_readWhole_35 : decode cX9_readWhole 35 = .ok (.iload_n 2, 1) := by decide +kernel
theorem dX9_readWhole_36 : decode cX9_readWhole 36 = .ok (.if_icmp .le 9, 3) := by decide +kernel
theorem dX9_readWhole_39 : decode cX9_readWhole 39 = .ok (.aload_n 0, 1) := by decide +kernel
theorem dX9_readWhole_40 : decode cX9_readWhole 40 = .ok (.iconst 4, 1) := by decide +kernel
theorem dX9_readWhole_41 : decode cX9_readWhole 41 = .ok (.invokevirtual 83, 3) := by decide +kernel
theorem dX9_readWhole_44 : decode cX9_readWhole 44 = .ok (.ireturn, 1) := by decide +kernel
theorem dX9_readWhole_45 : decode cX9_readWhole 45 = .ok (.aload_n 0, 1) := by decide +kernel
theorem dX9_readWhole_46 : decode cX9_readWhole 46 = .ok (.aload_n 0, 1) := by decide +kernel
theorem dX9_readWhole_47 : decode cX9_readWhole 47 = .ok (.getfield 12, 3) := by decide +kernel
theorem dX9_readWhole_50 : decode cX9_readWhole 50 = .ok (.getfield 230, 3) := by decide +kernel
theorem dX9_readWhole_53 : decode cX9_readWhole 53 = .ok (.putfield 164, 3) := by decide +kernel
theorem dX9_readWhole_56 : decode cX9_readWhole 56 = .ok (.aload_n 0, 1) := by decide +kernel
theorem dX9_readWhole_57 : decode cX9_readWhole 57 = .ok (.getfield 12, 3) := by decide +kernel
theorem dX9_readWhole_60 : decode cX9_readWhole 60 = .ok (.invokevirtual 80, 3) := by decide +kernel
theorem dX9_readWhole_63 : decode cX9_readWhole 63 = .ok (.iconst 1, 1) := by decide +kernel
theorem dX9_readWhole_64 : decode cX9_readWhole 64 = .ok (.ireturn, 1) := by decide +kernel
theorem dX9_readSort_0 : decode cX9_readSort 0 = .ok (.aload_n 0, 1) := by decide +kernel
theorem dX9_readSort_1 : decode cX9_readSort 1 = .ok (.getfield 12, 3) := by decide +kernel
theorem dX9_readSort_4 : decode cX9_readSort 4 = .ok (.ldc_w 306, 3) := by decide +kernel
theorem dX9_readSort_7 : decode cX9_readSort 7 = .ok (.invokevirtual 252, 3) := by decide +kernel
theorem dX9_readSort_10 : decode cX9_readSort 10 = .ok (.ifCond .eq 11, 3) := by decide +kernel
theorem dX9_readSort_13 : decode cX9_readSort 13 = .ok (.aload_n 0, 1) := by decide +kernel
theorem dX9_readSort_14 : decode cX9_readSort 14 = .ok (.iconst 0, 1) := by decide +kernel
theorem dX9_readSort_15 : decode cX9_readSort 15 = .ok (.putfield 164, 3) := by decide +kernel
theorem dX9_readSort_18 : decode cX9_readSort 18 = .ok (.goto 51, 3) := by decide +kernel
theorem dX9_readSort_21 : decode cX9_readSort 21 = .ok (.aload_n 0, 1) := by decide +kernel
theorem dX9_readSort_22 : decode cX9_readSort 22 = .ok (.getfield 12, 3) := by decide +kernel
theorem dX9_readSort_25 : decode cX9_readSort 25 = .ok (.ldc_w 308, 3) := by decide +kernel
theorem dX9_readSort_28 : decode cX9_readSort 28 = .ok (.invokevirtual 252, 3) := by decide +kernel
theorem dX9_readSort_31 : decode cX9_readSort 31 = .ok (.ifCond .eq 11, 3) := by decide +kernel
theorem dX9_readSort_34 : decode cX9_readSort 34 = .ok (.aload_n 0, 1) := by decide +kernel
theorem dX9_readSort_35 : decode cX9_readSort 35 = .ok (.iconst 1, 1) := by decide +kernel
theorem dX9_readSort_36 : decode cX9_readSort 36 = .ok (.putfield 164, 3) := by decide +kernel
theorem dX9_readSort_39 : decode cX9_readSort 39 = .ok (.goto 30, 3) := by decide +kernel
theorem dX9_readSort_42 : decode cX9_readSort 42 = .ok (.aload_n 0, 1) := by decide +kernel
theorem dX9_readSort_43 : decode cX9_readSort 43 = .ok (.getfield 12, 3) := by decide +kernel
theorem dX9_readSort_46 : decode cX9_readSort 46 = .ok (.ldc_w 310, 3) := by decide +kernel
theorem dX9_readSort_49 : decode cX9_readSort 49 = .ok (.invokevirtual 252, 3) := by decide +kernel
theorem dX9_readSort_52 : decode cX9_readSort 52 = .ok (.ifCond .eq 11, 3) := by decide +kernel
theorem dX9_readSort_55 : decode cX9_readSort 55 = .ok (.aload_n 0, 1) := by decide +kernel
theorem dX9_readSort_56 : decode cX9_readSort 56 = .ok (.iconst 2, 1) := by decide +kernel
theorem dX9_readSort_57 : decode cX9_readSort 57 = .ok (.putfield 164, 3) := by decide +kernel
theorem dX9_readSort_60 : decode cX9_readSort 60 = .ok (.goto 9, 3) := by decide +kernel
theorem dX9_readSort_63 : decode cX9_readSort 63 = .ok (.aload_n 0, 1) := by decide +kernel
theorem dX9_readSort_64 : decode cX9_readSort 64 = .ok (.iconst 1, 1) := by decide +kernel
theorem dX9_readSort_65 : decode cX9_readSort 65 = .ok (.invokevirtual 83, 3) := by decide +kernel
theorem dX9_readSort_68 : decode cX9_readSort 68 = .ok (.ireturn, 1) := by decide +kernel
theorem dX9_readSort_69 : decode cX9_readSort 69 = .ok (.aload_n 0, 1) := by decide +kernel
theorem dX9_readSort_70 : decode cX9_readSort 70 = .ok (.getfield 12, 3) := by decide +kernel
theorem dX9_readSort_73 : decode cX9_readSort 73 = .ok (.invokevirtual 80, 3) := by decide +kernel
theorem dX9_readSort_76 : decode cX9_readSort 76 = .ok (.iconst 1, 1) := by decide +kernel
theorem dX9_readSort_77 : decode cX9_readSort 77 = .ok (.ireturn, 1) := by decide +kernel
theorem dX9_readKind_0 : decode cX9_readKind 0 = .ok (.aload_n 0, 1) := by decide +kernel
theorem dX9_readKind_1 : decode cX9_readKind 1 = .ok (.getfield 12, 3) := by decide +kernel
theorem dX9_readKind_4 : decode cX9_readKind 4 = .ok (.ldc_w 312, 3) := by decide +kernel
theorem dX9_readKind_7 : decode cX9_readKind 7 = .ok (.invokevirtual 252, 3) := by decide +kernel
theorem dX9_readKind_10 : decode cX9_readKind 10 = .ok (.ifCond .eq 11, 3) := by decide +kernel
theorem dX9_readKind_13 : decode cX9_readKind 13 = .ok (.aload_n 0, 1) := by decide +kernel
theorem dX9_readKind_14 : decode cX9_readKind 14 = .ok (.iconst 0, 1) := by decide +kernel
theorem dX9_readKind_15 : decode cX9_readKind 15 = .ok (.putfield 164, 3) := by decide +kernel
theorem dX9_readKind_18 : decode cX9_readKind 18 = .ok (.goto 72, 3) := by decide +kernel
theorem dX9_readKind_21 : decode cX9_readKind 21 = .ok (.aload_n 0, 1) := by decide +kernel
theorem dX9_readKind_22 : decode cX9_readKind 22 = .ok (.getfield 12, 3) := by decide +kernel
theorem dX9_readKind_25 : decode cX9_readKind 25 = .ok (.ldc_w 314, 3) := by decide +kernel
theorem dX9_readKind_28 : decode cX9_readKind 28 = .ok (.invokevirtual 252, 3) := by decide +kernel
theorem dX9_readKind_31 : decode cX9_readKind 31 = .ok (.ifCond .eq 11, 3) := by decide +kernel
theorem dX9_readKind_34 : decode cX9_readKind 34 = .ok (.aload_n 0, 1) := by decide +kernel
theorem dX9_readKind_35 : decode cX9_readKind 35 = .ok (.iconst 1, 1) := by decide +kernel
theorem dX9_readKind_36 : decode cX9_readKind 36 = .ok (.putfield 164, 3) := by decide +kernel
theorem dX9_readKind_39 : decode cX9_readKind 39 = .ok (.goto 51, 3) := by decide +kernel
theorem dX9_readKind_42 : decode cX9_readKind 42 = .ok (.aload_n 0, 1) := by decide +kernel
theorem dX9_readKind_43 : decode cX9_readKind 43 = .ok (.getfield 12, 3) := by decide +kernel
theorem dX9_readKind_46 : decode cX9_readKind 46 = .ok (.ldc_w 316, 3) := by decide +kernel
theorem dX9_readKind_49 : decode cX9_readKind 49 = .ok (.invokevirtual 252, 3) := by decide +kernel
theorem dX9_readKind_52 : decode cX9_readKind 52 = .ok (.ifCond .eq 11, 3) := by decide +kernel
theorem dX9_readKind_55 : decode cX9_readKind 55 = .ok (.aload_n 0, 1) := by decide +kernel
theorem dX9_readKind_56 : decode cX9_readKind 56 = .ok (.iconst 2, 1) := by decide +kernel
theorem dX9_readKind_57 : decode cX9_readKind 57 = .ok (.putfield 164, 3) := by decide +kernel
theorem dX9_readKind_60 : decode cX9_readKind 60 = .ok (.goto 30, 3) := by decide +kernel
theorem dX9_readKind_63 : decode cX9_readKind 63 = .ok (.aload_n 0, 1) := by decide +kernel
theorem dX9_readKind_64 : decode cX9_readKind 64 = .ok (.getfield 12, 3) := by decide +kernel
theorem dX9_readKind_67 : decode cX9_readKind 67 = .ok (.ldc_w 318, 3) := by decide +kernel
theorem dX9_readKind_70 : decode cX9_readKind 70 = .ok (.invokevirtual 252, 3) := by decide +kernel
theorem dX9_readKind_73 : decode cX9_readKind 73 = .ok (.ifCond .eq 11, 3) := by decide +kernel
theorem dX9_readKind_76 : decode cX9_readKind 76 = .ok (.aload_n 0, 1) := by decide +kernel
theorem dX9_readKind_77 : decode cX9_readKind 77 = .ok (.iconst 3, 1) := by decide +kernel
theorem dX9_readKind_78 : decode cX9_readKind 78 = .ok (.putfield 164, 3) := by decide +kernel
theorem dX9_readKind_81 : decode cX9_readKind 81 = .ok (.goto 9, 3) := by decide +kernel
theorem dX9_readKind_84 : decode cX9_readKind 84 = .ok (.aload_n 0, 1) := by decide +kernel
theorem dX9_readKind_85 : decode cX9_readKind 85 = .ok (.iconst 1, 1) := by decide +kernel
theorem dX9_readKind_86 : decode cX9_readKind 86 = .ok (.invokevirtual 83, 3) := by decide +kernel
theorem dX9_readKind_89 : decode cX9_readKind 89 = .ok (.ireturn, 1) := by decide +kernel
theorem dX9_readKind_90 : decode cX9_readKind 90 = .ok (.aload_n 0, 1) := by decide +kernel
theorem dX9_readKind_91 : decode cX9_readKind 91 = .ok (.getfield 12, 3) := by decide +kernel
theorem dX9_readKind_94 : decode cX9_readKind 94 = .ok (.invokevirtual 80, 3) := by decide +kernel
theorem dX9_readKind_97 : decode cX9_readKind 97 = .ok (.iconst 1, 1) := by decide +kernel
theorem dX9_readKind_98 : decode cX9_readKind 98 = .ok (.ireturn, 1) := by decide +kernel
theorem dX9_keptWord_0 : decode cX9_keptWord 0 = .ok (.aload_n 0, 1) := by decide +kernel
theorem dX9_keptWord_1 : decode cX9_keptWord 1 = .ok (.getfield 12, 3) := by decide +kernel
theorem dX9_keptWord_4 : decode cX9_keptWord 4 = .ok (.getfield 77, 3) := by decide +kernel
theorem dX9_keptWord_7 : decode cX9_keptWord 7 = .ok (.iconst 1, 1) := by decide +kernel
theorem dX9_keptWord_8 : decode cX9_keptWord 8 = .ok (.if_icmp .ne 22, 3) := by decide +kernel
theorem dX9_keptWord_11 : decode cX9_keptWord 11 = .ok (.aload_n 0, 1) := by decide +kernel
theorem dX9_keptWord_12 : decode cX9_keptWord 12 = .ok (.getfield 18, 3) := by decide +kernel
theorem dX9_keptWord_15 : decode cX9_keptWord 15 = .ok (.bipush 10, 2) := by decide +kernel
theorem dX9_keptWord_17 : decode cX9_keptWord 17 = .ok (.aload_n 0, 1) := by decide +kernel
theorem dX9_keptWord_18 : decode cX9_keptWord 18 = .ok (.getfield 12, 3) := by decide +kernel
theorem dX9_keptWord_21 : decode cX9_keptWord 21 = .ok (.getfield 196, 3) := by decide +kernel
theorem dX9_keptWord_24 : decode cX9_keptWord 24 = .ok (.invokestatic 264, 3) := by decide +kernel
theorem dX9_keptWord_27 : decode cX9_keptWord 27 = .ok (.goto 4, 3) := by decide +kernel
theorem dX9_keptWord_30 : decode cX9_keptWord 30 = .ok (.iconst (-1), 1) := by decide +kernel
theorem dX9_keptWord_31 : decode cX9_keptWord 31 = .ok (.ireturn, 1) := by decide +kernel
theorem dX9_isName_0 : decode cX9_isName 0 = .ok (.aload_n 0, 1) := by decide +kernel
theorem dX9_isName_1 : decode cX9_isName 1 = .ok (.getfield 12, 3) := by decide +kernel
theorem dX9_isName_4 : decode cX9_isName 4 = .ok (.getfield 77, 3) := by decide +kernel
theorem dX9_isName_7 : decode cX9_isName 7 = .ok (.iconst 1, 1) := by decide +kernel
theorem dX9_isName_8 : decode cX9_isName 8 = .ok (.if_icmp .ne 15, 3) := by decide +kernel
theorem dX9_isName_11 : decode cX9_isName 11 = .ok (.aload_n 0, 1) := by decide +kernel
theorem dX9_isName_12 : decode cX9_isName 12 = .ok (.invokevirtual 99, 3) := by decide +kernel
theorem dX9_isName_15 : decode cX9_isName 15 = .ok (.iconst (-1), 1) := by decide +kernel
theorem dX9_isName_16 : decode cX9_isName 16 = .ok (.if_icmp .ne 7, 3) := by decide +kernel
theorem dX9_isName_19 : decode cX9_isName 19 = .ok (.iconst 1, 1) := by decide +kernel
theorem dX9_isName_20 : decode cX9_isName 20 = .ok (.goto 4, 3) := by decide +kernel
theorem dX9_isName_23 : decode cX9_isName 23 = .ok (.iconst 0, 1) := by decide +kernel
theorem dX9_isName_24 : decode cX9_isName 24 = .ok (.ireturn, 1) := by decide +kernel
theorem dX9_readNewName_0 : decode cX9_readNewName 0 = .ok (.aload_n 0, 1) := by decide +kernel
theorem dX9_readNewName_1 : decode cX9_readNewName 1 = .ok (.invokevirtual 261, 3) := by decide +kernel
theorem dX9_readNewName_4 : decode cX9_readNewName 4 = .ok (.ifCond .ne 9, 3) := by decide +kernel
theorem dX9_readNewName_7 : decode cX9_readNewName 7 = .ok (.aload_n 0, 1) := by decide +kernel
theorem dX9_readNewName_8 : decode cX9_readNewName 8 = .ok (.iconst 1, 1) := by decide +kernel
theorem dX9_readNewName_9 : decode cX9_readNewName 9 = .ok (.invokevirtual 83, 3) := by decide +kernel
theorem dX9_readNewName_12 : decode cX9_readNewName 12 = .ok (.ireturn, 1) := by decide +kernel
theorem dX9_readNewName_13 : decode cX9_readNewName 13 = .ok (.aload_n 0, 1) := by decide +kernel
theorem dX9_readNewName_14 : decode cX9_readNewName 14 = .ok (.getfield 22, 3) := by decide +kernel
theorem dX9_readNewName_17 : decode cX9_readNewName 17 = .ok (.aload_n 0, 1) := by decide +kernel
theorem dX9_readNewName_18 : decode cX9_readNewName 18 = .ok (.getfield 31, 3) := by decide +kernel
theorem dX9_readNewName_21 : decode cX9_readNewName 21 = .ok (.getfield 87, 3) := by decide +kernel
theorem dX9_readNewName_24 : decode cX9_readNewName 24 = .ok (.getfield 91, 3) := by decide +kernel
theorem dX9_readNewName_27 : decode cX9_readNewName 27 = .ok (.aload_n 0, 1) := by decide +kernel
theorem dX9_readNewName_28 : decode cX9_readNewName 28 = .ok (.getfield 12, 3) := by decide +kernel
theorem dX9_readNewName_31 : decode cX9_readNewName 31 = .ok (.getfield 196, 3) := by decide +kernel
theorem dX9_readNewName_34 : decode cX9_readNewName 34 = .ok (.invokestatic 264, 3) := by decide +kernel
theorem dX9_readNewName_37 : decode cX9_readNewName 37 = .ok (.iconst (-1), 1) := by decide +kernel
theorem dX9_readNewName_38 : decode cX9_readNewName 38 = .ok (.if_icmp .ne 31, 3) := by decide +kernel
theorem dX9_readNewName_41 : decode cX9_readNewName 41 = .ok (.aload_n 0, 1) := by decide +kernel
theorem dX9_readNewName_42 : decode cX9_readNewName 42 = .ok (.getfield 25, 3) := by decide +kernel
theorem dX9_readNewName_45 : decode cX9_readNewName 45 = .ok (.aload_n 0, 1) := by decide +kernel
theorem dX9_readNewName_46 : decode cX9_readNewName 46 = .ok (.getfield 31, 3) := by decide +kernel
theorem dX9_readNewName_49 : decode cX9_readNewName 49 = .ok (.getfield 132, 3) := by decide +kernel
theorem dX9_readNewName_52 : decode cX9_readNewName 52 = .ok (.getfield 136, 3) := by decide +kernel
theorem dX9_readNewName_55 : decode cX9_readNewName 55 = .ok (.aload_n 0, 1) := by decide +kernel
theorem dX9_readNewName_56 : decode cX9_readNewName 56 = .ok (.getfield 12, 3) := by decide +kernel
theorem dX9_readNewName_59 : decode cX9_readNewName 59 = .ok (.getfield 196, 3) := by decide +kernel
theorem dX9_readNewName_62 : decode cX9_readNewName 62 = .ok (.invokestatic 264, 3) := by decide +kernel
theorem dX9_readNewName_65 : decode cX9_readNewName 65 = .ok (.iconst (-1), 1) := by decide +kernel
theorem dX9_readNewName_66 : decode cX9_readNewName 66 = .ok (.if_icmp .eq 9, 3) := by decide +kernel
theorem dX9_readNewName_69 : decode cX9_readNewName 69 = .ok (.aload_n 0, 1) := by decide +kernel
theorem dX9_readNewName_70 : decode cX9_readNewName 70 = .ok (.iconst 3, 1) := by decide +kernel
theorem dX9_readNewName_71 : decode cX9_readNewName 71 = .ok (.invokevirtual 83, 3) := by decide +kernel
theorem dX9_readNewName_74 : decode cX9_readNewName 74 = .ok (.ireturn, 1) := by decide +kernel
theorem dX9_readNewName_75 : decode cX9_readNewName 75 = .ok (.aload_n 0, 1) := by decide +kernel
theorem dX9_readNewName_76 : decode cX9_readNewName 76 = .ok (.getfield 12, 3) := by decide +kernel
theorem dX9_readNewName_79 : decode cX9_readNewName 79 = .ok (.invokevirtual 80, 3) := by decide +kernel
theorem dX9_readNewName_82 : decode cX9_readNewName 82 = .ok (.iconst 1, 1) := by decide +kernel
theorem dX9_readNewName_83 : decode cX9_readNewName 83 = .ok (.ireturn, 1) := by decide +kernel
theorem dX9_findPerson_0 : decode cX9_findPerson 0 = .ok (.aload_n 0, 1) := by decide +kernel
theorem dX9_findPerson_1 : decode cX9_findPerson 1 = .ok (.invokevirtual 261, 3) := by decide +kernel
theorem dX9_findPerson_4 : decode cX9_findPerson 4 = .ok (.ifCond .ne 9, 3) := by decide +kernel
theorem dX9_findPerson_7 : decode cX9_findPerson 7 = .ok (.aload_n 0, 1) := by decide +kernel
theorem dX9_findPerson_8 : decode cX9_findPerson 8 = .ok (.iconst 1, 1) := by decide +kernel
theorem dX9_findPerson_9 : decode cX9_findPerson 9 = .ok (.invokevirtual 83, 3) := by decide +kernel
theorem dX9_findPerson_12 : decode cX9_findPerson 12 = .ok (.ireturn, 1) := by decide +kernel
theorem dX9_findPerson_13 : decode cX9_findPerson 13 = .ok (.aload_n 0, 1) := by decide +kernel
theorem dX9_findPerson_14 : decode cX9_findPerson 14 = .ok (.aload_n 0, 1) := by decide +kernel
theorem dX9_findPerson_15 : decode cX9_findPerson 15 = .ok (.getfield 25, 3) := by decide +kernel
theorem dX9_findPerson_18 : decode cX9_findPerson 18 = .ok (.aload_n 0, 1) := by decide +kernel
theorem dX9_findPerson_19 : decode cX9_findPerson 19 = .ok (.getfield 31, 3) := by decide +kernel
theorem dX9_findPerson_22 : decode cX9_findPerson 22 = .ok (.getfield 132, 3) := by decide +kernel
theorem dX9_findPerson_25 : decode cX9_findPerson 25 = .ok (.getfield 136, 3) := by decide +kernel
theorem dX9_findPerson_28 : decode cX9_findPerson 28 = .ok (.aload_n 0, 1) := by decide +kernel
theorem dX9_findPerson_29 : decode cX9_findPerson 29 = .ok (.getfield 12, 3) := by decide +kernel
theorem dX9_findPerson_32 : decode cX9_findPerson 32 = .ok (.getfield 196, 3) := by decide +kernel
theorem dX9_findPerson_35 : decode cX9_findPerson 35 = .ok (.invokestatic 264, 3) := by decide +kernel
theorem dX9_findPerson_38 : decode cX9_findPerson 38 = .ok (.putfield 164, 3) := by decide +kernel
theorem dX9_findPerson_41 : decode cX9_findPerson 41 = .ok (.aload_n 0, 1) := by decide +kernel
theorem dX9_findPerson_42 : decode cX9_findPerson 42 = .ok (.getfield 164, 3) := by decide +kernel
theorem dX9_findPerson_45 : decode cX9_findPerson 45 = .ok (.iconst (-1), 1) := by decide +kernel
theorem dX9_findPerson_46 : decode cX9_findPerson 46 = .ok (.if_icmp .ne 11, 3) := by decide +kernel
theorem dX9_findPerson_49 : decode cX9_findPerson 49 = .ok (.aload_n 0, 1) := by decide +kernel
theorem dX9_findPerson_50 : decode cX9_findPerson 50 = .ok (.iconst 2, 1) := by decide +kernel
theorem dX9_findPerson_51 : decode cX9_findPerson 51 = .ok (.invokevirtual 83, 3) := by decide +kernel
theorem dX9_findPerson_54 : decode cX9_findPerson 54 = .ok (.ifCond .eq 7, 3) := by decide +kernel
theorem dX9_findPerson_57 : decode cX9_findPerson 57 = .ok (.iconst 1, 1) := by decide +kernel
theorem dX9_findPerson_58 : decode cX9_findPerson 58 = .ok (.goto 4, 3) := by decide +kernel
theorem dX9_findPerson_61 : decode cX9_findPerson 61 = .ok (.iconst 0, 1) := by decide +kernel
theorem dX9_findPerson_62 : decode cX9_findPerson 62 = .ok (.ireturn, 1) := by decide +kernel
theorem dX9_indexOf_0 : decode cX9_indexOf 0 = .ok (.iconst 0, 1) := by decide +kernel
theorem dX9_indexOf_1 : decode cX9_indexOf 1 = .ok (.istore 4, 2) := by decide +kernel
theorem dX9_indexOf_3 : decode cX9_indexOf 3 = .ok (.iload 4, 2) := by decide +kernel
theorem dX9_indexOf_5 : decode cX9_indexOf 5 = .ok (.iload_n 1, 1) := by decide +kernel
theorem dX9_indexOf_6 : decode cX9_indexOf 6 = .ok (.if_icmp .ge 28, 3) := by decide +kernel
theorem dX9_indexOf_9 : decode cX9_indexOf 9 = .ok (.iload 4, 2) := by decide +kernel
theorem dX9_indexOf_11 : decode cX9_indexOf 11 = .ok (.aload_n 0, 1) := by decide +kernel
theorem dX9_indexOf_12 : decode cX9_indexOf 12 = .ok (.arraylength, 1) := by decide +kernel
theorem dX9_indexOf_13 : decode cX9_indexOf 13 = .ok (.if_icmp .ge 21, 3) := by decide +kernel
theorem dX9_indexOf_16 : decode cX9_indexOf 16 = .ok (.aload_n 0, 1) := by decide +kernel
theorem dX9_indexOf_17 : decode cX9_indexOf 17 = .ok (.iload 4, 2) := by decide +kernel
theorem dX9_indexOf_19 : decode cX9_indexOf 19 = .ok (.laload, 1) := by decide +kernel
theorem dX9_indexOf_20 : decode cX9_indexOf 20 = .ok (.lload_n 2, 1) := by decide +kernel
theorem dX9_indexOf_21 : decode cX9_indexOf 21 = .ok (.lcmp, 1) := by decide +kernel
theorem dX9_indexOf_22 : decode cX9_indexOf 22 = .ok (.ifCond .ne 6, 3) := by decide +kernel
theorem dX9_indexOf_25 : decode cX9_indexOf 25 = .ok (.iload 4, 2) := by decide +kernel
theorem dX9_indexOf_27 : decode cX9_indexOf 27 = .ok (.ireturn, 1) := by decide +kernel
theorem dX9_indexOf_28 : decode cX9_indexOf 28 = .ok (.iinc 4 1, 3) := by decide +kernel
theorem dX9_indexOf_31 : decode cX9_indexOf 31 = .ok (.goto (-28), 3) := by decide +kernel
theorem dX9_indexOf_34 : decode cX9_indexOf 34 = .ok (.iconst (-1), 1) := by decide +kernel
theorem dX9_indexOf_35 : decode cX9_indexOf 35 = .ok (.ireturn, 1) := by decide +kernel
theorem dX10_init_0 : decode cX10_init 0 = .ok (.aload_n 0, 1) := by decide +kernel
theorem dX10_init_1 : decode cX10_init 1 = .ok (.invokespecial 3, 3) := by decide +kernel
theorem dX10_init_4 : decode cX10_init 4 = .ok (.aload_n 0, 1) := by decide +kernel
theorem dX10_init_5 : decode cX10_init 5 = .ok (.bipush 8, 2) := by decide +kernel
theorem dX10_init_7 : decode cX10_init 7 = .ok (.newarray .int, 2) := by decide +kernel
theorem dX10_init_9 : decode cX10_init 9 = .ok (.putfield 9, 3) := by decide +kernel
theorem dX10_init_12 : decode cX10_init 12 = .ok (.aload_n 0, 1) := by decide +kernel
theorem dX10_init_13 : decode cX10_init 13 = .ok (.bipush 8, 2) := by decide +kernel
theorem dX10_init_15 : decode cX10_init 15 = .ok (.newarray .boolean, 2) := by decide +kernel
theorem dX10_init_17 : decode cX10_init 17 = .ok (.putfield 15, 3) := by decide +kernel
theorem dX10_init_20 : decode cX10_init 20 = .ok (.aload_n 0, 1) := by decide +kernel
theorem dX10_init_21 : decode cX10_init 21 = .ok (.bipush 77, 2) := by decide +kernel
theorem dX10_init_23 : decode cX10_init 23 = .ok (.newarray .int, 2) := by decide +kernel
theorem dX10_init_25 : decode cX10_init 25 = .ok (.putfield 19, 3) := by decide +kernel
theorem dX10_init_28 : decode cX10_init 28 = .ok (.aload_n 0, 1) := by decide +kernel
theorem dX10_init_29 : decode cX10_init 29 = .ok (.bipush 100, 2) := by decide +kernel
theorem dX10_init_31 : decode cX10_init 31 = .ok (.newarray .int, 2) := by decide +kernel
theorem dX10_init_33 : decode cX10_init 33 = .ok (.putfield 22, 3) := by decide +kernel
theorem dX10_init_36 : decode cX10_init 36 = .ok (.return_, 1) := by decide +kernel
theorem dX10_clear_0 : decode cX10_clear 0 = .ok (.aload_n 0, 1) := by decide +kernel
theorem dX10_clear_1 : decode cX10_clear 1 = .ok (.iconst 0, 1) := by decide +kernel
theorem dX10_clear_2 : decode cX10_clear 2 = .ok (.putfield 25, 3) := by decide +kernel
theorem dX10_clear_5 : decode cX10_clear 5 = .ok (.aload_n 0, 1) := by decide +kernel
theorem dX10_clear_6 : decode cX10_clear 6 = .ok (.iconst 0, 1) := by decide +kernel
theorem dX10_clear_7 : decode cX10_clear 7 = .ok (.putfield 29, 3) := by decide +kernel
theorem dX10_clear_10 : decode cX10_clear 10 = .ok (.return_, 1) := by decide +kernel
theorem dX10_quietCount_0 : decode cX10_quietCount 0 = .ok (.aload_n 0, 1) := by decide +kernel
theorem dX10_quietCount_1 : decode cX10_quietCount 1 = .ok (.getfield 25, 3) := by decide +kernel
theorem dX10_quietCount_4 : decode cX10_quietCount 4 = .ok (.aload_n 0, 1) := by decide +kernel
theorem dX10_quietCount_5 : decode cX10_quietCount 5 = .ok (.getfield 29, 3) := by decide +kernel
theorem dX10_quietCount_8 : decode cX10_quietCount 8 = .ok (.isub, 1) := by decide +kernel
theorem dX10_quietCount_9 : decode cX10_quietCount 9 = .ok (.ireturn, 1) := by decide +kernel
theorem dX10_isHourTold_0 : decode cX10_isHourTold 0 = .ok (.iconst 0, 1) := by decide +kernel
theorem dX10_isHourTold_1 : decode cX10_isHourTold 1 = .ok (.istore_n 2, 1) := by decide +kernel
theorem dX10_isHourTold_2 : decode cX10_isHourTold 2 = .ok (.iload_n 2, 1) := by decide +kernel
theorem dX10_isHourTold_3 : decode cX10_isHourTold 3 = .ok (.aload_n 0, 1) := by decide +kernel
theorem dX10_isHourTold_4 : decode cX10_isHourTold 4 = .ok (.getfield 25, 3) := by decide +kernel
theorem dX10_isHourTold_7 : decode cX10_isHourTold 7 = .ok (.if_icmp .ge 21, 3) := by decide +kernel
theorem dX10_isHourTold_10 : decode cX10_isHourTold 10 = .ok (.aload_n 0, 1) := by decide +kernel
theorem dX10_isHourTold_11 : decode cX10_isHourTold 11 = .ok (.getfield 9, 3) := by decide +kernel
theorem dX10_isHourTold_14 : decode cX10_isHourTold 14 = .ok (.iload_n 2, 1) := by decide +kernel
theorem dX10_isHourTold_15 : decode cX10_isHourTold 15 = .ok (.iaload, 1) := by decide +kernel
theorem dX10_isHourTold_16 : decode cX10_isHourTold 16 = .ok (.iload_n 1, 1) := by decide +kernel
theorem dX10_isHourTold_17 : decode cX10_isHourTold 17 = .ok (.if_icmp .ne 5, 3) := by decide +kernel
theorem dX10_isHourTold_20 : decode cX10_isHourTold 20 = .ok (.iconst 1, 1) := by decide +kernel
theorem dX10_isHourTold_21 : decode cX10_isHourTold 21 = .ok (.ireturn, 1) := by decide +kernel
theorem dX10_isHourTold_22 : decode cX10_isHourTold 22 = .ok (.iinc 2 1, 3) := by decide +kernel
theorem dX10_isHourTold_25 : decode cX10_isHourTold 25 = .ok (.goto (-23), 3) := by decide +kernel
theorem dX10_isHourTold_28 : decode cX10_isHourTold 28 = .ok (.iconst 0, 1) := by decide +kernel
theorem dX10_isHourTold_29 : decode cX10_isHourTold 29 = .ok (.ireturn, 1) := by decide +kernel
theorem dX10_addHour_0 : decode cX10_addHour 0 = .ok (.aload_n 0, 1) := by decide +kernel
theorem dX10_addHour_1 : decode cX10_addHour 1 = .ok (.getfield 25, 3) := by decide +kernel
theorem dX10_addHour_4 : decode cX10_addHour 4 = .ok (.bipush 8, 2) := by decide +kernel
theorem dX10_addHour_6 : decode cX10_addHour 6 = .ok (.if_icmp .lt 4, 3) := by decide +kernel
theorem dX10_addHour_9 : decode cX10_addHour 9 = .ok (.return_, 1) := by decide +kernel
theorem dX10_addHour_10 : decode cX10_addHour 10 = .ok (.aload_n 0, 1) := by decide +kernel
theorem dX10_addHour_11 : decode cX10_addHour 11 = .ok (.getfield 9, 3) := by decide +kernel
theorem dX10_addHour_14 : decode cX10_addHour 14 = .ok (.aload_n 0, 1) := by decide +kernel
theorem dX10_addHour_15 : decode cX10_addHour 15 = .ok (.getfield 25, 3) := by decide +kernel
theorem dX10_addHour_18 : decode cX10_addHour 18 = .ok (.iload_n 1, 1) := by decide +kernel
theorem dX10_addHour_19 : decode cX10_addHour 19 = .ok (.iastore, 1) := by decide +kernel
theorem dX10_addHour_20 : decode cX10_addHour 20 = .ok (.aload_n 0, 1) := by decide +kernel
theorem dX10_addHour_21 : decode cX10_addHour 21 = .ok (.getfield 15, 3) := by decide +kernel
theorem dX10_addHour_24 : decode cX10_addHour 24 = .ok (.aload_n 0, 1) := by decide +kernel
theorem dX10_addHour_25 : decode cX10_addHour 25 = .ok (.getfield 25, 3) := by decide +kernel
theorem dX10_addHour_28 : decode cX10_addHour 28 = .ok (.iload_n 2, 1) := by decide +kernel
theorem dX10_addHour_29 : decode cX10_addHour 29 = .ok (.bastore, 1) := by decide +kernel
theorem dX10_addHour_30 : decode cX10_addHour 30 = .ok (.aload_n 0, 1) := by decide +kernel
theorem dX10_addHour_31 : decode cX10_addHour 31 = .ok (.dup, 1) := by decide +kernel
theorem dX10_addHour_32 : decode cX10_addHour 32 = .ok (.getfield 25, 3) := by decide +kernel
theorem dX10_addHour_35 : decode cX10_addHour 35 = .ok (.iconst 1, 1) := by decide +kernel
theorem dX10_addHour_36 : decode cX10_addHour 36 = .ok (.iadd, 1) := by decide +kernel
theorem dX10_addHour_37 : decode cX10_addHour 37 = .ok (.putfield 25, 3) := by decide +kernel
theorem dX10_addHour_40 : decode cX10_addHour 40 = .ok (.iload_n 2, 1) := by decide +kernel
theorem dX10_addHour_41 : decode cX10_addHour 41 = .ok (.ifCond .eq 13, 3) := by decide +kernel
theorem dX10_addHour_44 : decode cX10_addHour 44 = .ok (.aload_n 0, 1) := by decide +kernel
theorem dX10_addHour_45 : decode cX10_addHour 45 = .ok (.dup, 1) := by decide +kernel
theorem dX10_addHour_46 : decode cX10_addHour 46 = .ok (.getfield 29, 3) := by decide +kernel
theorem dX10_addHour_49 : decode cX10_addHour 49 = .ok (.iconst 1, 1) := by decide +kernel
theorem dX10_addHour_50 : decode cX10_addHour 50 = .ok (.iadd, 1) := by decide +kernel
theorem dX10_addHour_51 : decode cX10_addHour 51 = .ok (.putfield 29, 3) := by decide +kernel
theorem dX10_addHour_54 : decode cX10_addHour 54 = .ok (.return_, 1) := by decide +kernel
theorem dX10_findTrains_0 : decode cX10_findTrains 0 = .ok (.aload_n 0, 1) := by decide +kernel
theorem dX10_findTrains_1 : decode cX10_findTrains 1 = .ok (.iconst 0, 1) := by decide +kernel
theorem dX10_findTrains_2 : decode cX10_findTrains 2 = .ok (.putfield 32, 3) := by decide +kernel
theorem dX10_findTrains_5 : decode cX10_findTrains 5 = .ok (.aload_n 0, 1) := by decide +kernel
theorem dX10_findTrains_6 : decode cX10_findTrains 6 = .ok (.getfield 22, 3) := by decide +kernel
theorem dX10_findTrains_9 : decode cX10_findTrains 9 = .ok (.iconst 0, 1) := by decide +kernel
theorem dX10_findTrains_10 : decode cX10_findTrains 10 = .ok (.invokestatic 35, 3) := by decide +kernel
theorem dX10_findTrains_13 : decode cX10_findTrains 13 = .ok (.iconst 2, 1) := by decide +kernel
theorem dX10_findTrains_14 : decode cX10_findTrains 14 = .ok (.istore_n 1, 1) := by decide +kernel
theorem dX10_findTrains_15 : decode cX10_findTrains 15 = .ok (.iload_n 1, 1) := by decide +kernel
theorem dX10_findTrains_16 : decode cX10_findTrains 16 = .ok (.bipush 12, 2) := by decide +kernel
theorem dX10_findTrains_18 : decode cX10_findTrains 18 = .ok (.if_icmp .gt 46, 3) := by decide +kernel
theorem dX10_findTrains_21 : decode cX10_findTrains 21 = .ok (.iconst 0, 1) := by decide +kernel
theorem dX10_findTrains_22 : decode cX10_findTrains 22 = .ok (.istore_n 2, 1) := by decide +kernel
theorem dX10_findTrains_23 : decode cX10_findTrains 23 = .ok (.iload_n 2, 1) := by decide +kernel
theorem dX10_findTrains_24 : decode cX10_findTrains 24 = .ok (.iload_n 1, 1) := by decide +kernel
theorem dX10_findTrains_25 : decode cX10_findTrains 25 = .ok (.if_icmp .ge 33, 3) := by decide +kernel
theorem dX10_findTrains_28 : decode cX10_findTrains 28 = .ok (.aload_n 0, 1) := by decide +kernel
theorem dX10_findTrains_29 : decode cX10_findTrains 29 = .ok (.iload_n 1, 1) := by decide +kernel
theorem dX10_findTrains_30 : decode cX10_findTrains 30 = .ok (.iload_n 2, 1) := by decide +kernel
theorem dX10_findTrains_31 : decode cX10_findTrains 31 = .ok (.invokevirtual 41, 3) := by decide +kernel
theorem dX10_findTrains_34 : decode cX10_findTrains 34 = .ok (.ifCond .eq 18, 3) := by decide +kernel
theorem dX10_findTrains_37 : decode cX10_findTrains 37 = .ok (.aload_n 0, 1) := by decide +kernel
theorem dX10_findTrains_38 : decode cX10_findTrains 38 = .ok (.getfield 32, 3) := by decide +kernel
theorem dX10_findTrains_41 : decode cX10_findTrains 41 = .ok (.bipush 77, 2) := by decide +kernel
theorem dX10_findTrains_43 : decode cX10_findTrains 43 = .ok (.if_icmp .ge 9, 3) := by decide +kernel
theorem dX10_findTrains_46 : decode cX10_findTrains 46 = .ok (.aload_n 0, 1) := by decide +kernel
theorem dX10_findTrains_47 : decode cX10_findTrains 47 = .ok (.iload_n 1, 1) := by decide +kernel
theorem dX10_findTrains_48 : decode cX10_findTrains 48 = .ok (.iload_n 2, 1) := by decide +kernel
theorem dX10_findTrains_49 : decode cX10_findTrains 49 = .ok (.invokevirtual 45, 3) := by decide +kernel
theorem dX10_findTrains_52 : decode cX10_findTrains 52 = .ok (.iinc 2 1, 3) := by decide +kernel
theorem dX10_findTrains_55 : decode cX10_findTrains 55 = .ok (.goto (-32), 3) := by decide +kernel
theorem dX10_findTrains_58 : decode cX10_findTrains 58 = .ok (.iinc 1 1, 3) := by decide +kernel
theorem dX10_findTrains_61 : decode cX10_findTrains 61 = .ok (.goto (-46), 3) := by decide +kernel
theorem dX10_findTrains_64 : decode cX10_findTrains 64 = .ok (.return_, 1) := by decide +kernel
theorem dX10_fits_0 : decode cX10_fits 0 = .ok (.iload_n 1, 1) := by decide +kernel
theorem dX10_fits_1 : decode cX10_fits 1 = .ok (.ifCond .gt 5, 3) := by decide +kernel
theorem dX10_fits_4 : decode cX10_fits 4 = .ok (.iconst 0, 1) := by decide +kernel
theorem dX10_fits_5 : decode cX10_fits 5 = .ok (.ireturn, 1) := by decide +kernel
theorem dX10_fits_6 : decode cX10_fits 6 = .ok (.iconst 0, 1) := by decide +kernel
theorem dX10_fits_7 : decode cX10_fits 7 = .ok (.istore_n 3, 1) := by decide +kernel
theorem dX10_fits_8 : decode cX10_fits 8 = .ok (.iload_n 3, 1) := by decide +kernel
theorem dX10_fits_9 : decode cX10_fits 9 = .ok (.aload_n 0, 1) := by decide +kernel
theorem dX10_fits_10 : decode cX10_fits 10 = .ok (.getfield 25, 3) := by decide +kernel
theorem dX10_fits_13 : decode cX10_fits 13 = .ok (.if_icmp .ge 37, 3) := by decide +kernel
theorem dX10_fits_16 : decode cX10_fits 16 = .ok (.aload_n 0, 1) := by decide +kernel
theorem dX10_fits_17 : decode cX10_fits 17 = .ok (.getfield 9, 3) := by decide +kernel
theorem dX10_fits_20 : decode cX10_fits 20 = .ok (.iload_n 3, 1) := by decide +kernel
theorem dX10_fits_21 : decode cX10_fits 21 = .ok (.iaload, 1) := by decide +kernel
theorem dX10_fits_22 : decode cX10_fits 22 = .ok (.iload_n 1, 1) := by decide +kernel
theorem dX10_fits_23 : decode cX10_fits 23 = .ok (.irem, 1) := by decide +kernel
theorem dX10_fits_24 : decode cX10_fits 24 = .ok (.iload_n 2, 1) := by decide +kernel
theorem dX10_fits_25 : decode cX10_fits 25 = .ok (.if_icmp .ne 7, 3) := by decide +kernel
theorem dX10_fits_28 : decode cX10_fits 28 = .ok (.iconst 1, 1) := by decide +kernel
theorem dX10_fits_29 : decode cX10_fits 29 = .ok (.goto 4, 3) := by decide +kernel
theorem dX10_fits_32 : decode cX10_fits 32 = .ok (.iconst 0, 1) := by decide +kernel
theorem dX10_fits_33 : decode cX10_fits 33 = .ok (.aload_n 0, 1) := by decide +kernel
theorem dX10_fits_34 : decode cX10_fits 34 = .ok (.getfield 15, 3) := by decide +kernel
theorem dX10_fits_37 : decode cX10_fits 37 = .ok (.iload_n 3, 1) := by decide +kernel
theorem dX10_fits_38 : decode cX10_fits 38 = .ok (.baload, 1) := by decide +kernel
theorem dX10_fits_39 : decode cX10_fits 39 = .ok (.if_icmp .eq 5, 3) := by decide +kernel
theorem dX10_fits_42 : decode cX10_fits 42 = .ok (.iconst 0, 1) := by decide +kernel
theorem dX10_fits_43 : decode cX10_fits 43 = .ok (.ireturn, 1) := by decide +kernel
theorem dX10_fits_44 : decode cX10_fits 44 = .ok (.iinc 3 1, 3) := by decide +kernel
theorem dX10_fits_47 : decode cX10_fits 47 = .ok (.goto (-39), 3) := by decide +kernel
theorem dX10_fits_50 : decode cX10_fits 50 = .ok (.iconst 1, 1) := by decide +kernel
theorem dX10_fits_51 : decode cX10_fits 51 = .ok (.ireturn, 1) := by decide +kernel
theorem dX10_addTrain_0 : decode cX10_addTrain 0 = .ok (.aload_n 0, 1) := by decide +kernel
theorem dX10_addTrain_1 : decode cX10_addTrain 1 = .ok (.getfield 19, 3) := by decide +kernel
theorem dX10_addTrain_4 : decode cX10_addTrain 4 = .ok (.aload_n 0, 1) := by decide +kernel
theorem dX10_addTrain_5 : decode cX10_addTrain 5 = .ok (.getfield 32, 3) := by decide +kernel
theorem dX10_addTrain_8 : decode cX10_addTrain 8 = .ok (.bipush 100, 2) := by decide +kernel
theorem dX10_addTrain_10 : decode cX10_addTrain 10 = .ok (.iload_n 1, 1) := by decide +kernel
theorem dX10_addTrain_11 : decode cX10_addTrain 11 = .ok (.imul, 1) := by decide +kernel
theorem dX10_addTrain_12 : decode cX10_addTrain 12 = .ok (.iload_n 2, 1) := by decide +kernel
theorem dX10_addTrain_13 : decode cX10_addTrain 13 = .ok (.iadd, 1) := by decide +kernel
theorem dX10_addTrain_14 : decode cX10_addTrain 14 = .ok (.iastore, 1) := by decide +kernel
theorem dX10_addTrain_15 : decode cX10_addTrain 15 = .ok (.aload_n 0, 1) := by decide +kernel
theorem dX10_addTrain_16 : decode cX10_addTrain 16 = .ok (.dup, 1) := by decide +kernel
theorem dX10_addTrain_17 : decode cX10_addTrain 17 = .ok (.getfield 32, 3) := by decide +kernel
theorem dX10_addTrain_20 : decode cX10_addTrain 20 = .ok (.iconst 1, 1) := by decide +kernel
theorem dX10_addTrain_21 : decode cX10_addTrain 21 = .ok (.iadd, 1) := by decide +kernel
theorem dX10_addTrain_22 : decode cX10_addTrain 22 = .ok (.putfield 32, 3) := by decide +kernel
theorem dX10_addTrain_25 : decode cX10_addTrain 25 = .ok (.iload_n 2, 1) := by decide +kernel
theorem dX10_addTrain_26 : decode cX10_addTrain 26 = .ok (.istore_n 3, 1) := by decide +kernel
theorem dX10_addTrain_27 : decode cX10_addTrain 27 = .ok (.iload_n 3, 1) := by decide +kernel
theorem dX10_addTrain_28 : decode cX10_addTrain 28 = .ok (.bipush 100, 2) := by decide +kernel
theorem dX10_addTrain_30 : decode cX10_addTrain 30 = .ok (.if_icmp .ge 20, 3) := by decide +kernel
theorem dX10_addTrain_33 : decode cX10_addTrain 33 = .ok (.aload_n 0, 1) := by decide +kernel
theorem dX10_addTrain_34 : decode cX10_addTrain 34 = .ok (.getfield 22, 3) := by decide +kernel
theorem dX10_addTrain_37 : decode cX10_addTrain 37 = .ok (.iload_n 3, 1) := by decide +kernel
theorem dX10_addTrain_38 : decode cX10_addTrain 38 = .ok (.dup2, 1) := by decide +kernel
theorem dX10_addTrain_39 : decode cX10_addTrain 39 = .ok (.iaload, 1) := by decide +kernel
theorem dX10_addTrain_40 : decode cX10_addTrain 40 = .ok (.iconst 1, 1) := by decide +kernel
theorem dX10_addTrain_41 : decode cX10_addTrain 41 = .ok (.iadd, 1) := by decide +kernel
theorem dX10_addTrain_42 : decode cX10_addTrain 42 = .ok (.iastore, 1) := by decide +kernel
theorem dX10_addTrain_43 : decode cX10_addTrain 43 = .ok (.iload_n 3, 1) := by decide +kernel
theorem dX10_addTrain_44 : decode cX10_addTrain 44 = .ok (.iload_n 1, 1) := by decide +kernel
theorem dX10_addTrain_45 : decode cX10_addTrain 45 = .ok (.iadd, 1) := by decide +kernel
theorem dX10_addTrain_46 : decode cX10_addTrain 46 = .ok (.istore_n 3, 1) := by decide +kernel
theorem dX10_addTrain_47 : decode cX10_addTrain 47 = .ok (.goto (-20), 3) := by decide +kernel
theorem dX10_addTrain_50 : decode cX10_addTrain 50 = .ok (.return_, 1) := by decide +kernel
theorem dX10_sureFrom_0 : decode cX10_sureFrom 0 = .ok (.aload_n 0, 1) := by decide +kernel
theorem dX10_sureFrom_1 : decode cX10_sureFrom 1 = .ok (.getfield 32, 3) := by decide +kernel
theorem dX10_sureFrom_4 : decode cX10_sureFrom 4 = .ok (.ifCond .ne 6, 3) := by decide +kernel
theorem dX10_sureFrom_7 : decode cX10_sureFrom 7 = .ok (.bipush (-2), 2) := by decide +kernel
theorem dX10_sureFrom_9 : decode cX10_sureFrom 9 = .ok (.ireturn, 1) := by decide +kernel
theorem dX10_sureFrom_10 : decode cX10_sureFrom 10 = .ok (.iload_n 1, 1) := by decide +kernel
theorem dX10_sureFrom_11 : decode cX10_sureFrom 11 = .ok (.istore_n 2, 1) := by decide +kernel
theorem dX10_sureFrom_12 : decode cX10_sureFrom 12 = .ok (.iload_n 2, 1) := by decide +kernel
theorem dX10_sureFrom_13 : decode cX10_sureFrom 13 = .ok (.bipush 100, 2) := by decide +kernel
theorem dX10_sureFrom_15 : decode cX10_sureFrom 15 = .ok (.if_icmp .ge 24, 3) := by decide +kernel
theorem dX10_sureFrom_18 : decode cX10_sureFrom 18 = .ok (.aload_n 0, 1) := by decide +kernel
theorem dX10_sureFrom_19 : decode cX10_sureFrom 19 = .ok (.getfield 22, 3) := by decide +kernel
theorem dX10_sureFrom_22 : decode cX10_sureFrom 22 = .ok (.iload_n 2, 1) := by decide +kernel
theorem dX10_sureFrom_23 : decode cX10_sureFrom 23 = .ok (.iaload, 1) := by decide +kernel
theorem dX10_sureFrom_24 : decode cX10_sureFrom 24 = .ok (.aload_n 0, 1) := by decide +kernel
theorem dX10_sureFrom_25 : decode cX10_sureFrom 25 = .ok (.getfield 32, 3) := by decide +kernel
theorem dX10_sureFrom_28 : decode cX10_sureFrom 28 = .ok (.if_icmp .ne 5, 3) := by decide +kernel
theorem dX10_sureFrom_31 : decode cX10_sureFrom 31 = .ok (.iload_n 2, 1) := by decide +kernel
theorem dX10_sureFrom_32 : decode cX10_sureFrom 32 = .ok (.ireturn, 1) := by decide +kernel
theorem dX10_sureFrom_33 : decode cX10_sureFrom 33 = .ok (.iinc 2 1, 3) := by decide +kernel
theorem dX10_sureFrom_36 : decode cX10_sureFrom 36 = .ok (.goto (-24), 3) := by decide +kernel
theorem dX10_sureFrom_39 : decode cX10_sureFrom 39 = .ok (.bipush (-2), 2) := by decide +kernel
theorem dX10_sureFrom_41 : decode cX10_sureFrom 41 = .ok (.ireturn, 1) := by decide +kernel
theorem dX10_mostLeftBy_0 : decode cX10_mostLeftBy 0 = .ok (.aload_n 0, 1) := by decide +kernel
theorem dX10_mostLeftBy_1 : decode cX10_mostLeftBy 1 = .ok (.getfield 22, 3) := by decide +kernel
theorem dX10_mostLeftBy_4 : decode cX10_mostLeftBy 4 = .ok (.iload_n 1, 1) := by decide +kernel
theorem dX10_mostLeftBy_5 : decode cX10_mostLeftBy 5 = .ok (.iaload, 1) := by decide +kernel
theorem dX10_mostLeftBy_6 : decode cX10_mostLeftBy 6 = .ok (.aload_n 0, 1) := by decide +kernel
theorem dX10_mostLeftBy_7 : decode cX10_mostLeftBy 7 = .ok (.getfield 32, 3) := by decide +kernel
theorem dX10_mostLeftBy_10 : decode cX10_mostLeftBy 10 = .ok (.aload_n 0, 1) := by decide +kernel
theorem dX10_mostLeftBy_11 : decode cX10_mostLeftBy 11 = .ok (.getfield 22, 3) := by decide +kernel
theorem dX10_mostLeftBy_14 : decode cX10_mostLeftBy 14 = .ok (.iload_n 1, 1) := by decide +kernel
theorem dX10_mostLeftBy_15 : decode cX10_mostLeftBy 15 = .ok (.iaload, 1) := by decide +kernel
theorem dX10_mostLeftBy_16 : decode cX10_mostLeftBy 16 = .ok (.isub, 1) := by decide +kernel
theorem dX10_mostLeftBy_17 : decode cX10_mostLeftBy 17 = .ok (.invokestatic 49, 3) := by decide +kernel
theorem dX10_mostLeftBy_20 : decode cX10_mostLeftBy 20 = .ok (.ireturn, 1) := by decide +kernel
theorem dX10_bestHour_0 : decode cX10_bestHour 0 = .ok (.aload_n 0, 1) := by decide +kernel
theorem dX10_bestHour_1 : decode cX10_bestHour 1 = .ok (.getfield 32, 3) := by decide +kernel
theorem dX10_bestHour_4 : decode cX10_bestHour 4 = .ok (.ifCond .ne 6, 3) := by decide +kernel
theorem dX10_bestHour_7 : decode cX10_bestHour 7 = .ok (.bipush (-2), 2) := by decide +kernel
theorem dX10_bestHour_9 : decode cX10_bestHour 9 = .ok (.ireturn, 1) := by decide +kernel
theorem dX10_bestHour_10 : decode cX10_bestHour 10 = .ok (.iconst 0, 1) := by decide +kernel
theorem dX10_bestHour_11 : decode cX10_bestHour 11 = .ok (.istore_n 1, 1) := by decide +kernel
theorem dX10_bestHour_12 : decode cX10_bestHour 12 = .ok (.iconst 1, 1) := by decide +kernel
theorem dX10_bestHour_13 : decode cX10_bestHour 13 = .ok (.istore_n 2, 1) := by decide +kernel
theorem dX10_bestHour_14 : decode cX10_bestHour 14 = .ok (.iload_n 2, 1) := by decide +kernel
theorem dX10_bestHour_15 : decode cX10_bestHour 15 = .ok (.bipush 100, 2) := by decide +kernel
theorem dX10_bestHour_17 : decode cX10_bestHour 17 = .ok (.if_icmp .ge 24, 3) := by decide +kernel
theorem dX10_bestHour_20 : decode cX10_bestHour 20 = .ok (.aload_n 0, 1) := by decide +kernel
theorem dX10_bestHour_21 : decode cX10_bestHour 21 = .ok (.iload_n 2, 1) := by decide +kernel
theorem dX10_bestHour_22 : decode cX10_bestHour 22 = .ok (.invokevirtual 55, 3) := by decide +kernel
theorem dX10_bestHour_25 : decode cX10_bestHour 25 = .ok (.aload_n 0, 1) := by decide +kernel
theorem dX10_bestHour_26 : decode cX10_bestHour 26 = .ok (.iload_n 1, 1) := by decide +kernel
theorem dX10_bestHour_27 : decode cX10_bestHour 27 = .ok (.invokevirtual 55, 3) := by decide +kernel
theorem dX10_bestHour_30 : decode cX10_bestHour 30 = .ok (.if_icmp .ge 5, 3) := by decide +kernel
theorem dX10_bestHour_33 : decode cX10_bestHour 33 = .ok (.iload_n 2, 1) := by decide +kernel
theorem dX10_bestHour_34 : decode cX10_bestHour 34 = .ok (.istore_n 1, 1) := by decide +kernel
theorem dX10_bestHour_35 : decode cX10_bestHour 35 = .ok (.iinc 2 1, 3) := by decide +kernel
theorem dX10_bestHour_38 : decode cX10_bestHour 38 = .ok (.goto (-24), 3) := by decide +kernel
theorem dX10_bestHour_41 : decode cX10_bestHour 41 = .ok (.iload_n 1, 1) := by decide +kernel
theorem dX10_bestHour_42 : decode cX10_bestHour 42 = .ok (.ireturn, 1) := by decide +kernel
