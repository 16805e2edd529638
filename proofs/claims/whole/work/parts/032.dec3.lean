theorem dX12_init_0 : decode cX12_init 0 = .ok (.aload_n 0, 1) := by decide +kernel
theorem dX12_init_1 : decode cX12_init 1 = .ok (.invokespecial 1, 3) := by decide +kernel
theorem dX12_init_4 : decode cX12_init 4 = .ok (.aload_n 0, 1) := by decide +kernel
theorem dX12_init_5 : decode cX12_init 5 = .ok (.sipush 1000, 3) := by decide +kernel
theorem dX12_init_8 : decode cX12_init 8 = .ok (.newarray .int, 2) := by decide +kernel
theorem dX12_init_10 : decode cX12_init 10 = .ok (.putfield 7, 3) := by decide +kernel
theorem dX12_init_13 : decode cX12_init 13 = .ok (.aload_n 0, 1) := by decide +kernel
theorem dX12_init_14 : decode cX12_init 14 = .ok (.iconst (-1), 1) := by decide +kernel
theorem dX12_init_15 : decode cX12_init 15 = .ok (.putfield 13, 3) := by decide +kernel
theorem dX12_init_18 : decode cX12_init 18 = .ok (.aload_n 0, 1) := by decide +kernel
theorem dX12_init_19 : decode cX12_init 19 = .ok (.bipush 8, 2) := by decide +kernel
theorem dX12_init_21 : decode cX12_init 21 = .ok (.newarray .int, 2) := by decide +kernel
theorem dX12_init_23 : decode cX12_init 23 = .ok (.putfield 17, 3) := by decide +kernel
theorem dX12_init_26 : decode cX12_init 26 = .ok (.aload_n 0, 1) := by decide +kernel
theorem dX12_init_27 : decode cX12_init 27 = .ok (.sipush 406, 3) := by decide +kernel
theorem dX12_init_30 : decode cX12_init 30 = .ok (.newarray .int, 2) := by decide +kernel
theorem dX12_init_32 : decode cX12_init 32 = .ok (.putfield 20, 3) := by decide +kernel
theorem dX12_init_35 : decode cX12_init 35 = .ok (.aload_n 0, 1) := by decide +kernel
theorem dX12_init_36 : decode cX12_init 36 = .ok (.sipush 406, 3) := by decide +kernel
theorem dX12_init_39 : decode cX12_init 39 = .ok (.newarray .int, 2) := by decide +kernel
theorem dX12_init_41 : decode cX12_init 41 = .ok (.putfield 23, 3) := by decide +kernel
theorem dX12_init_44 : decode cX12_init 44 = .ok (.aload_n 0, 1) := by decide +kernel
theorem dX12_init_45 : decode cX12_init 45 = .ok (.bipush 16, 2) := by decide +kernel
theorem dX12_init_47 : decode cX12_init 47 = .ok (.newarray .int, 2) := by decide +kernel
theorem dX12_init_49 : decode cX12_init 49 = .ok (.putfield 26, 3) := by decide +kernel
theorem dX12_init_52 : decode cX12_init 52 = .ok (.aload_n 0, 1) := by decide +kernel
theorem dX12_init_53 : decode cX12_init 53 = .ok (.sipush 256, 3) := by decide +kernel
theorem dX12_init_56 : decode cX12_init 56 = .ok (.newarray .int, 2) := by decide +kernel
theorem dX12_init_58 : decode cX12_init 58 = .ok (.putfield 29, 3) := by decide +kernel
theorem dX12_init_61 : decode cX12_init 61 = .ok (.aload_n 0, 1) := by decide +kernel
theorem dX12_init_62 : decode cX12_init 62 = .ok (.bipush 48, 2) := by decide +kernel
theorem dX12_init_64 : decode cX12_init 64 = .ok (.newarray .int, 2) := by decide +kernel
theorem dX12_init_66 : decode cX12_init 66 = .ok (.putfield 32, 3) := by decide +kernel
theorem dX12_init_69 : decode cX12_init 69 = .ok (.aload_n 0, 1) := by decide +kernel
theorem dX12_init_70 : decode cX12_init 70 = .ok (.bipush 7, 2) := by decide +kernel
theorem dX12_init_72 : decode cX12_init 72 = .ok (.newarray .int, 2) := by decide +kernel
theorem dX12_init_74 : decode cX12_init 74 = .ok (.putfield 35, 3) := by decide +kernel
theorem dX12_init_77 : decode cX12_init 77 = .ok (.aload_n 0, 1) := by decide +kernel
theorem dX12_init_78 : decode cX12_init 78 = .ok (.bipush 7, 2) := by decide +kernel
theorem dX12_init_80 : decode cX12_init 80 = .ok (.newarray .int, 2) := by decide +kernel
theorem dX12_init_82 : decode cX12_init 82 = .ok (.putfield 38, 3) := by decide +kernel
theorem dX12_init_85 : decode cX12_init 85 = .ok (.aload_n 0, 1) := by decide +kernel
theorem dX12_init_86 : decode cX12_init 86 = .ok (.bipush 6, 2) := by decide +kernel
theorem dX12_init_88 : decode cX12_init 88 = .ok (.newarray .int, 2) := by decide +kernel
theorem dX12_init_90 : decode cX12_init 90 = .ok (.putfield 41, 3) := by decide +kernel
theorem dX12_init_93 : decode cX12_init 93 = .ok (.aload_n 0, 1) := by decide +kernel
theorem dX12_init_94 : decode cX12_init 94 = .ok (.bipush 6, 2) := by decide +kernel
theorem dX12_init_96 : decode cX12_init 96 = .ok (.newarray .int, 2) := by decide +kernel
theorem dX12_init_98 : decode cX12_init 98 = .ok (.putfield 44, 3) := by decide +kernel
theorem dX12_init_101 : decode cX12_init 101 = .ok (.aload_n 0, 1) := by decide +kernel
theorem dX12_init_102 : decode cX12_init 102 = .ok (.bipush 7, 2) := by decide +kernel
theorem dX12_init_104 : decode cX12_init 104 = .ok (.newarray .int, 2) := by decide +kernel
theorem dX12_init_106 : decode cX12_init 106 = .ok (.putfield 47, 3) := by decide +kernel
theorem dX12_init_109 : decode cX12_init 109 = .ok (.aload_n 0, 1) := by decide +kernel
theorem dX12_init_110 : decode cX12_init 110 = .ok (.bipush 7, 2) := by decide +kernel
theorem dX12_init_112 : decode cX12_init 112 = .ok (.newarray .int, 2) := by decide +kernel
theorem dX12_init_114 : decode cX12_init 114 = .ok (.putfield 50, 3) := by decide +kernel
theorem dX12_init_117 : decode cX12_init 117 = .ok (.aload_n 0, 1) := by decide +kernel
theorem dX12_init_118 : decode cX12_init 118 = .ok (.bipush 7, 2) := by decide +kernel
theorem dX12_init_120 : decode cX12_init 120 = .ok (.newarray .int, 2) := by decide +kernel
theorem dX12_init_122 : decode cX12_init 122 = .ok (.putfield 53, 3) := by decide +kernel
theorem dX12_init_125 : decode cX12_init 125 = .ok (.aload_n 0, 1) := by decide +kernel
theorem dX12_init_126 : decode cX12_init 126 = .ok (.bipush 7, 2) := by decide +kernel
theorem dX12_init_128 : decode cX12_init 128 = .ok (.newarray .int, 2) := by decide +kernel
theorem dX12_init_130 : decode cX12_init 130 = .ok (.putfield 56, 3) := by decide +kernel
theorem dX12_init_133 : decode cX12_init 133 = .ok (.aload_n 0, 1) := by decide +kernel
theorem dX12_init_134 : decode cX12_init 134 = .ok (.bipush 7, 2) := by decide +kernel
theorem dX12_init_136 : decode cX12_init 136 = .ok (.newarray .int, 2) := by decide +kernel
theorem dX12_init_138 : decode cX12_init 138 = .ok (.putfield 59, 3) := by decide +kernel
theorem dX12_init_141 : decode cX12_init 141 = .ok (.aload_n 0, 1) := by decide +kernel
theorem dX12_init_142 : decode cX12_init 142 = .ok (.bipush 7, 2) := by decide +kernel
theorem dX12_init_144 : decode cX12_init 144 = .ok (.newarray .int, 2) := by decide +kernel
theorem dX12_init_146 : decode cX12_init 146 = .ok (.putfield 62, 3) := by decide +kernel
theorem dX12_init_149 : decode cX12_init 149 = .ok (.return_, 1) := by decide +kernel
theorem dX12_thrown_0 : decode cX12_thrown 0 = .ok (.aload_n 0, 1) := by decide +kernel
theorem dX12_thrown_1 : decode cX12_thrown 1 = .ok (.getfield 65, 3) := by decide +kernel
theorem dX12_thrown_4 : decode cX12_thrown 4 = .ok (.ireturn, 1) := by decide +kernel
theorem dX12_good_0 : decode cX12_good 0 = .ok (.aload_n 0, 1) := by decide +kernel
theorem dX12_good_1 : decode cX12_good 1 = .ok (.iconst 0, 1) := by decide +kernel
theorem dX12_good_2 : decode cX12_good 2 = .ok (.putfield 65, 3) := by decide +kernel
theorem dX12_good_5 : decode cX12_good 5 = .ok (.aload_n 0, 1) := by decide +kernel
theorem dX12_good_6 : decode cX12_good 6 = .ok (.iconst 0, 1) := by decide +kernel
theorem dX12_good_7 : decode cX12_good 7 = .ok (.putfield 68, 3) := by decide +kernel
theorem dX12_good_10 : decode cX12_good 10 = .ok (.return_, 1) := by decide +kernel
theorem dX12_no_0 : decode cX12_no 0 = .ok (.aload_n 0, 1) := by decide +kernel
theorem dX12_no_1 : decode cX12_no 1 = .ok (.iload_n 1, 1) := by decide +kernel
theorem dX12_no_2 : decode cX12_no 2 = .ok (.putfield 68, 3) := by decide +kernel
theorem dX12_no_5 : decode cX12_no 5 = .ok (.iconst (-1), 1) := by decide +kernel
theorem dX12_no_6 : decode cX12_no 6 = .ok (.ireturn, 1) := by decide +kernel
theorem dX12_less_0 : decode cX12_less 0 = .ok (.aload_n 0, 1) := by decide +kernel
theorem dX12_less_1 : decode cX12_less 1 = .ok (.iload_n 1, 1) := by decide +kernel
theorem dX12_less_2 : decode cX12_less 2 = .ok (.putfield 68, 3) := by decide +kernel
theorem dX12_less_5 : decode cX12_less 5 = .ok (.sipush (-1000), 3) := by decide +kernel
theorem dX12_less_8 : decode cX12_less 8 = .ok (.ireturn, 1) := by decide +kernel
theorem dX12_isNot_0 : decode cX12_isNot 0 = .ok (.aload_n 0, 1) := by decide +kernel
theorem dX12_isNot_1 : decode cX12_isNot 1 = .ok (.iload_n 1, 1) := by decide +kernel
theorem dX12_isNot_2 : decode cX12_isNot 2 = .ok (.putfield 68, 3) := by decide +kernel
theorem dX12_isNot_5 : decode cX12_isNot 5 = .ok (.iconst 0, 1) := by decide +kernel
theorem dX12_isNot_6 : decode cX12_isNot 6 = .ok (.ireturn, 1) := by decide +kernel
theorem dX12_in_0 : decode cX12_in 0 = .ok (.iload_n 0, 1) := by decide +kernel
theorem dX12_in_1 : decode cX12_in 1 = .ok (.iload_n 1, 1) := by decide +kernel
theorem dX12_in_2 : decode cX12_in 2 = .ok (.if_icmp .lt 12, 3) := by decide +kernel
theorem dX12_in_5 : decode cX12_in 5 = .ok (.iload_n 0, 1) := by decide +kernel
theorem dX12_in_6 : decode cX12_in 6 = .ok (.iload_n 2, 1) := by decide +kernel
theorem dX12_in_7 : decode cX12_in 7 = .ok (.if_icmp .gt 7, 3) := by decide +kernel
theorem dX12_in_10 : decode cX12_in 10 = .ok (.iconst 1, 1) := by decide +kernel
theorem dX12_in_11 : decode cX12_in 11 = .ok (.goto 4, 3) := by decide +kernel
theorem dX12_in_14 : decode cX12_in 14 = .ok (.iconst 0, 1) := by decide +kernel
theorem dX12_in_15 : decode cX12_in 15 = .ok (.ireturn, 1) := by decide +kernel
theorem dX12_hasBit_0 : decode cX12_hasBit 0 = .ok (.iload_n 0, 1) := by decide +kernel
theorem dX12_hasBit_1 : decode cX12_hasBit 1 = .ok (.iload_n 1, 1) := by decide +kernel
theorem dX12_hasBit_2 : decode cX12_hasBit 2 = .ok (.ishr, 1) := by decide +kernel
theorem dX12_hasBit_3 : decode cX12_hasBit 3 = .ok (.iconst 1, 1) := by decide +kernel
theorem dX12_hasBit_4 : decode cX12_hasBit 4 = .ok (.iand, 1) := by decide +kernel
theorem dX12_hasBit_5 : decode cX12_hasBit 5 = .ok (.iconst 1, 1) := by decide +kernel
theorem dX12_hasBit_6 : decode cX12_hasBit 6 = .ok (.if_icmp .ne 7, 3) := by decide +kernel
theorem dX12_hasBit_9 : decode cX12_hasBit 9 = .ok (.iconst 1, 1) := by decide +kernel
theorem dX12_hasBit_10 : decode cX12_hasBit 10 = .ok (.goto 4, 3) := by decide +kernel
theorem dX12_hasBit_13 : decode cX12_hasBit 13 = .ok (.iconst 0, 1) := by decide +kernel
theorem dX12_hasBit_14 : decode cX12_hasBit 14 = .ok (.ireturn, 1) := by decide +kernel
theorem dX12_ones_0 : decode cX12_ones 0 = .ok (.iconst 0, 1) := by decide +kernel
theorem dX12_ones_1 : decode cX12_ones 1 = .ok (.istore_n 1, 1) := by decide +kernel
theorem dX12_ones_2 : decode cX12_ones 2 = .ok (.iconst 0, 1) := by decide +kernel
theorem dX12_ones_3 : decode cX12_ones 3 = .ok (.istore_n 2, 1) := by decide +kernel
theorem dX12_ones_4 : decode cX12_ones 4 = .ok (.iload_n 2, 1) := by decide +kernel
theorem dX12_ones_5 : decode cX12_ones 5 = .ok (.bipush 8, 2) := by decide +kernel
theorem dX12_ones_7 : decode cX12_ones 7 = .ok (.if_icmp .ge 17, 3) := by decide +kernel
theorem dX12_ones_10 : decode cX12_ones 10 = .ok (.iload_n 1, 1) := by decide +kernel
theorem dX12_ones_11 : decode cX12_ones 11 = .ok (.iload_n 0, 1) := by decide +kernel
theorem dX12_ones_12 : decode cX12_ones 12 = .ok (.iload_n 2, 1) := by decide +kernel
theorem dX12_ones_13 : decode cX12_ones 13 = .ok (.ishr, 1) := by decide +kernel
theorem dX12_ones_14 : decode cX12_ones 14 = .ok (.iconst 1, 1) := by decide +kernel
theorem dX12_ones_15 : decode cX12_ones 15 = .ok (.iand, 1) := by decide +kernel
theorem dX12_ones_16 : decode cX12_ones 16 = .ok (.iadd, 1) := by decide +kernel
theorem dX12_ones_17 : decode cX12_ones 17 = .ok (.istore_n 1, 1) := by decide +kernel
theorem dX12_ones_18 : decode cX12_ones 18 = .ok (.iinc 2 1, 3) := by decide +kernel
theorem dX12_ones_21 : decode cX12_ones 21 = .ok (.goto (-17), 3) := by decide +kernel
theorem dX12_ones_24 : decode cX12_ones 24 = .ok (.iload_n 1, 1) := by decide +kernel
theorem dX12_ones_25 : decode cX12_ones 25 = .ok (.ireturn, 1) := by decide +kernel
theorem dX12_apart_0 : decode cX12_apart 0 = .ok (.iload_n 0, 1) := by decide +kernel
theorem dX12_apart_1 : decode cX12_apart 1 = .ok (.iload_n 1, 1) := by decide +kernel
theorem dX12_apart_2 : decode cX12_apart 2 = .ok (.if_icmp .le 9, 3) := by decide +kernel
theorem dX12_apart_5 : decode cX12_apart 5 = .ok (.iload_n 0, 1) := by decide +kernel
theorem dX12_apart_6 : decode cX12_apart 6 = .ok (.iload_n 1, 1) := by decide +kernel
theorem dX12_apart_7 : decode cX12_apart 7 = .ok (.isub, 1) := by decide +kernel
theorem dX12_apart_8 : decode cX12_apart 8 = .ok (.goto 6, 3) := by decide +kernel
theorem dX12_apart_11 : decode cX12_apart 11 = .ok (.iload_n 1, 1) := by decide +kernel
theorem dX12_apart_12 : decode cX12_apart 12 = .ok (.iload_n 0, 1) := by decide +kernel
theorem dX12_apart_13 : decode cX12_apart 13 = .ok (.isub, 1) := by decide +kernel
theorem dX12_apart_14 : decode cX12_apart 14 = .ok (.ireturn, 1) := by decide +kernel
theorem dX12_copy_0 : decode cX12_copy 0 = .ok (.iconst 0, 1) := by decide +kernel
theorem dX12_copy_1 : decode cX12_copy 1 = .ok (.istore 5, 2) := by decide +kernel
theorem dX12_copy_3 : decode cX12_copy 3 = .ok (.iload 5, 2) := by decide +kernel
theorem dX12_copy_5 : decode cX12_copy 5 = .ok (.iload 4, 2) := by decide +kernel
theorem dX12_copy_7 : decode cX12_copy 7 = .ok (.if_icmp .ge 21, 3) := by decide +kernel
theorem dX12_copy_10 : decode cX12_copy 10 = .ok (.aload_n 2, 1) := by decide +kernel
theorem dX12_copy_11 : decode cX12_copy 11 = .ok (.iload_n 3, 1) := by decide +kernel
theorem dX12_copy_12 : decode cX12_copy 12 = .ok (.iload 5, 2) := by decide +kernel
theorem dX12_copy_14 : decode cX12_copy 14 = .ok (.iadd, 1) := by decide +kernel
theorem dX12_copy_15 : decode cX12_copy 15 = .ok (.aload_n 0, 1) := by decide +kernel
theorem dX12_copy_16 : decode cX12_copy 16 = .ok (.iload_n 1, 1) := by decide +kernel
theorem dX12_copy_17 : decode cX12_copy 17 = .ok (.iload 5, 2) := by decide +kernel
theorem dX12_copy_19 : decode cX12_copy 19 = .ok (.iadd, 1) := by decide +kernel
theorem dX12_copy_20 : decode cX12_copy 20 = .ok (.iaload, 1) := by decide +kernel
theorem dX12_copy_21 : decode cX12_copy 21 = .ok (.iastore, 1) := by decide +kernel
theorem dX12_copy_22 : decode cX12_copy 22 = .ok (.iinc 5 1, 3) := by decide +kernel
theorem dX12_copy_25 : decode cX12_copy 25 = .ok (.goto (-22), 3) := by decide +kernel
theorem dX12_copy_28 : decode cX12_copy 28 = .ok (.return_, 1) := by decide +kernel
theorem dX12_feed_0 : decode cX12_feed 0 = .ok (.aload_n 0, 1) := by decide +kernel
theorem dX12_feed_1 : decode cX12_feed 1 = .ok (.iconst 0, 1) := by decide +kernel
theorem dX12_feed_2 : decode cX12_feed 2 = .ok (.putfield 65, 3) := by decide +kernel
theorem dX12_feed_5 : decode cX12_feed 5 = .ok (.aload_n 0, 1) := by decide +kernel
theorem dX12_feed_6 : decode cX12_feed 6 = .ok (.getfield 71, 3) := by decide +kernel
theorem dX12_feed_9 : decode cX12_feed 9 = .ok (.bipush 20, 2) := by decide +kernel
theorem dX12_feed_11 : decode cX12_feed 11 = .ok (.iadd, 1) := by decide +kernel
theorem dX12_feed_12 : decode cX12_feed 12 = .ok (.sipush 1000, 3) := by decide +kernel
theorem dX12_feed_15 : decode cX12_feed 15 = .ok (.if_icmp .le 5, 3) := by decide +kernel
theorem dX12_feed_18 : decode cX12_feed 18 = .ok (.iconst (-1), 1) := by decide +kernel
theorem dX12_feed_19 : decode cX12_feed 19 = .ok (.ireturn, 1) := by decide +kernel
theorem dX12_feed_20 : decode cX12_feed 20 = .ok (.iconst 0, 1) := by decide +kernel
theorem dX12_feed_21 : decode cX12_feed 21 = .ok (.istore 6, 2) := by decide +kernel
theorem dX12_feed_23 : decode cX12_feed 23 = .ok (.iload 6, 2) := by decide +kernel
theorem dX12_feed_25 : decode cX12_feed 25 = .ok (.bipush 20, 2) := by decide +kernel
theorem dX12_feed_27 : decode cX12_feed 27 = .ok (.if_icmp .ge 93, 3) := by decide +kernel
theorem dX12_feed_30 : decode cX12_feed 30 = .ok (.iload 6, 2) := by decide +kernel
theorem dX12_feed_32 : decode cX12_feed 32 = .ok (.iconst 4, 1) := by decide +kernel
theorem dX12_feed_33 : decode cX12_feed 33 = .ok (.if_icmp .ge 7, 3) := by decide +kernel
theorem dX12_feed_36 : decode cX12_feed 36 = .ok (.iload_n 1, 1) := by decide +kernel
theorem dX12_feed_37 : decode cX12_feed 37 = .ok (.goto 39, 3) := by decide +kernel
theorem dX12_feed_40 : decode cX12_feed 40 = .ok (.iload 6, 2) := by decide +kernel
theorem dX12_feed_42 : decode cX12_feed 42 = .ok (.bipush 8, 2) := by decide +kernel
theorem dX12_feed_44 : decode cX12_feed 44 = .ok (.if_icmp .ge 7, 3) := by decide +kernel
theorem dX12_feed_47 : decode cX12_feed 47 = .ok (.iload_n 2, 1) := by decide +kernel
theorem dX12_feed_48 : decode cX12_feed 48 = .ok (.goto 28, 3) := by decide +kernel
theorem dX12_feed_51 : decode cX12_feed 51 = .ok (.iload 6, 2) := by decide +kernel
theorem dX12_feed_53 : decode cX12_feed 53 = .ok (.bipush 12, 2) := by decide +kernel
theorem dX12_feed_55 : decode cX12_feed 55 = .ok (.if_icmp .ge 7, 3) := by decide +kernel
theorem dX12_feed_58 : decode cX12_feed 58 = .ok (.iload_n 3, 1) := by decide +kernel
theorem dX12_feed_59 : decode cX12_feed 59 = .ok (.goto 17, 3) := by decide +kernel
theorem dX12_feed_62 : decode cX12_feed 62 = .ok (.iload 6, 2) := by decide +kernel
theorem dX12_feed_64 : decode cX12_feed 64 = .ok (.bipush 16, 2) := by decide +kernel
theorem dX12_feed_66 : decode cX12_feed 66 = .ok (.if_icmp .ge 8, 3) := by decide +kernel
theorem dX12_feed_69 : decode cX12_feed 69 = .ok (.iload 4, 2) := by decide +kernel
theorem dX12_feed_71 : decode cX12_feed 71 = .ok (.goto 5, 3) := by decide +kernel
theorem dX12_feed_74 : decode cX12_feed 74 = .ok (.iload 5, 2) := by decide +kernel
theorem dX12_feed_76 : decode cX12_feed 76 = .ok (.istore 7, 2) := by decide +kernel
theorem dX12_feed_78 : decode cX12_feed 78 = .ok (.aload_n 0, 1) := by decide +kernel
theorem dX12_feed_79 : decode cX12_feed 79 = .ok (.getfield 7, 3) := by decide +kernel
theorem dX12_feed_82 : decode cX12_feed 82 = .ok (.aload_n 0, 1) := by decide +kernel
theorem dX12_feed_83 : decode cX12_feed 83 = .ok (.getfield 71, 3) := by decide +kernel
theorem dX12_feed_86 : decode cX12_feed 86 = .ok (.iload 7, 2) := by decide +kernel
theorem dX12_feed_88 : decode cX12_feed 88 = .ok (.bipush 24, 2) := by decide +kernel
theorem dX12_feed_90 : decode cX12_feed 90 = .ok (.bipush 8, 2) := by decide +kernel
theorem dX12_feed_92 : decode cX12_feed 92 = .ok (.iload 6, 2) := by decide +kernel
theorem dX12_feed_94 : decode cX12_feed 94 = .ok (.iconst 4, 1) := by decide +kernel
theorem dX12_feed_95 : decode cX12_feed 95 = .ok (.irem, 1) := by decide +kernel
theorem dX12_feed_96 : decode cX12_feed 96 = .ok (.imul, 1) := by decide +kernel
theorem dX12_feed_97 : decode cX12_feed 97 = .ok (.isub, 1) := by decide +kernel
theorem dX12_feed_98 : decode cX12_feed 98 = .ok (.ishr, 1) := by decide +kernel
theorem dX12_feed_99 : decode cX12_feed 99 = .ok (.sipush 255, 3) := by decide +kernel
theorem dX12_feed_102 : decode cX12_feed 102 = .ok (.iand, 1) := by decide +kernel
theorem dX12_feed_103 : decode cX12_feed 103 = .ok (.iastore, 1) := by decide +kernel
theorem dX12_feed_104 : decode cX12_feed 104 = .ok (.aload_n 0, 1) := by decide +kernel
theorem dX12_feed_105 : decode cX12_feed 105 = .ok (.dup, 1) := by decide +kernel
theorem dX12_feed_106 : decode cX12_feed 106 = .ok (.getfield 71, 3) := by decide +kernel
theorem dX12_feed_109 : decode cX12_feed 109 = .ok (.iconst 1, 1) := by decide +kernel
theorem dX12_feed_110 : decode cX12_feed 110 = .ok (.iadd, 1) := by decide +kernel
theorem dX12_feed_111 : decode cX12_feed 111 = .ok (.putfield 71, 3) := by decide +kernel
theorem dX12_feed_114 : decode cX12_feed 114 = .ok (.iinc 6 1, 3) := by decide +kernel
theorem dX12_feed_117 : decode cX12_feed 117 = .ok (.goto (-94), 3) := by decide +kernel
theorem dX12_feed_120 : decode cX12_feed 120 = .ok (.aload_n 0, 1) := by decide +kernel
theorem dX12_feed_121 : decode cX12_feed 121 = .ok (.getfield 71, 3) := by decide +kernel
theorem dX12_feed_124 : decode cX12_feed 124 = .ok (.ireturn, 1) := by decide +kernel
theorem dX12_look_0 : decode cX12_look 0 = .ok (.iload_n 1, 1) := by decide +kernel
theorem dX12_look_1 : decode cX12_look 1 = .ok (.aload_n 0, 1) := by decide +kernel
theorem dX12_look_2 : decode cX12_look 2 = .ok (.getfield 74, 3) := by decide +kernel
theorem dX12_look_5 : decode cX12_look 5 = .ok (.if_icmp .ge 12, 3) := by decide +kernel
theorem dX12_look_8 : decode cX12_look 8 = .ok (.aload_n 0, 1) := by decide +kernel
theorem dX12_look_9 : decode cX12_look 9 = .ok (.getfield 7, 3) := by decide +kernel
theorem dX12_look_12 : decode cX12_look 12 = .ok (.iload_n 1, 1) := by decide +kernel
theorem dX12_look_13 : decode cX12_look 13 = .ok (.iaload, 1) := by decide +kernel
theorem dX12_look_14 : decode cX12_look 14 = .ok (.goto 4, 3) := by decide +kernel
theorem dX12_look_17 : decode cX12_look 17 = .ok (.iconst (-1), 1) := by decide +kernel
theorem dX12_look_18 : decode cX12_look 18 = .ok (.ireturn, 1) := by decide +kernel
theorem dX12_isSmall_0 : decode cX12_isSmall 0 = .ok (.iload_n 0, 1) := by decide +kernel
theorem dX12_isSmall_1 : decode cX12_isSmall 1 = .ok (.bipush 97, 2) := by decide +kernel
theorem dX12_isSmall_3 : decode cX12_isSmall 3 = .ok (.if_icmp .lt 13, 3) := by decide +kernel
theorem dX12_isSmall_6 : decode cX12_isSmall 6 = .ok (.iload_n 0, 1) := by decide +kernel
theorem dX12_isSmall_7 : decode cX12_isSmall 7 = .ok (.bipush 122, 2) := by decide +kernel
theorem dX12_isSmall_9 : decode cX12_isSmall 9 = .ok (.if_icmp .gt 7, 3) := by decide +kernel
theorem dX12_isSmall_12 : decode cX12_isSmall 12 = .ok (.iconst 1, 1) := by decide +kernel
theorem dX12_isSmall_13 : decode cX12_isSmall 13 = .ok (.goto 4, 3) := by decide +kernel
theorem dX12_isSmall_16 : decode cX12_isSmall 16 = .ok (.iconst 0, 1) := by decide +kernel
theorem dX12_isSmall_17 : decode cX12_isSmall 17 = .ok (.ireturn, 1) := by decide +kernel
theorem dX12_isDigit_0 : decode cX12_isDigit 0 = .ok (.iload_n 0, 1) := by decide +kernel
theorem dX12_isDigit_1 : decode cX12_isDigit 1 = .ok (.bipush 48, 2) := by decide +kernel
theorem dX12_isDigit_3 : decode cX12_isDigit 3 = .ok (.if_icmp .lt 13, 3) := by decide +kernel
theorem dX12_isDigit_6 : decode cX12_isDigit 6 = .ok (.iload_n 0, 1) := by decide +kernel
theorem dX12_isDigit_7 : decode cX12_isDigit 7 = .ok (.bipush 57, 2) := by decide +kernel
theorem dX12_isDigit_9 : decode cX12_isDigit 9 = .ok (.if_icmp .gt 7, 3) := by decide +kernel
theorem dX12_isDigit_12 : decode cX12_isDigit 12 = .ok (.iconst 1, 1) := by decide +kernel
theorem dX12_isDigit_13 : decode cX12_isDigit 13 = .ok (.goto 4, 3) := by decide +kernel
theorem dX12_isDigit_16 : decode cX12_isDigit 16 = .ok (.iconst 0, 1) := by decide +kernel
theorem dX12_isDigit_17 : decode cX12_isDigit 17 = .ok (.ireturn, 1) := by decide +kernel
theorem dX12_next_0 : decode cX12_next 0 = .ok (.aload_n 0, 1) := by decide +kernel
theorem dX12_next_1 : decode cX12_next 1 = .ok (.getfield 77, 3) := by decide +kernel
theorem dX12_next_4 : decode cX12_next 4 = .ok (.istore_n 1, 1) := by decide +kernel
theorem dX12_next_5 : decode cX12_next 5 = .ok (.aload_n 0, 1) := by decide +kernel
theorem dX12_next_6 : decode cX12_next 6 = .ok (.iload_n 1, 1) := by decide +kernel
theorem dX12_next_7 : decode cX12_next 7 = .ok (.invokevirtual 80, 3) := by decide +kernel
theorem dX12_next_10 : decode cX12_next 10 = .ok (.bipush 32, 2) := by decide +kernel
theorem dX12_next_12 : decode cX12_next 12 = .ok (.if_icmp .ne 9, 3) := by decide +kernel
theorem dX12_next_15 : decode cX12_next 15 = .ok (.iinc 1 1, 3) := by decide +kernel
theorem dX12_next_18 : decode cX12_next 18 = .ok (.goto (-13), 3) := by decide +kernel
theorem dX12_next_21 : decode cX12_next 21 = .ok (.aload_n 0, 1) := by decide +kernel
theorem dX12_next_22 : decode cX12_next 22 = .ok (.iload_n 1, 1) := by decide +kernel
theorem dX12_next_23 : decode cX12_next 23 = .ok (.putfield 84, 3) := by decide +kernel
theorem dX12_next_26 : decode cX12_next 26 = .ok (.aload_n 0, 1) := by decide +kernel
theorem dX12_next_27 : decode cX12_next 27 = .ok (.iload_n 1, 1) := by decide +kernel
theorem dX12_next_28 : decode cX12_next 28 = .ok (.invokevirtual 80, 3) := by decide +kernel
theorem dX12_next_31 : decode cX12_next 31 = .ok (.istore_n 2, 1) := by decide +kernel
theorem dX12_next_32 : decode cX12_next 32 = .ok (.aload_n 0, 1) := by decide +kernel
theorem dX12_next_33 : decode cX12_next 33 = .ok (.iconst 0, 1) := by decide +kernel
theorem dX12_next_34 : decode cX12_next 34 = .ok (.putfield 87, 3) := by decide +kernel
theorem dX12_next_37 : decode cX12_next 37 = .ok (.aload_n 0, 1) := by decide +kernel
theorem dX12_next_38 : decode cX12_next 38 = .ok (.iconst 0, 1) := by decide +kernel
theorem dX12_next_39 : decode cX12_next 39 = .ok (.putfield 90, 3) := by decide +kernel
theorem dX12_next_42 : decode cX12_next 42 = .ok (.iload_n 2, 1) := by decide +kernel
theorem dX12_next_43 : decode cX12_next 43 = .ok (.iconst (-1), 1) := by decide +kernel
theorem dX12_next_44 : decode cX12_next 44 = .ok (.if_icmp .ne 16, 3) := by decide +kernel
theorem dX12_next_47 : decode cX12_next 47 = .ok (.aload_n 0, 1) := by decide +kernel
theorem dX12_next_48 : decode cX12_next 48 = .ok (.iconst 0, 1) := by decide +kernel
theorem dX12_next_49 : decode cX12_next 49 = .ok (.putfield 93, 3) := by decide +kernel
theorem dX12_next_52 : decode cX12_next 52 = .ok (.aload_n 0, 1) := by decide +kernel
theorem dX12_next_53 : decode cX12_next 53 = .ok (.iload_n 1, 1) := by decide +kernel
theorem dX12_next_54 : decode cX12_next 54 = .ok (.putfield 77, 3) := by decide +kernel
theorem dX12_next_57 : decode cX12_next 57 = .ok (.goto 184, 3) := by decide +kernel
theorem dX12_next_60 : decode cX12_next 60 = .ok (.iload_n 2, 1) := by decide +kernel
theorem dX12_next_61 : decode cX12_next 61 = .ok (.invokestatic 96, 3) := by decide +kernel
theorem dX12_next_64 : decode cX12_next 64 = .ok (.ifCond .eq 79, 3) := by decide +kernel
theorem dX12_next_67 : decode cX12_next 67 = .ok (.aload_n 0, 1) := by decide +kernel
theorem dX12_next_68 : decode cX12_next 68 = .ok (.iload_n 1, 1) := by decide +kernel
theorem dX12_next_69 : decode cX12_next 69 = .ok (.invokevirtual 80, 3) := by decide +kernel
theorem dX12_next_72 : decode cX12_next 72 = .ok (.invokestatic 96, 3) := by decide +kernel
theorem dX12_next_75 : decode cX12_next 75 = .ok (.ifCond .eq 42, 3) := by decide +kernel
theorem dX12_next_78 : decode cX12_next 78 = .ok (.aload_n 0, 1) := by decide +kernel
theorem dX12_next_79 : decode cX12_next 79 = .ok (.getfield 87, 3) := by decide +kernel
theorem dX12_next_82 : decode cX12_next 82 = .ok (.bipush 8, 2) := by decide +kernel
theorem dX12_next_84 : decode cX12_next 84 = .ok (.if_icmp .ge 17, 3) := by decide +kernel
theorem dX12_next_87 : decode cX12_next 87 = .ok (.aload_n 0, 1) := by decide +kernel
theorem dX12_next_88 : decode cX12_next 88 = .ok (.getfield 17, 3) := by decide +kernel
theorem dX12_next_91 : decode cX12_next 91 = .ok (.aload_n 0, 1) := by decide +kernel
theorem dX12_next_92 : decode cX12_next 92 = .ok (.getfield 87, 3) := by decide +kernel
theorem dX12_next_95 : decode cX12_next 95 = .ok (.aload_n 0, 1) := by decide +kernel
theorem dX12_next_96 : decode cX12_next 96 = .ok (.iload_n 1, 1) := by decide +kernel
theorem dX12_next_97 : decode cX12_next 97 = .ok (.invokevirtual 80, 3) := by decide +kernel
theorem dX12_next_100 : decode cX12_next 100 = .ok (.iastore, 1) := by decide +kernel
theorem dX12_next_101 : decode cX12_next 101 = .ok (.aload_n 0, 1) := by decide +kernel
theorem dX12_next_102 : decode cX12_next 102 = .ok (.dup, 1) := by decide +kernel
theorem dX12_next_103 : decode cX12_next 103 = .ok (.getfield 87, 3) := by decide +kernel
theorem dX12_next_106 : decode cX12_next 106 = .ok (.iconst 1, 1) := by decide +kernel
theorem dX12_next_107 : decode cX12_next 107 = .ok (.iadd, 1) := by decide +kernel
theorem dX12_next_108 : decode cX12_next 108 = .ok (.putfield 87, 3) := by decide +kernel
theorem dX12_next_111 : decode cX12_next 111 = .ok (.iinc 1 1, 3) := by decide +kernel
theorem dX12_next_114 : decode cX12_next 114 = .ok (.goto (-47), 3) := by decide +kernel
theorem dX12_next_117 : decode cX12_next 117 = .ok (.aload_n 0, 1) := by decide +kernel
theorem dX12_next_118 : decode cX12_next 118 = .ok (.iload_n 1, 1) := by decide +kernel
theorem dX12_next_119 : decode cX12_next 119 = .ok (.putfield 77, 3) := by decide +kernel
theorem dX12_next_122 : decode cX12_next 122 = .ok (.aload_n 0, 1) := by decide +kernel
theorem dX12_next_123 : decode cX12_next 123 = .ok (.aload_n 0, 1) := by decide +kernel
theorem dX12_next_124 : decode cX12_next 124 = .ok (.getfield 87, 3) := by decide +kernel
theorem dX12_next_127 : decode cX12_next 127 = .ok (.bipush 8, 2) := by decide +kernel
theorem dX12_next_129 : decode cX12_next 129 = .ok (.if_icmp .le 7, 3) := by decide +kernel
theorem dX12_next_132 : decode cX12_next 132 = .ok (.iconst 1, 1) := by decide +kernel
theorem dX12_next_133 : decode cX12_next 133 = .ok (.goto 4, 3) := by decide +kernel
theorem dX12_next_136 : decode cX12_next 136 = .ok (.iconst 2, 1) := by decide +kernel
theorem dX12_next_137 : decode cX12_next 137 = .ok (.putfield 93, 3) := by decide +kernel
theorem dX12_next_140 : decode cX12_next 140 = .ok (.goto 101, 3) := by decide +kernel
theorem dX12_next_143 : decode cX12_next 143 = .ok (.iload_n 2, 1) := by decide +kernel
theorem dX12_next_144 : decode cX12_next 144 = .ok (.invokestatic 100, 3) := by decide +kernel
theorem dX12_next_147 : decode cX12_next 147 = .ok (.ifCond .eq 72, 3) := by decide +kernel
theorem dX12_next_150 : decode cX12_next 150 = .ok (.iconst 0, 1) := by decide +kernel
theorem dX12_next_151 : decode cX12_next 151 = .ok (.istore_n 3, 1) := by decide +kernel
theorem dX12_next_152 : decode cX12_next 152 = .ok (.aload_n 0, 1) := by decide +kernel
theorem dX12_next_153 : decode cX12_next 153 = .ok (.iload_n 1, 1) := by decide +kernel
theorem dX12_next_154 : decode cX12_next 154 = .ok (.invokevirtual 80, 3) := by decide +kernel
theorem dX12_next_157 : decode cX12_next 157 = .ok (.invokestatic 100, 3) := by decide +kernel
theorem dX12_next_160 : decode cX12_next 160 = .ok (.ifCond .eq 37, 3) := by decide +kernel
theorem dX12_next_163 : decode cX12_next 163 = .ok (.iload_n 3, 1) := by decide +kernel
theorem dX12_next_164 : decode cX12_next 164 = .ok (.iconst 3, 1) := by decide +kernel
theorem dX12_next_165 : decode cX12_next 165 = .ok (.if_icmp .ge 23, 3) := by decide +kernel
theorem dX12_next_168 : decode cX12_next 168 = .ok (.aload_n 0, 1) := by decide +kernel
theorem dX12_next_169 : decode cX12_next 169 = .ok (.bipush 10, 2) := by decide +kernel
theorem dX12_next_171 : decode cX12_next 171 = .ok (.aload_n 0, 1) := by decide +kernel
theorem dX12_next_172 : decode cX12_next 172 = .ok (.getfield 90, 3) := by decide +kernel
theorem dX12_next_175 : decode cX12_next 175 = .ok (.imul, 1) := by decide +kernel
theorem dX12_next_176 : decode cX12_next 176 = .ok (.aload_n 0, 1) := by decide +kernel
theorem dX12_next_177 : decode cX12_next 177 = .ok (.iload_n 1, 1) := by decide +kernel
theorem dX12_next_178 : decode cX12_next 178 = .ok (.invokevirtual 80, 3) := by decide +kernel
theorem dX12_next_181 : decode cX12_next 181 = .ok (.iadd, 1) := by decide +kernel
theorem dX12_next_182 : decode cX12_next 182 = .ok (.bipush 48, 2) := by decide +kernel
theorem dX12_next_184 : decode cX12_next 184 = .ok (.isub, 1) := by decide +kernel
theorem dX12_next_185 : decode cX12_next 185 = .ok (.putfield 90, 3) := by decide +kernel
theorem dX12_next_188 : decode cX12_next 188 = .ok (.iinc 3 1, 3) := by decide +kernel
theorem dX12_next_191 : decode cX12_next 191 = .ok (.iinc 1 1, 3) := by decide +kernel
theorem dX12_next_194 : decode cX12_next 194 = .ok (.goto (-42), 3) := by decide +kernel
theorem dX12_next_197 : decode cX12_next 197 = .ok (.aload_n 0, 1) := by decide +kernel
theorem dX12_next_198 : decode cX12_next 198 = .ok (.iload_n 1, 1) := by decide +kernel
theorem dX12_next_199 : decode cX12_next 199 = .ok (.putfield 77, 3) := by decide +kernel
theorem dX12_next_202 : decode cX12_next 202 = .ok (.aload_n 0, 1) := by decide +kernel
theorem dX12_next_203 : decode cX12_next 203 = .ok (.iload_n 3, 1) := by decide +kernel
theorem dX12_next_204 : decode cX12_next 204 = .ok (.iconst 3, 1) := by decide +kernel
theorem dX12_next_205 : decode cX12_next 205 = .ok (.if_icmp .le 7, 3) := by decide +kernel
theorem dX12_next_208 : decode cX12_next 208 = .ok (.iconst 1, 1) := by decide +kernel
theorem dX12_next_209 : decode cX12_next 209 = .ok (.goto 4, 3) := by decide +kernel
theorem dX12_next_212 : decode cX12_next 212 = .ok (.iconst 3, 1) := by decide +kernel
theorem dX12_next_213 : decode cX12_next 213 = .ok (.putfield 93, 3) := by decide +kernel
theorem dX12_next_216 : decode cX12_next 216 = .ok (.goto 25, 3) := by decide +kernel
theorem dX12_next_219 : decode cX12_next 219 = .ok (.aload_n 0, 1) := by decide +kernel
theorem dX12_next_220 : decode cX12_next 220 = .ok (.iload_n 1, 1) := by decide +kernel
theorem dX12_next_221 : decode cX12_next 221 = .ok (.iconst 1, 1) := by decide +kernel
theorem dX12_next_222 : decode cX12_next 222 = .ok (.iadd, 1) := by decide +kernel
theorem dX12_next_223 : decode cX12_next 223 = .ok (.putfield 77, 3) := by decide +kernel
theorem dX12_next_226 : decode cX12_next 226 = .ok (.aload_n 0, 1) := by decide +kernel
theorem dX12_next_227 : decode cX12_next 227 = .ok (.iload_n 2, 1) := by decide +kernel
theorem dX12_next_228 : decode cX12_next 228 = .ok (.bipush 59, 2) := by decide +kernel
theorem dX12_next_230 : decode cX12_next 230 = .ok (.if_icmp .ne 7, 3) := by decide +kernel
theorem dX12_next_233 : decode cX12_next 233 = .ok (.iload_n 2, 1) := by decide +kernel
theorem dX12_next_234 : decode cX12_next 234 = .ok (.goto 4, 3) := by decide +kernel
theorem dX12_next_237 : decode cX12_next 237 = .ok (.iconst 1, 1) := by decide +kernel
theorem dX12_next_238 : decode cX12_next 238 = .ok (.putfield 93, 3) := by decide +kernel
theorem dX12_next_241 : decode cX12_next 241 = .ok (.return_, 1) := by decide +kernel
theorem dX12_wrong_0 : decode cX12_wrong 0 = .ok (.aload_n 0, 1) := by decide +kernel
theorem dX12_wrong_1 : decode cX12_wrong 1 = .ok (.getfield 103, 3) := by decide +kernel
theorem dX12_wrong_4 : decode cX12_wrong 4 = .ok (.ifCond .eq 4, 3) := by decide +kernel
theorem dX12_wrong_7 : decode cX12_wrong 7 = .ok (.return_, 1) := by decide +kernel
theorem dX12_wrong_8 : decode cX12_wrong 8 = .ok (.aload_n 0, 1) := by decide +kernel
theorem dX12_wrong_9 : decode cX12_wrong 9 = .ok (.iconst 1, 1) := by decide +kernel
theorem dX12_wrong_10 : decode cX12_wrong 10 = .ok (.putfield 103, 3) := by decide +kernel
theorem dX12_wrong_13 : decode cX12_wrong 13 = .ok (.aload_n 0, 1) := by decide +kernel
theorem dX12_wrong_14 : decode cX12_wrong 14 = .ok (.iload_n 1, 1) := by decide +kernel
theorem dX12_wrong_15 : decode cX12_wrong 15 = .ok (.putfield 107, 3) := by decide +kernel
theorem dX12_wrong_18 : decode cX12_wrong 18 = .ok (.aload_n 0, 1) := by decide +kernel
theorem dX12_wrong_19 : decode cX12_wrong 19 = .ok (.iload_n 2, 1) := by decide +kernel
theorem dX12_wrong_20 : decode cX12_wrong 20 = .ok (.putfield 13, 3) := by decide +kernel
theorem dX12_wrong_23 : decode cX12_wrong 23 = .ok (.return_, 1) := by decide +kernel
theorem dX12_isWord_0 : decode cX12_isWord 0 = .ok (.aload_n 0, 1) := by decide +kernel
theorem dX12_isWord_1 : decode cX12_isWord 1 = .ok (.getfield 103, 3) := by decide +kernel
theorem dX12_isWord_4 : decode cX12_isWord 4 = .ok (.ifCond .ne 22, 3) := by decide +kernel
theorem dX12_isWord_7 : decode cX12_isWord 7 = .ok (.aload_n 0, 1) := by decide +kernel
theorem dX12_isWord_8 : decode cX12_isWord 8 = .ok (.getfield 93, 3) := by decide +kernel
theorem dX12_isWord_11 : decode cX12_isWord 11 = .ok (.iconst 2, 1) := by decide +kernel
theorem dX12_isWord_12 : decode cX12_isWord 12 = .ok (.if_icmp .ne 14, 3) := by decide +kernel
theorem dX12_isWord_15 : decode cX12_isWord 15 = .ok (.aload_n 0, 1) := by decide +kernel
theorem dX12_isWord_16 : decode cX12_isWord 16 = .ok (.getfield 87, 3) := by decide +kernel
theorem dX12_isWord_19 : decode cX12_isWord 19 = .ok (.aload_n 1, 1) := by decide +kernel
theorem dX12_isWord_20 : decode cX12_isWord 20 = .ok (.invokevirtual 110, 3) := by decide +kernel
theorem dX12_isWord_23 : decode cX12_isWord 23 = .ok (.if_icmp .eq 5, 3) := by decide +kernel
theorem dX12_isWord_26 : decode cX12_isWord 26 = .ok (.iconst 0, 1) := by decide +kernel
theorem dX12_isWord_27 : decode cX12_isWord 27 = .ok (.ireturn, 1) := by decide +kernel
theorem dX12_isWord_28 : decode cX12_isWord 28 = .ok (.iconst 1, 1) := by decide +kernel
theorem dX12_isWord_29 : decode cX12_isWord 29 = .ok (.istore_n 2, 1) := by decide +kernel
theorem dX12_isWord_30 : decode cX12_isWord 30 = .ok (.iconst 0, 1) := by decide +kernel
theorem dX12_isWord_31 : decode cX12_isWord 31 = .ok (.istore_n 3, 1) := by decide +kernel
theorem dX12_isWord_32 : decode cX12_isWord 32 = .ok (.iload_n 3, 1) := by decide +kernel
theorem dX12_isWord_33 : decode cX12_isWord 33 = .ok (.aload_n 0, 1) := by decide +kernel
theorem dX12_isWord_34 : decode cX12_isWord 34 = .ok (.getfield 87, 3) := by decide +kernel
theorem dX12_isWord_37 : decode cX12_isWord 37 = .ok (.if_icmp .ge 33, 3) := by decide +kernel
theorem dX12_isWord_40 : decode cX12_isWord 40 = .ok (.iload_n 2, 1) := by decide +kernel
theorem dX12_isWord_41 : decode cX12_isWord 41 = .ok (.ifCond .eq 21, 3) := by decide +kernel
theorem dX12_isWord_44 : decode cX12_isWord 44 = .ok (.aload_n 0, 1) := by decide +kernel
theorem dX12_isWord_45 : decode cX12_isWord 45 = .ok (.getfield 17, 3) := by decide +kernel
theorem dX12_isWord_48 : decode cX12_isWord 48 = .ok (.iload_n 3, 1) := by decide +kernel
theorem dX12_isWord_49 : decode cX12_isWord 49 = .ok (.iaload, 1) := by decide +kernel
theorem dX12_isWord_50 : decode cX12_isWord 50 = .ok (.aload_n 1, 1) := by decide +kernel
theorem dX12_isWord_51 : decode cX12_isWord 51 = .ok (.iload_n 3, 1) := by decide +kernel
theorem dX12_isWord_52 : decode cX12_isWord 52 = .ok (.invokevirtual 116, 3) := by decide +kernel
theorem dX12_isWord_55 : decode cX12_isWord 55 = .ok (.if_icmp .ne 7, 3) := by decide +kernel
theorem dX12_isWord_58 : decode cX12_isWord 58 = .ok (.iconst 1, 1) := by decide +kernel
theorem dX12_isWord_59 : decode cX12_isWord 59 = .ok (.goto 4, 3) := by decide +kernel
theorem dX12_isWord_62 : decode cX12_isWord 62 = .ok (.iconst 0, 1) := by decide +kernel
theorem dX12_isWord_63 : decode cX12_isWord 63 = .ok (.istore_n 2, 1) := by decide +kernel
theorem dX12_isWord_64 : decode cX12_isWord 64 = .ok (.iinc 3 1, 3) := by decide +kernel
theorem dX12_isWord_67 : decode cX12_isWord 67 = .ok (.goto (-35), 3) := by decide +kernel
theorem dX12_isWord_70 : decode cX12_isWord 70 = .ok (.iload_n 2, 1) := by decide +kernel
theorem dX12_isWord_71 : decode cX12_isWord 71 = .ok (.ireturn, 1) := by decide +kernel
theorem dX12_takesWord_0 : decode cX12_takesWord 0 = .ok (.aload_n 0, 1) := by decide +kernel
theorem dX12_takesWord_1 : decode cX12_takesWord 1 = .ok (.aload_n 1, 1) := by decide +kernel
theorem dX12_takesWord_2 : decode cX12_takesWord 2 = .ok (.invokevirtual 120, 3) := by decide +kernel
theorem dX12_takesWord_5 : decode cX12_takesWord 5 = .ok (.ifCond .ne 5, 3) := by decide +kernel
theorem dX12_takesWord_8 : decode cX12_takesWord 8 = .ok (.iconst 0, 1) := by decide +kernel
theorem dX12_takesWord_9 : decode cX12_takesWord 9 = .ok (.ireturn, 1) := by decide +kernel
theorem dX12_takesWord_10 : decode cX12_takesWord 10 = .ok (.aload_n 0, 1) := by decide +kernel
theorem dX12_takesWord_11 : decode cX12_takesWord 11 = .ok (.invokevirtual 124, 3) := by decide +kernel
theorem dX12_takesWord_14 : decode cX12_takesWord 14 = .ok (.iconst 1, 1) := by decide +kernel
theorem dX12_takesWord_15 : decode cX12_takesWord 15 = .ok (.ireturn, 1) := by decide +kernel
theorem dX12_must_0 : decode cX12_must 0 = .ok (.aload_n 0, 1) := by decide +kernel
theorem dX12_must_1 : decode cX12_must 1 = .ok (.getfield 103, 3) := by decide +kernel
theorem dX12_must_4 : decode cX12_must 4 = .ok (.ifCond .ne 20, 3) := by decide +kernel
theorem dX12_must_7 : decode cX12_must 7 = .ok (.aload_n 0, 1) := by decide +kernel
theorem dX12_must_8 : decode cX12_must 8 = .ok (.aload_n 1, 1) := by decide +kernel
theorem dX12_must_9 : decode cX12_must 9 = .ok (.invokevirtual 127, 3) := by decide +kernel
theorem dX12_must_12 : decode cX12_must 12 = .ok (.ifCond .ne 12, 3) := by decide +kernel
theorem dX12_must_15 : decode cX12_must 15 = .ok (.aload_n 0, 1) := by decide +kernel
theorem dX12_must_16 : decode cX12_must 16 = .ok (.iconst 1, 1) := by decide +kernel
theorem dX12_must_17 : decode cX12_must 17 = .ok (.aload_n 0, 1) := by decide +kernel
theorem dX12_must_18 : decode cX12_must 18 = .ok (.getfield 84, 3) := by decide +kernel
theorem dX12_must_21 : decode cX12_must 21 = .ok (.invokevirtual 130, 3) := by decide +kernel
theorem dX12_must_24 : decode cX12_must 24 = .ok (.return_, 1) := by decide +kernel
theorem dX12_mustName_0 : decode cX12_mustName 0 = .ok (.aload_n 0, 1) := by decide +kernel
theorem dX12_mustName_1 : decode cX12_mustName 1 = .ok (.ldc 134, 2) := by decide +kernel
theorem dX12_mustName_3 : decode cX12_mustName 3 = .ok (.invokevirtual 120, 3) := by decide +kernel
theorem dX12_mustName_6 : decode cX12_mustName 6 = .ok (.ifCond .ne 84, 3) := by decide +kernel
theorem dX12_mustName_9 : decode cX12_mustName 9 = .ok (.aload_n 0, 1) := by decide +kernel
theorem dX12_mustName_10 : decode cX12_mustName 10 = .ok (.ldc 136, 2) := by decide +kernel
theorem dX12_mustName_12 : decode cX12_mustName 12 = .ok (.invokevirtual 120, 3) := by decide +kernel
theorem dX12_mustName_15 : decode cX12_mustName 15 = .ok (.ifCond .ne 75, 3) := by decide +kernel
theorem dX12_mustName_18 : decode cX12_mustName 18 = .ok (.aload_n 0, 1) := by decide +kernel
theorem dX12_mustName_19 : decode cX12_mustName 19 = .ok (.ldc 138, 2) := by decide +kernel
theorem dX12_mustName_21 : decode cX12_mustName 21 = .ok (.invokevirtual 120, 3) := by decide +kernel
theorem dX12_mustName_24 : decode cX12_mustName 24 = .ok (.ifCond .ne 66, 3) := by decide +kernel
theorem dX12_mustName_27 : decode cX12_mustName 27 = .ok (.aload_n 0, 1) := by decide +kernel
theorem dX12_mustName_28 : decode cX12_mustName 28 = .ok (.ldc 140, 2) := by decide +kernel
theorem dX12_mustName_30 : decode cX12_mustName 30 = .ok (.invokevirtual 120, 3) := by decide +kernel
theorem dX12_mustName_33 : decode cX12_mustName 33 = .ok (.ifCond .ne 57, 3) := by decide +kernel
theorem dX12_mustName_36 : decode cX12_mustName 36 = .ok (.aload_n 0, 1) := by decide +kernel
theorem dX12_mustName_37 : decode cX12_mustName 37 = .ok (.ldc 142, 2) := by decide +kernel
theorem dX12_mustName_39 : decode cX12_mustName 39 = .ok (.invokevirtual 120, 3) := by decide +kernel
theorem dX12_mustName_42 : decode cX12_mustName 42 = .ok (.ifCond .ne 48, 3) := by decide +kernel
theorem dX12_mustName_45 : decode cX12_mustName 45 = .ok (.aload_n 0, 1) := by decide +kernel
theorem dX12_mustName_46 : decode cX12_mustName 46 = .ok (.ldc 144, 2) := by decide +kernel
theorem dX12_mustName_48 : decode cX12_mustName 48 = .ok (.invokevirtual 120, 3) := by decide +kernel
theorem dX12_mustName_51 : decode cX12_mustName 51 = .ok (.ifCond .ne 39, 3) := by decide +kernel
theorem dX12_mustName_54 : decode cX12_mustName 54 = .ok (.aload_n 0, 1) := by decide +kernel
theorem dX12_mustName_55 : decode cX12_mustName 55 = .ok (.ldc 146, 2) := by decide +kernel
theorem dX12_mustName_57 : decode cX12_mustName 57 = .ok (.invokevirtual 120, 3) := by decide +kernel
theorem dX12_mustName_60 : decode cX12_mustName 60 = .ok (.ifCond .ne 30, 3) := by decide +kernel
theorem dX12_mustName_63 : decode cX12_mustName 63 = .ok (.aload_n 0, 1) := by decide +kernel
theorem dX12_mustName_64 : decode cX12_mustName 64 = .ok (.ldc 148, 2) := by decide +kernel
theorem dX12_mustName_66 : decode cX12_mustName 66 = .ok (.invokevirtual 120, 3) := by decide +kernel
theorem dX12_mustName_69 : decode cX12_mustName 69 = .ok (.ifCond .ne 21, 3) := by decide +kernel
theorem dX12_mustName_72 : decode cX12_mustName 72 = .ok (.aload_n 0, 1) := by decide +kernel
theorem dX12_mustName_73 : decode cX12_mustName 73 = .ok (.ldc 150, 2) := by decide +kernel
theorem dX12_mustName_75 : decode cX12_mustName 75 = .ok (.invokevirtual 120, 3) := by decide +kernel
theorem dX12_mustName_78 : decode cX12_mustName 78 = .ok (.ifCond .ne 12, 3) := by decide +kernel
theorem dX12_mustName_81 : decode cX12_mustName 81 = .ok (.aload_n 0, 1) := by decide +kernel
theorem dX12_mustName_82 : decode cX12_mustName 82 = .ok (.ldc 152, 2) := by decide +kernel
theorem dX12_mustName_84 : decode cX12_mustName 84 = .ok (.invokevirtual 120, 3) := by decide +kernel
theorem dX12_mustName_87 : decode cX12_mustName 87 = .ok (.ifCond .eq 7, 3) := by decide +kernel
theorem dX12_mustName_90 : decode cX12_mustName 90 = .ok (.iconst 1, 1) := by decide +kernel
theorem dX12_mustName_91 : decode cX12_mustName 91 = .ok (.goto 4, 3) := by decide +kernel
theorem dX12_mustName_94 : decode cX12_mustName 94 = .ok (.iconst 0, 1) := by decide +kernel
theorem dX12_mustName_95 : decode cX12_mustName 95 = .ok (.istore_n 1, 1) := by decide +kernel
theorem dX12_mustName_96 : decode cX12_mustName 96 = .ok (.aload_n 0, 1) := by decide +kernel
theorem dX12_mustName_97 : decode cX12_mustName 97 = .ok (.getfield 93, 3) := by decide +kernel
theorem dX12_mustName_100 : decode cX12_mustName 100 = .ok (.iconst 2, 1) := by decide +kernel
theorem dX12_mustName_101 : decode cX12_mustName 101 = .ok (.if_icmp .ne 7, 3) := by decide +kernel
theorem dX12_mustName_104 : decode cX12_mustName 104 = .ok (.iload_n 1, 1) := by decide +kernel
theorem dX12_mustName_105 : decode cX12_mustName 105 = .ok (.ifCond .eq 12, 3) := by decide +kernel
theorem dX12_mustName_108 : decode cX12_mustName 108 = .ok (.aload_n 0, 1) := by decide +kernel
theorem dX12_mustName_109 : decode cX12_mustName 109 = .ok (.iconst 1, 1) := by decide +kernel
theorem dX12_mustName_110 : decode cX12_mustName 110 = .ok (.aload_n 0, 1) := by decide +kernel
theorem dX12_mustName_111 : decode cX12_mustName 111 = .ok (.getfield 84, 3) := by decide +kernel
theorem dX12_mustName_114 : decode cX12_mustName 114 = .ok (.invokevirtual 130, 3) := by decide +kernel
theorem dX12_mustName_117 : decode cX12_mustName 117 = .ok (.return_, 1) := by decide +kernel
theorem dX12_find_0 : decode cX12_find 0 = .ok (.iconst 0, 1) := by decide +kernel
theorem dX12_find_1 : decode cX12_find 1 = .ok (.istore_n 1, 1) := by decide +kernel
theorem dX12_find_2 : decode cX12_find 2 = .ok (.iload_n 1, 1) := by decide +kernel
theorem dX12_find_3 : decode cX12_find 3 = .ok (.bipush 13, 2) := by decide +kernel
theorem dX12_find_5 : decode cX12_find 5 = .ok (.if_icmp .ge 101, 3) := by decide +kernel
theorem dX12_find_8 : decode cX12_find 8 = .ok (.aload_n 0, 1) := by decide +kernel
theorem dX12_find_9 : decode cX12_find 9 = .ok (.getfield 23, 3) := by decide +kernel
theorem dX12_find_12 : decode cX12_find 12 = .ok (.sipush 289, 3) := by decide +kernel
theorem dX12_find_15 : decode cX12_find 15 = .ok (.iload_n 1, 1) := by decide +kernel
theorem dX12_find_16 : decode cX12_find 16 = .ok (.iadd, 1) := by decide +kernel
theorem dX12_find_17 : decode cX12_find 17 = .ok (.iaload, 1) := by decide +kernel
theorem dX12_find_18 : decode cX12_find 18 = .ok (.ifCond .le 24, 3) := by decide +kernel
theorem dX12_find_21 : decode cX12_find 21 = .ok (.aload_n 0, 1) := by decide +kernel
theorem dX12_find_22 : decode cX12_find 22 = .ok (.getfield 23, 3) := by decide +kernel
theorem dX12_find_25 : decode cX12_find 25 = .ok (.sipush 289, 3) := by decide +kernel
theorem dX12_find_28 : decode cX12_find 28 = .ok (.iload_n 1, 1) := by decide +kernel
theorem dX12_find_29 : decode cX12_find 29 = .ok (.iadd, 1) := by decide +kernel
theorem dX12_find_30 : decode cX12_find 30 = .ok (.iaload, 1) := by decide +kernel
theorem dX12_find_31 : decode cX12_find 31 = .ok (.aload_n 0, 1) := by decide +kernel
theorem dX12_find_32 : decode cX12_find 32 = .ok (.getfield 87, 3) := by decide +kernel
theorem dX12_find_35 : decode cX12_find 35 = .ok (.if_icmp .ne 7, 3) := by decide +kernel
theorem dX12_find_38 : decode cX12_find 38 = .ok (.iconst 1, 1) := by decide +kernel
theorem dX12_find_39 : decode cX12_find 39 = .ok (.goto 4, 3) := by decide +kernel
theorem dX12_find_42 : decode cX12_find 42 = .ok (.iconst 0, 1) := by decide +kernel
theorem dX12_find_43 : decode cX12_find 43 = .ok (.istore_n 2, 1) := by decide +kernel
theorem dX12_find_44 : decode cX12_find 44 = .ok (.iconst 0, 1) := by decide +kernel
theorem dX12_find_45 : decode cX12_find 45 = .ok (.istore_n 3, 1) := by decide +kernel
theorem dX12_find_46 : decode cX12_find 46 = .ok (.iload_n 3, 1) := by decide +kernel
theorem dX12_find_47 : decode cX12_find 47 = .ok (.aload_n 0, 1) := by decide +kernel
theorem dX12_find_48 : decode cX12_find 48 = .ok (.getfield 87, 3) := by decide +kernel
theorem dX12_find_51 : decode cX12_find 51 = .ok (.if_icmp .ge 43, 3) := by decide +kernel
theorem dX12_find_54 : decode cX12_find 54 = .ok (.iload_n 2, 1) := by decide +kernel
theorem dX12_find_55 : decode cX12_find 55 = .ok (.ifCond .eq 39, 3) := by decide +kernel
theorem dX12_find_58 : decode cX12_find 58 = .ok (.aload_n 0, 1) := by decide +kernel
theorem dX12_find_59 : decode cX12_find 59 = .ok (.getfield 23, 3) := by decide +kernel
theorem dX12_find_62 : decode cX12_find 62 = .ok (.sipush 302, 3) := by decide +kernel
theorem dX12_find_65 : decode cX12_find 65 = .ok (.bipush 8, 2) := by decide +kernel
theorem dX12_find_67 : decode cX12_find 67 = .ok (.iload_n 1, 1) := by decide +kernel
theorem dX12_find_68 : decode cX12_find 68 = .ok (.imul, 1) := by decide +kernel
theorem dX12_find_69 : decode cX12_find 69 = .ok (.iadd, 1) := by decide +kernel
theorem dX12_find_70 : decode cX12_find 70 = .ok (.iload_n 3, 1) := by decide +kernel
theorem dX12_find_71 : decode cX12_find 71 = .ok (.iadd, 1) := by decide +kernel
theorem dX12_find_72 : decode cX12_find 72 = .ok (.iaload, 1) := by decide +kernel
theorem dX12_find_73 : decode cX12_find 73 = .ok (.aload_n 0, 1) := by decide +kernel
theorem dX12_find_74 : decode cX12_find 74 = .ok (.getfield 17, 3) := by decide +kernel
theorem dX12_find_77 : decode cX12_find 77 = .ok (.iload_n 3, 1) := by decide +kernel
theorem dX12_find_78 : decode cX12_find 78 = .ok (.iaload, 1) := by decide +kernel
theorem dX12_find_79 : decode cX12_find 79 = .ok (.if_icmp .ne 7, 3) := by decide +kernel
theorem dX12_find_82 : decode cX12_find 82 = .ok (.iconst 1, 1) := by decide +kernel
theorem dX12_find_83 : decode cX12_find 83 = .ok (.goto 4, 3) := by decide +kernel
theorem dX12_find_86 : decode cX12_find 86 = .ok (.iconst 0, 1) := by decide +kernel
theorem dX12_find_87 : decode cX12_find 87 = .ok (.istore_n 2, 1) := by decide +kernel
theorem dX12_find_88 : decode cX12_find 88 = .ok (.iinc 3 1, 3) := by decide +kernel
theorem dX12_find_91 : decode cX12_find 91 = .ok (.goto (-45), 3) := by decide +kernel
theorem dX12_find_94 : decode cX12_find 94 = .ok (.iload_n 2, 1) := by decide +kernel
theorem dX12_find_95 : decode cX12_find 95 = .ok (.ifCond .eq 5, 3) := by decide +kernel
theorem dX12_find_98 : decode cX12_find 98 = .ok (.iload_n 1, 1) := by decide +kernel
theorem dX12_find_99 : decode cX12_find 99 = .ok (.ireturn, 1) := by decide +kernel
theorem dX12_find_100 : decode cX12_find 100 = .ok (.iinc 1 1, 3) := by decide +kernel
theorem dX12_find_103 : decode cX12_find 103 = .ok (.goto (-101), 3) := by decide +kernel
theorem dX12_find_106 : decode cX12_find 106 = .ok (.iconst (-1), 1) := by decide +kernel
theorem dX12_find_107 : decode cX12_find 107 = .ok (.ireturn, 1) := by decide +kernel
theorem dX12_newName_0 : decode cX12_newName 0 = .ok (.aload_n 0, 1) := by decide +kernel
theorem dX12_newName_1 : decode cX12_newName 1 = .ok (.getfield 103, 3) := by decide +kernel
theorem dX12_newName_4 : decode cX12_newName 4 = .ok (.ifCond .eq 4, 3) := by decide +kernel
theorem dX12_newName_7 : decode cX12_newName 7 = .ok (.return_, 1) := by decide +kernel
theorem dX12_newName_8 : decode cX12_newName 8 = .ok (.aload_n 0, 1) := by decide +kernel
theorem dX12_newName_9 : decode cX12_newName 9 = .ok (.invokevirtual 154, 3) := by decide +kernel
theorem dX12_newName_12 : decode cX12_newName 12 = .ok (.aload_n 0, 1) := by decide +kernel
theorem dX12_newName_13 : decode cX12_newName 13 = .ok (.getfield 103, 3) := by decide +kernel
theorem dX12_newName_16 : decode cX12_newName 16 = .ok (.ifCond .ne 19, 3) := by decide +kernel
theorem dX12_newName_19 : decode cX12_newName 19 = .ok (.aload_n 0, 1) := by decide +kernel
theorem dX12_newName_20 : decode cX12_newName 20 = .ok (.invokevirtual 157, 3) := by decide +kernel
theorem dX12_newName_23 : decode cX12_newName 23 = .ok (.ifCond .lt 12, 3) := by decide +kernel
theorem dX12_newName_26 : decode cX12_newName 26 = .ok (.aload_n 0, 1) := by decide +kernel
theorem dX12_newName_27 : decode cX12_newName 27 = .ok (.iconst 3, 1) := by decide +kernel
theorem dX12_newName_28 : decode cX12_newName 28 = .ok (.aload_n 0, 1) := by decide +kernel
theorem dX12_newName_29 : decode cX12_newName 29 = .ok (.getfield 84, 3) := by decide +kernel
theorem dX12_newName_32 : decode cX12_newName 32 = .ok (.invokevirtual 130, 3) := by decide +kernel
theorem dX12_newName_35 : decode cX12_newName 35 = .ok (.aload_n 0, 1) := by decide +kernel
theorem dX12_newName_36 : decode cX12_newName 36 = .ok (.getfield 103, 3) := by decide +kernel
theorem dX12_newName_39 : decode cX12_newName 39 = .ok (.ifCond .eq 4, 3) := by decide +kernel
theorem dX12_newName_42 : decode cX12_newName 42 = .ok (.return_, 1) := by decide +kernel
theorem dX12_newName_43 : decode cX12_newName 43 = .ok (.iconst 0, 1) := by decide +kernel
theorem dX12_newName_44 : decode cX12_newName 44 = .ok (.istore_n 2, 1) := by decide +kernel
theorem dX12_newName_45 : decode cX12_newName 45 = .ok (.iload_n 2, 1) := by decide +kernel
theorem dX12_newName_46 : decode cX12_newName 46 = .ok (.aload_n 0, 1) := by decide +kernel
theorem dX12_newName_47 : decode cX12_newName 47 = .ok (.getfield 87, 3) := by decide +kernel
theorem dX12_newName_50 : decode cX12_newName 50 = .ok (.if_icmp .ge 30, 3) := by decide +kernel
theorem dX12_newName_53 : decode cX12_newName 53 = .ok (.aload_n 0, 1) := by decide +kernel
theorem dX12_newName_54 : decode cX12_newName 54 = .ok (.getfield 23, 3) := by decide +kernel
theorem dX12_newName_57 : decode cX12_newName 57 = .ok (.sipush 302, 3) := by decide +kernel
theorem dX12_newName_60 : decode cX12_newName 60 = .ok (.bipush 8, 2) := by decide +kernel
theorem dX12_newName_62 : decode cX12_newName 62 = .ok (.iload_n 1, 1) := by decide +kernel
theorem dX12_newName_63 : decode cX12_newName 63 = .ok (.imul, 1) := by decide +kernel
theorem dX12_newName_64 : decode cX12_newName 64 = .ok (.iadd, 1) := by decide +kernel
theorem dX12_newName_65 : decode cX12_newName 65 = .ok (.iload_n 2, 1) := by decide +kernel
theorem dX12_newName_66 : decode cX12_newName 66 = .ok (.iadd, 1) := by decide +kernel
theorem dX12_newName_67 : decode cX12_newName 67 = .ok (.aload_n 0, 1) := by decide +kernel
theorem dX12_newName_68 : decode cX12_newName 68 = .ok (.getfield 17, 3) := by decide +kernel
theorem dX12_newName_71 : decode cX12_newName 71 = .ok (.iload_n 2, 1) := by decide +kernel
theorem dX12_newName_72 : decode cX12_newName 72 = .ok (.iaload, 1) := by decide +kernel
theorem dX12_newName_73 : decode cX12_newName 73 = .ok (.iastore, 1) := by decide +kernel
theorem dX12_newName_74 : decode cX12_newName 74 = .ok (.iinc 2 1, 3) := by decide +kernel
theorem dX12_newName_77 : decode cX12_newName 77 = .ok (.goto (-32), 3) := by decide +kernel
theorem dX12_newName_80 : decode cX12_newName 80 = .ok (.aload_n 0, 1) := by decide +kernel
theorem dX12_newName_81 : decode cX12_newName 81 = .ok (.getfield 23, 3) := by decide +kernel
theorem dX12_newName_84 : decode cX12_newName 84 = .ok (.sipush 289, 3) := by decide +kernel
theorem dX12_newName_87 : decode cX12_newName 87 = .ok (.iload_n 1, 1) := by decide +kernel
theorem dX12_newName_88 : decode cX12_newName 88 = .ok (.iadd, 1) := by decide +kernel
theorem dX12_newName_89 : decode cX12_newName 89 = .ok (.aload_n 0, 1) := by decide +kernel
theorem dX12_newName_90 : decode cX12_newName 90 = .ok (.getfield 87, 3) := by decide +kernel
theorem dX12_newName_93 : decode cX12_newName 93 = .ok (.iastore, 1) := by decide +kernel
theorem dX12_newName_94 : decode cX12_newName 94 = .ok (.aload_n 0, 1) := by decide +kernel
theorem dX12_newName_95 : decode cX12_newName 95 = .ok (.invokevirtual 124, 3) := by decide +kernel
theorem dX12_newName_98 : decode cX12_newName 98 = .ok (.return_, 1) := by decide +kernel
theorem dX12_named_0 : decode cX12_named 0 = .ok (.aload_n 0, 1) := by decide +kernel
theorem dX12_named_1 : decode cX12_named 1 = .ok (.getfield 103, 3) := by decide +kernel
theorem dX12_named_4 : decode cX12_named 4 = .ok (.ifCond .eq 5, 3) := by decide +kernel
theorem dX12_named_7 : decode cX12_named 7 = .ok (.iconst 0, 1) := by decide +kernel
theorem dX12_named_8 : decode cX12_named 8 = .ok (.ireturn, 1) := by decide +kernel
theorem dX12_named_9 : decode cX12_named 9 = .ok (.aload_n 0, 1) := by decide +kernel
theorem dX12_named_10 : decode cX12_named 10 = .ok (.invokevirtual 154, 3) := by decide +kernel
theorem dX12_named_13 : decode cX12_named 13 = .ok (.aload_n 0, 1) := by decide +kernel
theorem dX12_named_14 : decode cX12_named 14 = .ok (.getfield 103, 3) := by decide +kernel
theorem dX12_named_17 : decode cX12_named 17 = .ok (.ifCond .eq 5, 3) := by decide +kernel
theorem dX12_named_20 : decode cX12_named 20 = .ok (.iconst 0, 1) := by decide +kernel
theorem dX12_named_21 : decode cX12_named 21 = .ok (.ireturn, 1) := by decide +kernel
theorem dX12_named_22 : decode cX12_named 22 = .ok (.aload_n 0, 1) := by decide +kernel
theorem dX12_named_23 : decode cX12_named 23 = .ok (.invokevirtual 157, 3) := by decide +kernel
theorem dX12_named_26 : decode cX12_named 26 = .ok (.istore_n 3, 1) := by decide +kernel
theorem dX12_named_27 : decode cX12_named 27 = .ok (.iload_n 3, 1) := by decide +kernel
theorem dX12_named_28 : decode cX12_named 28 = .ok (.iload_n 1, 1) := by decide +kernel
theorem dX12_named_29 : decode cX12_named 29 = .ok (.iload_n 2, 1) := by decide +kernel
theorem dX12_named_30 : decode cX12_named 30 = .ok (.invokestatic 160, 3) := by decide +kernel
theorem dX12_named_33 : decode cX12_named 33 = .ok (.ifCond .ne 12, 3) := by decide +kernel
theorem dX12_named_36 : decode cX12_named 36 = .ok (.aload_n 0, 1) := by decide +kernel
theorem dX12_named_37 : decode cX12_named 37 = .ok (.iconst 2, 1) := by decide +kernel
theorem dX12_named_38 : decode cX12_named 38 = .ok (.aload_n 0, 1) := by decide +kernel
theorem dX12_named_39 : decode cX12_named 39 = .ok (.getfield 84, 3) := by decide +kernel
theorem dX12_named_42 : decode cX12_named 42 = .ok (.invokevirtual 130, 3) := by decide +kernel
theorem dX12_named_45 : decode cX12_named 45 = .ok (.aload_n 0, 1) := by decide +kernel
theorem dX12_named_46 : decode cX12_named 46 = .ok (.getfield 103, 3) := by decide +kernel
theorem dX12_named_49 : decode cX12_named 49 = .ok (.ifCond .eq 7, 3) := by decide +kernel
theorem dX12_named_52 : decode cX12_named 52 = .ok (.iconst 0, 1) := by decide +kernel
theorem dX12_named_53 : decode cX12_named 53 = .ok (.goto 6, 3) := by decide +kernel
theorem dX12_named_56 : decode cX12_named 56 = .ok (.iload_n 3, 1) := by decide +kernel
theorem dX12_named_57 : decode cX12_named 57 = .ok (.iload_n 1, 1) := by decide +kernel
theorem dX12_named_58 : decode cX12_named 58 = .ok (.isub, 1) := by decide +kernel
theorem dX12_named_59 : decode cX12_named 59 = .ok (.ireturn, 1) := by decide +kernel
theorem dX12_personHere_0 : decode cX12_personHere 0 = .ok (.aload_n 0, 1) := by decide +kernel
theorem dX12_personHere_1 : decode cX12_personHere 1 = .ok (.bipush 6, 2) := by decide +kernel
theorem dX12_personHere_3 : decode cX12_personHere 3 = .ok (.bipush 12, 2) := by decide +kernel
theorem dX12_personHere_5 : decode cX12_personHere 5 = .ok (.invokevirtual 164, 3) := by decide +kernel
theorem dX12_personHere_8 : decode cX12_personHere 8 = .ok (.ireturn, 1) := by decide +kernel
theorem dX12_personPassed_0 : decode cX12_personPassed 0 = .ok (.aload_n 0, 1) := by decide +kernel
theorem dX12_personPassed_1 : decode cX12_personPassed 1 = .ok (.invokevirtual 168, 3) := by decide +kernel
theorem dX12_personPassed_4 : decode cX12_personPassed 4 = .ok (.istore_n 1, 1) := by decide +kernel
theorem dX12_personPassed_5 : decode cX12_personPassed 5 = .ok (.aload_n 0, 1) := by decide +kernel
theorem dX12_personPassed_6 : decode cX12_personPassed 6 = .ok (.getfield 103, 3) := by decide +kernel
theorem dX12_personPassed_9 : decode cX12_personPassed 9 = .ok (.ifCond .ne 7, 3) := by decide +kernel
theorem dX12_personPassed_12 : decode cX12_personPassed 12 = .ok (.aload_n 0, 1) := by decide +kernel
theorem dX12_personPassed_13 : decode cX12_personPassed 13 = .ok (.invokevirtual 124, 3) := by decide +kernel
theorem dX12_personPassed_16 : decode cX12_personPassed 16 = .ok (.iload_n 1, 1) := by decide +kernel
theorem dX12_personPassed_17 : decode cX12_personPassed 17 = .ok (.ireturn, 1) := by decide +kernel
theorem dX12_numberHere_0 : decode cX12_numberHere 0 = .ok (.aload_n 0, 1) := by decide +kernel
theorem dX12_numberHere_1 : decode cX12_numberHere 1 = .ok (.getfield 103, 3) := by decide +kernel
theorem dX12_numberHere_4 : decode cX12_numberHere 4 = .ok (.ifCond .eq 5, 3) := by decide +kernel
theorem dX12_numberHere_7 : decode cX12_numberHere 7 = .ok (.iload_n 1, 1) := by decide +kernel
theorem dX12_numberHere_8 : decode cX12_numberHere 8 = .ok (.ireturn, 1) := by decide +kernel
theorem dX12_numberHere_9 : decode cX12_numberHere 9 = .ok (.aload_n 0, 1) := by decide +kernel
theorem dX12_numberHere_10 : decode cX12_numberHere 10 = .ok (.getfield 93, 3) := by decide +kernel
theorem dX12_numberHere_13 : decode cX12_numberHere 13 = .ok (.iconst 3, 1) := by decide +kernel
theorem dX12_numberHere_14 : decode cX12_numberHere 14 = .ok (.if_icmp .eq 15, 3) := by decide +kernel
theorem dX12_numberHere_17 : decode cX12_numberHere 17 = .ok (.aload_n 0, 1) := by decide +kernel
theorem dX12_numberHere_18 : decode cX12_numberHere 18 = .ok (.iconst 1, 1) := by decide +kernel
theorem dX12_numberHere_19 : decode cX12_numberHere 19 = .ok (.aload_n 0, 1) := by decide +kernel
theorem dX12_numberHere_20 : decode cX12_numberHere 20 = .ok (.getfield 84, 3) := by decide +kernel
theorem dX12_numberHere_23 : decode cX12_numberHere 23 = .ok (.invokevirtual 130, 3) := by decide +kernel
theorem dX12_numberHere_26 : decode cX12_numberHere 26 = .ok (.goto 24, 3) := by decide +kernel
theorem dX12_numberHere_29 : decode cX12_numberHere 29 = .ok (.aload_n 0, 1) := by decide +kernel
theorem dX12_numberHere_30 : decode cX12_numberHere 30 = .ok (.getfield 90, 3) := by decide +kernel
theorem dX12_numberHere_33 : decode cX12_numberHere 33 = .ok (.iload_n 1, 1) := by decide +kernel
theorem dX12_numberHere_34 : decode cX12_numberHere 34 = .ok (.iload_n 2, 1) := by decide +kernel
theorem dX12_numberHere_35 : decode cX12_numberHere 35 = .ok (.invokestatic 160, 3) := by decide +kernel
theorem dX12_numberHere_38 : decode cX12_numberHere 38 = .ok (.ifCond .ne 12, 3) := by decide +kernel
theorem dX12_numberHere_41 : decode cX12_numberHere 41 = .ok (.aload_n 0, 1) := by decide +kernel
theorem dX12_numberHere_42 : decode cX12_numberHere 42 = .ok (.iconst 4, 1) := by decide +kernel
theorem dX12_numberHere_43 : decode cX12_numberHere 43 = .ok (.aload_n 0, 1) := by decide +kernel
theorem dX12_numberHere_44 : decode cX12_numberHere 44 = .ok (.getfield 84, 3) := by decide +kernel
theorem dX12_numberHere_47 : decode cX12_numberHere 47 = .ok (.invokevirtual 130, 3) := by decide +kernel
theorem dX12_numberHere_50 : decode cX12_numberHere 50 = .ok (.aload_n 0, 1) := by decide +kernel
theorem dX12_numberHere_51 : decode cX12_numberHere 51 = .ok (.getfield 103, 3) := by decide +kernel
theorem dX12_numberHere_54 : decode cX12_numberHere 54 = .ok (.ifCond .eq 7, 3) := by decide +kernel
theorem dX12_numberHere_57 : decode cX12_numberHere 57 = .ok (.iload_n 1, 1) := by decide +kernel
theorem dX12_numberHere_58 : decode cX12_numberHere 58 = .ok (.goto 7, 3) := by decide +kernel
theorem dX12_numberHere_61 : decode cX12_numberHere 61 = .ok (.aload_n 0, 1) := by decide +kernel
theorem dX12_numberHere_62 : decode cX12_numberHere 62 = .ok (.getfield 90, 3) := by decide +kernel
theorem dX12_numberHere_65 : decode cX12_numberHere 65 = .ok (.ireturn, 1) := by decide +kernel
theorem dX12_number_0 : decode cX12_number 0 = .ok (.aload_n 0, 1) := by decide +kernel
theorem dX12_number_1 : decode cX12_number 1 = .ok (.iload_n 1, 1) := by decide +kernel
theorem dX12_number_2 : decode cX12_number 2 = .ok (.iload_n 2, 1) := by decide +kernel
theorem dX12_number_3 : decode cX12_number 3 = .ok (.invokevirtual 171, 3) := by decide +kernel
theorem dX12_number_6 : decode cX12_number 6 = .ok (.istore_n 3, 1) := by decide +kernel
theorem dX12_number_7 : decode cX12_number 7 = .ok (.aload_n 0, 1) := by decide +kernel
theorem dX12_number_8 : decode cX12_number 8 = .ok (.getfield 103, 3) := by decide +kernel
theorem dX12_number_11 : decode cX12_number 11 = .ok (.ifCond .ne 7, 3) := by decide +kernel
theorem dX12_number_14 : decode cX12_number 14 = .ok (.aload_n 0, 1) := by decide +kernel
theorem dX12_number_15 : decode cX12_number 15 = .ok (.invokevirtual 124, 3) := by decide +kernel
theorem dX12_number_18 : decode cX12_number 18 = .ok (.iload_n 3, 1) := by decide +kernel
theorem dX12_number_19 : decode cX12_number 19 = .ok (.ireturn, 1) := by decide +kernel
theorem dX12_after_0 : decode cX12_after 0 = .ok (.aload_n 0, 1) := by decide +kernel
theorem dX12_after_1 : decode cX12_after 1 = .ok (.aload_n 1, 1) := by decide +kernel
theorem dX12_after_2 : decode cX12_after 2 = .ok (.invokevirtual 174, 3) := by decide +kernel
theorem dX12_after_5 : decode cX12_after 5 = .ok (.aload_n 0, 1) := by decide +kernel
theorem dX12_after_6 : decode cX12_after 6 = .ok (.iload_n 2, 1) := by decide +kernel
theorem dX12_after_7 : decode cX12_after 7 = .ok (.iload_n 3, 1) := by decide +kernel
theorem dX12_after_8 : decode cX12_after 8 = .ok (.invokevirtual 178, 3) := by decide +kernel
theorem dX12_after_11 : decode cX12_after 11 = .ok (.ireturn, 1) := by decide +kernel
theorem dX12_oneOf_0 : decode cX12_oneOf 0 = .ok (.aload_n 0, 1) := by decide +kernel
theorem dX12_oneOf_1 : decode cX12_oneOf 1 = .ok (.aload_n 1, 1) := by decide +kernel
theorem dX12_oneOf_2 : decode cX12_oneOf 2 = .ok (.invokevirtual 120, 3) := by decide +kernel
theorem dX12_oneOf_5 : decode cX12_oneOf 5 = .ok (.ifCond .eq 7, 3) := by decide +kernel
theorem dX12_oneOf_8 : decode cX12_oneOf 8 = .ok (.iconst 0, 1) := by decide +kernel
theorem dX12_oneOf_9 : decode cX12_oneOf 9 = .ok (.goto 41, 3) := by decide +kernel
theorem dX12_oneOf_12 : decode cX12_oneOf 12 = .ok (.aload_n 0, 1) := by decide +kernel
theorem dX12_oneOf_13 : decode cX12_oneOf 13 = .ok (.aload_n 2, 1) := by decide +kernel
theorem dX12_oneOf_14 : decode cX12_oneOf 14 = .ok (.invokevirtual 120, 3) := by decide +kernel
theorem dX12_oneOf_17 : decode cX12_oneOf 17 = .ok (.ifCond .eq 7, 3) := by decide +kernel
theorem dX12_oneOf_20 : decode cX12_oneOf 20 = .ok (.iconst 1, 1) := by decide +kernel
theorem dX12_oneOf_21 : decode cX12_oneOf 21 = .ok (.goto 29, 3) := by decide +kernel
theorem dX12_oneOf_24 : decode cX12_oneOf 24 = .ok (.aload_n 0, 1) := by decide +kernel
theorem dX12_oneOf_25 : decode cX12_oneOf 25 = .ok (.aload_n 3, 1) := by decide +kernel
theorem dX12_oneOf_26 : decode cX12_oneOf 26 = .ok (.invokevirtual 120, 3) := by decide +kernel
theorem dX12_oneOf_29 : decode cX12_oneOf 29 = .ok (.ifCond .eq 7, 3) := by decide +kernel
theorem dX12_oneOf_32 : decode cX12_oneOf 32 = .ok (.iconst 2, 1) := by decide +kernel
theorem dX12_oneOf_33 : decode cX12_oneOf 33 = .ok (.goto 17, 3) := by decide +kernel
theorem dX12_oneOf_36 : decode cX12_oneOf 36 = .ok (.aload_n 0, 1) := by decide +kernel
theorem dX12_oneOf_37 : decode cX12_oneOf 37 = .ok (.aload 4, 2) := by decide +kernel
theorem dX12_oneOf_39 : decode cX12_oneOf 39 = .ok (.invokevirtual 120, 3) := by decide +kernel
theorem dX12_oneOf_42 : decode cX12_oneOf 42 = .ok (.ifCond .eq 7, 3) := by decide +kernel
theorem dX12_oneOf_45 : decode cX12_oneOf 45 = .ok (.iconst 3, 1) := by decide +kernel
theorem dX12_oneOf_46 : decode cX12_oneOf 46 = .ok (.goto 4, 3) := by decide +kernel
theorem dX12_oneOf_49 : decode cX12_oneOf 49 = .ok (.iconst (-1), 1) := by decide +kernel
theorem dX12_oneOf_50 : decode cX12_oneOf 50 = .ok (.istore 5, 2) := by decide +kernel
theorem dX12_oneOf_52 : decode cX12_oneOf 52 = .ok (.iload 5, 2) := by decide +kernel
theorem dX12_oneOf_54 : decode cX12_oneOf 54 = .ok (.ifCond .ge 12, 3) := by decide +kernel
theorem dX12_oneOf_57 : decode cX12_oneOf 57 = .ok (.aload_n 0, 1) := by decide +kernel
theorem dX12_oneOf_58 : decode cX12_oneOf 58 = .ok (.iconst 1, 1) := by decide +kernel
theorem dX12_oneOf_59 : decode cX12_oneOf 59 = .ok (.aload_n 0, 1) := by decide +kernel
theorem dX12_oneOf_60 : decode cX12_oneOf 60 = .ok (.getfield 84, 3) := by decide +kernel
theorem dX12_oneOf_63 : decode cX12_oneOf 63 = .ok (.invokevirtual 130, 3) := by decide +kernel
theorem dX12_oneOf_66 : decode cX12_oneOf 66 = .ok (.aload_n 0, 1) := by decide +kernel
theorem dX12_oneOf_67 : decode cX12_oneOf 67 = .ok (.getfield 103, 3) := by decide +kernel
theorem dX12_oneOf_70 : decode cX12_oneOf 70 = .ok (.ifCond .ne 7, 3) := by decide +kernel
theorem dX12_oneOf_73 : decode cX12_oneOf 73 = .ok (.aload_n 0, 1) := by decide +kernel
theorem dX12_oneOf_74 : decode cX12_oneOf 74 = .ok (.invokevirtual 124, 3) := by decide +kernel
theorem dX12_oneOf_77 : decode cX12_oneOf 77 = .ok (.iload 5, 2) := by decide +kernel
theorem dX12_oneOf_79 : decode cX12_oneOf 79 = .ok (.ireturn, 1) := by decide +kernel
theorem dX12_room_0 : decode cX12_room 0 = .ok (.aload_n 0, 1) := by decide +kernel
theorem dX12_room_1 : decode cX12_room 1 = .ok (.invokevirtual 181, 3) := by decide +kernel
theorem dX12_room_4 : decode cX12_room 4 = .ok (.iload_n 1, 1) := by decide +kernel
theorem dX12_room_5 : decode cX12_room 5 = .ok (.iconst 0, 1) := by decide +kernel
theorem dX12_room_6 : decode cX12_room 6 = .ok (.aload_n 0, 1) := by decide +kernel
theorem dX12_room_7 : decode cX12_room 7 = .ok (.getfield 71, 3) := by decide +kernel
theorem dX12_room_10 : decode cX12_room 10 = .ok (.invokestatic 160, 3) := by decide +kernel
theorem dX12_room_13 : decode cX12_room 13 = .ok (.ifCond .ne 9, 3) := by decide +kernel
theorem dX12_room_16 : decode cX12_room 16 = .ok (.aload_n 0, 1) := by decide +kernel
theorem dX12_room_17 : decode cX12_room 17 = .ok (.iconst 2, 1) := by decide +kernel
theorem dX12_room_18 : decode cX12_room 18 = .ok (.invokevirtual 184, 3) := by decide +kernel
theorem dX12_room_21 : decode cX12_room 21 = .ok (.ireturn, 1) := by decide +kernel
theorem dX12_room_22 : decode cX12_room 22 = .ok (.aload_n 0, 1) := by decide +kernel
theorem dX12_room_23 : decode cX12_room 23 = .ok (.iconst 0, 1) := by decide +kernel
theorem dX12_room_24 : decode cX12_room 24 = .ok (.putfield 71, 3) := by decide +kernel
theorem dX12_room_27 : decode cX12_room 27 = .ok (.aload_n 0, 1) := by decide +kernel
theorem dX12_room_28 : decode cX12_room 28 = .ok (.iconst 0, 1) := by decide +kernel
theorem dX12_room_29 : decode cX12_room 29 = .ok (.putfield 107, 3) := by decide +kernel
theorem dX12_room_32 : decode cX12_room 32 = .ok (.aload_n 0, 1) := by decide +kernel
theorem dX12_room_33 : decode cX12_room 33 = .ok (.iconst 0, 1) := by decide +kernel
theorem dX12_room_34 : decode cX12_room 34 = .ok (.putfield 103, 3) := by decide +kernel
theorem dX12_room_37 : decode cX12_room 37 = .ok (.iconst 0, 1) := by decide +kernel
theorem dX12_room_38 : decode cX12_room 38 = .ok (.istore_n 2, 1) := by decide +kernel
theorem dX12_room_39 : decode cX12_room 39 = .ok (.iload_n 2, 1) := by decide +kernel
theorem dX12_room_40 : decode cX12_room 40 = .ok (.sipush 406, 3) := by decide +kernel
theorem dX12_room_43 : decode cX12_room 43 = .ok (.if_icmp .ge 16, 3) := by decide +kernel
theorem dX12_room_46 : decode cX12_room 46 = .ok (.aload_n 0, 1) := by decide +kernel
theorem dX12_room_47 : decode cX12_room 47 = .ok (.getfield 23, 3) := by decide +kernel
theorem dX12_room_50 : decode cX12_room 50 = .ok (.iload_n 2, 1) := by decide +kernel
theorem dX12_room_51 : decode cX12_room 51 = .ok (.iconst 0, 1) := by decide +kernel
theorem dX12_room_52 : decode cX12_room 52 = .ok (.iastore, 1) := by decide +kernel
theorem dX12_room_53 : decode cX12_room 53 = .ok (.iinc 2 1, 3) := by decide +kernel
theorem dX12_room_56 : decode cX12_room 56 = .ok (.goto (-17), 3) := by decide +kernel
theorem dX12_room_59 : decode cX12_room 59 = .ok (.aload_n 0, 1) := by decide +kernel
theorem dX12_room_60 : decode cX12_room 60 = .ok (.iload_n 1, 1) := by decide +kernel
theorem dX12_room_61 : decode cX12_room 61 = .ok (.putfield 74, 3) := by decide +kernel
theorem dX12_room_64 : decode cX12_room 64 = .ok (.aload_n 0, 1) := by decide +kernel
theorem dX12_room_65 : decode cX12_room 65 = .ok (.iconst 0, 1) := by decide +kernel
theorem dX12_room_66 : decode cX12_room 66 = .ok (.putfield 77, 3) := by decide +kernel
theorem dX12_room_69 : decode cX12_room 69 = .ok (.aload_n 0, 1) := by decide +kernel
theorem dX12_room_70 : decode cX12_room 70 = .ok (.invokevirtual 124, 3) := by decide +kernel
theorem dX12_room_73 : decode cX12_room 73 = .ok (.aload_n 0, 1) := by decide +kernel
theorem dX12_room_74 : decode cX12_room 74 = .ok (.invokevirtual 187, 3) := by decide +kernel
theorem dX12_room_77 : decode cX12_room 77 = .ok (.aload_n 0, 1) := by decide +kernel
theorem dX12_room_78 : decode cX12_room 78 = .ok (.getfield 103, 3) := by decide +kernel
theorem dX12_room_81 : decode cX12_room 81 = .ok (.ifCond .ne 23, 3) := by decide +kernel
theorem dX12_room_84 : decode cX12_room 84 = .ok (.aload_n 0, 1) := by decide +kernel
theorem dX12_room_85 : decode cX12_room 85 = .ok (.getfield 93, 3) := by decide +kernel
theorem dX12_room_88 : decode cX12_room 88 = .ok (.bipush 59, 2) := by decide +kernel
theorem dX12_room_90 : decode cX12_room 90 = .ok (.if_icmp .ne 14, 3) := by decide +kernel
theorem dX12_room_93 : decode cX12_room 93 = .ok (.aload_n 0, 1) := by decide +kernel
theorem dX12_room_94 : decode cX12_room 94 = .ok (.invokevirtual 124, 3) := by decide +kernel
theorem dX12_room_97 : decode cX12_room 97 = .ok (.aload_n 0, 1) := by decide +kernel
theorem dX12_room_98 : decode cX12_room 98 = .ok (.invokevirtual 187, 3) := by decide +kernel
theorem dX12_room_101 : decode cX12_room 101 = .ok (.goto (-24), 3) := by decide +kernel
theorem dX12_room_104 : decode cX12_room 104 = .ok (.aload_n 0, 1) := by decide +kernel
theorem dX12_room_105 : decode cX12_room 105 = .ok (.getfield 103, 3) := by decide +kernel
theorem dX12_room_108 : decode cX12_room 108 = .ok (.ifCond .ne 19, 3) := by decide +kernel
theorem dX12_room_111 : decode cX12_room 111 = .ok (.aload_n 0, 1) := by decide +kernel
theorem dX12_room_112 : decode cX12_room 112 = .ok (.getfield 93, 3) := by decide +kernel
theorem dX12_room_115 : decode cX12_room 115 = .ok (.ifCond .eq 12, 3) := by decide +kernel
theorem dX12_room_118 : decode cX12_room 118 = .ok (.aload_n 0, 1) := by decide +kernel
theorem dX12_room_119 : decode cX12_room 119 = .ok (.iconst 1, 1) := by decide +kernel
theorem dX12_room_120 : decode cX12_room 120 = .ok (.aload_n 0, 1) := by decide +kernel
theorem dX12_room_121 : decode cX12_room 121 = .ok (.getfield 84, 3) := by decide +kernel
theorem dX12_room_124 : decode cX12_room 124 = .ok (.invokevirtual 130, 3) := by decide +kernel
theorem dX12_room_127 : decode cX12_room 127 = .ok (.aload_n 0, 1) := by decide +kernel
theorem dX12_room_128 : decode cX12_room 128 = .ok (.getfield 103, 3) := by decide +kernel
theorem dX12_room_131 : decode cX12_room 131 = .ok (.ifCond .ne 31, 3) := by decide +kernel
theorem dX12_room_134 : decode cX12_room 134 = .ok (.aload_n 0, 1) := by decide +kernel
theorem dX12_room_135 : decode cX12_room 135 = .ok (.getfield 23, 3) := by decide +kernel
theorem dX12_room_138 : decode cX12_room 138 = .ok (.iconst 0, 1) := by decide +kernel
theorem dX12_room_139 : decode cX12_room 139 = .ok (.iaload, 1) := by decide +kernel
theorem dX12_room_140 : decode cX12_room 140 = .ok (.ifCond .eq 12, 3) := by decide +kernel
theorem dX12_room_143 : decode cX12_room 143 = .ok (.aload_n 0, 1) := by decide +kernel
theorem dX12_room_144 : decode cX12_room 144 = .ok (.getfield 23, 3) := by decide +kernel
theorem dX12_room_147 : decode cX12_room 147 = .ok (.iconst 3, 1) := by decide +kernel
theorem dX12_room_148 : decode cX12_room 148 = .ok (.iaload, 1) := by decide +kernel
theorem dX12_room_149 : decode cX12_room 149 = .ok (.ifCond .ne 13, 3) := by decide +kernel
theorem dX12_room_152 : decode cX12_room 152 = .ok (.aload_n 0, 1) := by decide +kernel
theorem dX12_room_153 : decode cX12_room 153 = .ok (.bipush 6, 2) := by decide +kernel
theorem dX12_room_155 : decode cX12_room 155 = .ok (.aload_n 0, 1) := by decide +kernel
theorem dX12_room_156 : decode cX12_room 156 = .ok (.getfield 84, 3) := by decide +kernel
theorem dX12_room_159 : decode cX12_room 159 = .ok (.invokevirtual 130, 3) := by decide +kernel
theorem dX12_room_162 : decode cX12_room 162 = .ok (.aload_n 0, 1) := by decide +kernel
theorem dX12_room_163 : decode cX12_room 163 = .ok (.getfield 103, 3) := by decide +kernel
theorem dX12_room_166 : decode cX12_room 166 = .ok (.ifCond .eq 9, 3) := by decide +kernel
theorem dX12_room_169 : decode cX12_room 169 = .ok (.aload_n 0, 1) := by decide +kernel
theorem dX12_room_170 : decode cX12_room 170 = .ok (.iconst 4, 1) := by decide +kernel
theorem dX12_room_171 : decode cX12_room 171 = .ok (.invokevirtual 184, 3) := by decide +kernel
theorem dX12_room_174 : decode cX12_room 174 = .ok (.ireturn, 1) := by decide +kernel
theorem dX12_room_175 : decode cX12_room 175 = .ok (.aload_n 0, 1) := by decide +kernel
theorem dX12_room_176 : decode cX12_room 176 = .ok (.getfield 23, 3) := by decide +kernel
theorem dX12_room_179 : decode cX12_room 179 = .ok (.iconst 0, 1) := by decide +kernel
theorem dX12_room_180 : decode cX12_room 180 = .ok (.aload_n 0, 1) := by decide +kernel
theorem dX12_room_181 : decode cX12_room 181 = .ok (.getfield 20, 3) := by decide +kernel
theorem dX12_room_184 : decode cX12_room 184 = .ok (.iconst 0, 1) := by decide +kernel
theorem dX12_room_185 : decode cX12_room 185 = .ok (.sipush 406, 3) := by decide +kernel
theorem dX12_room_188 : decode cX12_room 188 = .ok (.invokestatic 190, 3) := by decide +kernel
theorem dX12_room_191 : decode cX12_room 191 = .ok (.iconst 0, 1) := by decide +kernel
theorem dX12_room_192 : decode cX12_room 192 = .ok (.istore_n 2, 1) := by decide +kernel
theorem dX12_room_193 : decode cX12_room 193 = .ok (.iload_n 2, 1) := by decide +kernel
theorem dX12_room_194 : decode cX12_room 194 = .ok (.bipush 7, 2) := by decide +kernel
theorem dX12_room_196 : decode cX12_room 196 = .ok (.if_icmp .ge 50, 3) := by decide +kernel
theorem dX12_room_199 : decode cX12_room 199 = .ok (.aload_n 0, 1) := by decide +kernel
theorem dX12_room_200 : decode cX12_room 200 = .ok (.getfield 26, 3) := by decide +kernel
theorem dX12_room_203 : decode cX12_room 203 = .ok (.iload_n 2, 1) := by decide +kernel
theorem dX12_room_204 : decode cX12_room 204 = .ok (.aload_n 0, 1) := by decide +kernel
theorem dX12_room_205 : decode cX12_room 205 = .ok (.getfield 20, 3) := by decide +kernel
theorem dX12_room_208 : decode cX12_room 208 = .ok (.bipush 35, 2) := by decide +kernel
theorem dX12_room_210 : decode cX12_room 210 = .ok (.iconst 4, 1) := by decide +kernel
theorem dX12_room_211 : decode cX12_room 211 = .ok (.iload_n 2, 1) := by decide +kernel
theorem dX12_room_212 : decode cX12_room 212 = .ok (.imul, 1) := by decide +kernel
theorem dX12_room_213 : decode cX12_room 213 = .ok (.iadd, 1) := by decide +kernel
theorem dX12_room_214 : decode cX12_room 214 = .ok (.iconst 2, 1) := by decide +kernel
theorem dX12_room_215 : decode cX12_room 215 = .ok (.iadd, 1) := by decide +kernel
theorem dX12_room_216 : decode cX12_room 216 = .ok (.iaload, 1) := by decide +kernel
theorem dX12_room_217 : decode cX12_room 217 = .ok (.iastore, 1) := by decide +kernel
theorem dX12_room_218 : decode cX12_room 218 = .ok (.aload_n 0, 1) := by decide +kernel
theorem dX12_room_219 : decode cX12_room 219 = .ok (.getfield 26, 3) := by decide +kernel
theorem dX12_room_222 : decode cX12_room 222 = .ok (.bipush 7, 2) := by decide +kernel
theorem dX12_room_224 : decode cX12_room 224 = .ok (.iload_n 2, 1) := by decide +kernel
theorem dX12_room_225 : decode cX12_room 225 = .ok (.iadd, 1) := by decide +kernel
theorem dX12_room_226 : decode cX12_room 226 = .ok (.aload_n 0, 1) := by decide +kernel
theorem dX12_room_227 : decode cX12_room 227 = .ok (.getfield 20, 3) := by decide +kernel
theorem dX12_room_230 : decode cX12_room 230 = .ok (.bipush 35, 2) := by decide +kernel
theorem dX12_room_232 : decode cX12_room 232 = .ok (.iconst 4, 1) := by decide +kernel
theorem dX12_room_233 : decode cX12_room 233 = .ok (.iload_n 2, 1) := by decide +kernel
theorem dX12_room_234 : decode cX12_room 234 = .ok (.imul, 1) := by decide +kernel
theorem dX12_room_235 : decode cX12_room 235 = .ok (.iadd, 1) := by decide +kernel
theorem dX12_room_236 : decode cX12_room 236 = .ok (.iconst 3, 1) := by decide +kernel
theorem dX12_room_237 : decode cX12_room 237 = .ok (.iadd, 1) := by decide +kernel
theorem dX12_room_238 : decode cX12_room 238 = .ok (.iaload, 1) := by decide +kernel
theorem dX12_room_239 : decode cX12_room 239 = .ok (.iastore, 1) := by decide +kernel
theorem dX12_room_240 : decode cX12_room 240 = .ok (.iinc 2 1, 3) := by decide +kernel
theorem dX12_room_243 : decode cX12_room 243 = .ok (.goto (-50), 3) := by decide +kernel
theorem dX12_room_246 : decode cX12_room 246 = .ok (.aload_n 0, 1) := by decide +kernel
theorem dX12_room_247 : decode cX12_room 247 = .ok (.getfield 26, 3) := by decide +kernel
theorem dX12_room_250 : decode cX12_room 250 = .ok (.bipush 14, 2) := by decide +kernel
theorem dX12_room_252 : decode cX12_room 252 = .ok (.aload_n 0, 1) := by decide +kernel
theorem dX12_room_253 : decode cX12_room 253 = .ok (.getfield 20, 3) := by decide +kernel
theorem dX12_room_256 : decode cX12_room 256 = .ok (.bipush 10, 2) := by decide +kernel
theorem dX12_room_258 : decode cX12_room 258 = .ok (.iaload, 1) := by decide +kernel
theorem dX12_room_259 : decode cX12_room 259 = .ok (.iastore, 1) := by decide +kernel
theorem dX12_room_260 : decode cX12_room 260 = .ok (.aload_n 0, 1) := by decide +kernel
theorem dX12_room_261 : decode cX12_room 261 = .ok (.getfield 26, 3) := by decide +kernel
theorem dX12_room_264 : decode cX12_room 264 = .ok (.bipush 15, 2) := by decide +kernel
theorem dX12_room_266 : decode cX12_room 266 = .ok (.iconst 0, 1) := by decide +kernel
theorem dX12_room_267 : decode cX12_room 267 = .ok (.iastore, 1) := by decide +kernel
theorem dX12_room_268 : decode cX12_room 268 = .ok (.aload_n 0, 1) := by decide +kernel
theorem dX12_room_269 : decode cX12_room 269 = .ok (.iconst 1, 1) := by decide +kernel
theorem dX12_room_270 : decode cX12_room 270 = .ok (.putfield 194, 3) := by decide +kernel
theorem dX12_room_273 : decode cX12_room 273 = .ok (.aload_n 0, 1) := by decide +kernel
theorem dX12_room_274 : decode cX12_room 274 = .ok (.iconst 0, 1) := by decide +kernel
theorem dX12_room_275 : decode cX12_room 275 = .ok (.putfield 197, 3) := by decide +kernel
theorem dX12_room_278 : decode cX12_room 278 = .ok (.aload_n 0, 1) := by decide +kernel
theorem dX12_room_279 : decode cX12_room 279 = .ok (.iconst 0, 1) := by decide +kernel
theorem dX12_room_280 : decode cX12_room 280 = .ok (.putfield 200, 3) := by decide +kernel
theorem dX12_room_283 : decode cX12_room 283 = .ok (.aload_n 0, 1) := by decide +kernel
theorem dX12_room_284 : decode cX12_room 284 = .ok (.getfield 20, 3) := by decide +kernel
theorem dX12_room_287 : decode cX12_room 287 = .ok (.iconst 3, 1) := by decide +kernel
theorem dX12_room_288 : decode cX12_room 288 = .ok (.iaload, 1) := by decide +kernel
theorem dX12_room_289 : decode cX12_room 289 = .ok (.ireturn, 1) := by decide +kernel
theorem dX12_begins_0 : decode cX12_begins 0 = .ok (.aload_n 0, 1) := by decide +kernel
theorem dX12_begins_1 : decode cX12_begins 1 = .ok (.aload_n 1, 1) := by decide +kernel
theorem dX12_begins_2 : decode cX12_begins 2 = .ok (.invokevirtual 120, 3) := by decide +kernel
theorem dX12_begins_5 : decode cX12_begins 5 = .ok (.ifCond .ne 5, 3) := by decide +kernel
theorem dX12_begins_8 : decode cX12_begins 8 = .ok (.iconst 0, 1) := by decide +kernel
theorem dX12_begins_9 : decode cX12_begins 9 = .ok (.ireturn, 1) := by decide +kernel
theorem dX12_begins_10 : decode cX12_begins 10 = .ok (.iload_n 2, 1) := by decide +kernel
theorem dX12_begins_11 : decode cX12_begins 11 = .ok (.ifCond .ne 12, 3) := by decide +kernel
theorem dX12_begins_14 : decode cX12_begins 14 = .ok (.aload_n 0, 1) := by decide +kernel
theorem dX12_begins_15 : decode cX12_begins 15 = .ok (.iconst 5, 1) := by decide +kernel
theorem dX12_begins_16 : decode cX12_begins 16 = .ok (.aload_n 0, 1) := by decide +kernel
theorem dX12_begins_17 : decode cX12_begins 17 = .ok (.getfield 84, 3) := by decide +kernel
theorem dX12_begins_20 : decode cX12_begins 20 = .ok (.invokevirtual 130, 3) := by decide +kernel
theorem dX12_begins_23 : decode cX12_begins 23 = .ok (.aload_n 0, 1) := by decide +kernel
theorem dX12_begins_24 : decode cX12_begins 24 = .ok (.getfield 23, 3) := by decide +kernel
theorem dX12_begins_27 : decode cX12_begins 27 = .ok (.iconst 0, 1) := by decide +kernel
theorem dX12_begins_28 : decode cX12_begins 28 = .ok (.iaload, 1) := by decide +kernel
theorem dX12_begins_29 : decode cX12_begins 29 = .ok (.ifCond .ne 13, 3) := by decide +kernel
theorem dX12_begins_32 : decode cX12_begins 32 = .ok (.aload_n 0, 1) := by decide +kernel
theorem dX12_begins_33 : decode cX12_begins 33 = .ok (.bipush 6, 2) := by decide +kernel
theorem dX12_begins_35 : decode cX12_begins 35 = .ok (.aload_n 0, 1) := by decide +kernel
theorem dX12_begins_36 : decode cX12_begins 36 = .ok (.getfield 84, 3) := by decide +kernel
theorem dX12_begins_39 : decode cX12_begins 39 = .ok (.invokevirtual 130, 3) := by decide +kernel
theorem dX12_begins_42 : decode cX12_begins 42 = .ok (.aload_n 0, 1) := by decide +kernel
theorem dX12_begins_43 : decode cX12_begins 43 = .ok (.getfield 103, 3) := by decide +kernel
theorem dX12_begins_46 : decode cX12_begins 46 = .ok (.ifCond .ne 7, 3) := by decide +kernel
theorem dX12_begins_49 : decode cX12_begins 49 = .ok (.aload_n 0, 1) := by decide +kernel
theorem dX12_begins_50 : decode cX12_begins 50 = .ok (.invokevirtual 124, 3) := by decide +kernel
theorem dX12_begins_53 : decode cX12_begins 53 = .ok (.iconst 1, 1) := by decide +kernel
theorem dX12_begins_54 : decode cX12_begins 54 = .ok (.ireturn, 1) := by decide +kernel
theorem dX12_readLine_0 : decode cX12_readLine 0 = .ok (.aload_n 0, 1) := by decide +kernel
theorem dX12_readLine_1 : decode cX12_readLine 1 = .ok (.getfield 23, 3) := by decide +kernel
theorem dX12_readLine_4 : decode cX12_readLine 4 = .ok (.bipush 7, 2) := by decide +kernel
theorem dX12_readLine_6 : decode cX12_readLine 6 = .ok (.iaload, 1) := by decide +kernel
theorem dX12_readLine_7 : decode cX12_readLine 7 = .ok (.aload_n 0, 1) := by decide +kernel
theorem dX12_readLine_8 : decode cX12_readLine 8 = .ok (.getfield 23, 3) := by decide +kernel
theorem dX12_readLine_11 : decode cX12_readLine 11 = .ok (.bipush 8, 2) := by decide +kernel
theorem dX12_readLine_13 : decode cX12_readLine 13 = .ok (.iaload, 1) := by decide +kernel
theorem dX12_readLine_14 : decode cX12_readLine 14 = .ok (.iadd, 1) := by decide +kernel
theorem dX12_readLine_15 : decode cX12_readLine 15 = .ok (.bipush 8, 2) := by decide +kernel
theorem dX12_readLine_17 : decode cX12_readLine 17 = .ok (.if_icmp .ge 7, 3) := by decide +kernel
theorem dX12_readLine_20 : decode cX12_readLine 20 = .ok (.iconst 1, 1) := by decide +kernel
theorem dX12_readLine_21 : decode cX12_readLine 21 = .ok (.goto 4, 3) := by decide +kernel
theorem dX12_readLine_24 : decode cX12_readLine 24 = .ok (.iconst 0, 1) := by decide +kernel
theorem dX12_readLine_25 : decode cX12_readLine 25 = .ok (.istore_n 1, 1) := by decide +kernel
theorem dX12_readLine_26 : decode cX12_readLine 26 = .ok (.aload_n 0, 1) := by decide +kernel
theorem dX12_readLine_27 : decode cX12_readLine 27 = .ok (.ldc 134, 2) := by decide +kernel
theorem dX12_readLine_29 : decode cX12_readLine 29 = .ok (.invokevirtual 120, 3) := by decide +kernel
theorem dX12_readLine_32 : decode cX12_readLine 32 = .ok (.ifCond .eq 10, 3) := by decide +kernel
theorem dX12_readLine_35 : decode cX12_readLine 35 = .ok (.aload_n 0, 1) := by decide +kernel
theorem dX12_readLine_36 : decode cX12_readLine 36 = .ok (.invokevirtual 203, 3) := by decide +kernel
theorem dX12_readLine_39 : decode cX12_readLine 39 = .ok (.goto 213, 3) := by decide +kernel
theorem dX12_readLine_42 : decode cX12_readLine 42 = .ok (.aload_n 0, 1) := by decide +kernel
theorem dX12_readLine_43 : decode cX12_readLine 43 = .ok (.ldc 136, 2) := by decide +kernel
theorem dX12_readLine_45 : decode cX12_readLine 45 = .ok (.aload_n 0, 1) := by decide +kernel
theorem dX12_readLine_46 : decode cX12_readLine 46 = .ok (.getfield 23, 3) := by decide +kernel
theorem dX12_readLine_49 : decode cX12_readLine 49 = .ok (.iconst 3, 1) := by decide +kernel
theorem dX12_readLine_50 : decode cX12_readLine 50 = .ok (.iaload, 1) := by decide +kernel
theorem dX12_readLine_51 : decode cX12_readLine 51 = .ok (.bipush 6, 2) := by decide +kernel
theorem dX12_readLine_53 : decode cX12_readLine 53 = .ok (.if_icmp .ge 7, 3) := by decide +kernel
theorem dX12_readLine_56 : decode cX12_readLine 56 = .ok (.iconst 1, 1) := by decide +kernel
theorem dX12_readLine_57 : decode cX12_readLine 57 = .ok (.goto 4, 3) := by decide +kernel
theorem dX12_readLine_60 : decode cX12_readLine 60 = .ok (.iconst 0, 1) := by decide +kernel
theorem dX12_readLine_61 : decode cX12_readLine 61 = .ok (.invokevirtual 206, 3) := by decide +kernel
theorem dX12_readLine_64 : decode cX12_readLine 64 = .ok (.ifCond .eq 10, 3) := by decide +kernel
theorem dX12_readLine_67 : decode cX12_readLine 67 = .ok (.aload_n 0, 1) := by decide +kernel
theorem dX12_readLine_68 : decode cX12_readLine 68 = .ok (.invokevirtual 210, 3) := by decide +kernel
theorem dX12_readLine_71 : decode cX12_readLine 71 = .ok (.goto 181, 3) := by decide +kernel
theorem dX12_readLine_74 : decode cX12_readLine 74 = .ok (.aload_n 0, 1) := by decide +kernel
theorem dX12_readLine_75 : decode cX12_readLine 75 = .ok (.ldc 138, 2) := by decide +kernel
theorem dX12_readLine_77 : decode cX12_readLine 77 = .ok (.aload_n 0, 1) := by decide +kernel
theorem dX12_readLine_78 : decode cX12_readLine 78 = .ok (.getfield 23, 3) := by decide +kernel
theorem dX12_readLine_81 : decode cX12_readLine 81 = .ok (.iconst 4, 1) := by decide +kernel
theorem dX12_readLine_82 : decode cX12_readLine 82 = .ok (.iaload, 1) := by decide +kernel
theorem dX12_readLine_83 : decode cX12_readLine 83 = .ok (.bipush 7, 2) := by decide +kernel
theorem dX12_readLine_85 : decode cX12_readLine 85 = .ok (.if_icmp .ge 7, 3) := by decide +kernel
theorem dX12_readLine_88 : decode cX12_readLine 88 = .ok (.iconst 1, 1) := by decide +kernel
theorem dX12_readLine_89 : decode cX12_readLine 89 = .ok (.goto 4, 3) := by decide +kernel
theorem dX12_readLine_92 : decode cX12_readLine 92 = .ok (.iconst 0, 1) := by decide +kernel
theorem dX12_readLine_93 : decode cX12_readLine 93 = .ok (.invokevirtual 206, 3) := by decide +kernel
theorem dX12_readLine_96 : decode cX12_readLine 96 = .ok (.ifCond .eq 10, 3) := by decide +kernel
theorem dX12_readLine_99 : decode cX12_readLine 99 = .ok (.aload_n 0, 1) := by decide +kernel
theorem dX12_readLine_100 : decode cX12_readLine 100 = .ok (.invokevirtual 213, 3) := by decide +kernel
theorem dX12_readLine_103 : decode cX12_readLine 103 = .ok (.goto 149, 3) := by decide +kernel
theorem dX12_readLine_106 : decode cX12_readLine 106 = .ok (.aload_n 0, 1) := by decide +kernel
theorem dX12_readLine_107 : decode cX12_readLine 107 = .ok (.ldc 140, 2) := by decide +kernel
theorem dX12_readLine_109 : decode cX12_readLine 109 = .ok (.aload_n 0, 1) := by decide +kernel
theorem dX12_readLine_110 : decode cX12_readLine 110 = .ok (.getfield 23, 3) := by decide +kernel
theorem dX12_readLine_113 : decode cX12_readLine 113 = .ok (.iconst 5, 1) := by decide +kernel
theorem dX12_readLine_114 : decode cX12_readLine 114 = .ok (.iaload, 1) := by decide +kernel
theorem dX12_readLine_115 : decode cX12_readLine 115 = .ok (.bipush 6, 2) := by decide +kernel
theorem dX12_readLine_117 : decode cX12_readLine 117 = .ok (.if_icmp .ge 7, 3) := by decide +kernel
theorem dX12_readLine_120 : decode cX12_readLine 120 = .ok (.iconst 1, 1) := by decide +kernel
theorem dX12_readLine_121 : decode cX12_readLine 121 = .ok (.goto 4, 3) := by decide +kernel
theorem dX12_readLine_124 : decode cX12_readLine 124 = .ok (.iconst 0, 1) := by decide +kernel
theorem dX12_readLine_125 : decode cX12_readLine 125 = .ok (.invokevirtual 206, 3) := by decide +kernel
theorem dX12_readLine_128 : decode cX12_readLine 128 = .ok (.ifCond .eq 10, 3) := by decide +kernel
theorem dX12_readLine_131 : decode cX12_readLine 131 = .ok (.aload_n 0, 1) := by decide +kernel
theorem dX12_readLine_132 : decode cX12_readLine 132 = .ok (.invokevirtual 216, 3) := by decide +kernel
theorem dX12_readLine_135 : decode cX12_readLine 135 = .ok (.goto 117, 3) := by decide +kernel
theorem dX12_readLine_138 : decode cX12_readLine 138 = .ok (.aload_n 0, 1) := by decide +kernel
theorem dX12_readLine_139 : decode cX12_readLine 139 = .ok (.ldc 142, 2) := by decide +kernel
theorem dX12_readLine_141 : decode cX12_readLine 141 = .ok (.aload_n 0, 1) := by decide +kernel
theorem dX12_readLine_142 : decode cX12_readLine 142 = .ok (.getfield 23, 3) := by decide +kernel
theorem dX12_readLine_145 : decode cX12_readLine 145 = .ok (.bipush 6, 2) := by decide +kernel
theorem dX12_readLine_147 : decode cX12_readLine 147 = .ok (.iaload, 1) := by decide +kernel
theorem dX12_readLine_148 : decode cX12_readLine 148 = .ok (.bipush 9, 2) := by decide +kernel
theorem dX12_readLine_150 : decode cX12_readLine 150 = .ok (.if_icmp .ge 7, 3) := by decide +kernel
theorem dX12_readLine_153 : decode cX12_readLine 153 = .ok (.iconst 1, 1) := by decide +kernel
theorem dX12_readLine_154 : decode cX12_readLine 154 = .ok (.goto 4, 3) := by decide +kernel
theorem dX12_readLine_157 : decode cX12_readLine 157 = .ok (.iconst 0, 1) := by decide +kernel
theorem dX12_readLine_158 : decode cX12_readLine 158 = .ok (.invokevirtual 206, 3) := by decide +kernel
theorem dX12_readLine_161 : decode cX12_readLine 161 = .ok (.ifCond .eq 10, 3) := by decide +kernel
theorem dX12_readLine_164 : decode cX12_readLine 164 = .ok (.aload_n 0, 1) := by decide +kernel
theorem dX12_readLine_165 : decode cX12_readLine 165 = .ok (.invokevirtual 219, 3) := by decide +kernel
theorem dX12_readLine_168 : decode cX12_readLine 168 = .ok (.goto 84, 3) := by decide +kernel
theorem dX12_readLine_171 : decode cX12_readLine 171 = .ok (.aload_n 0, 1) := by decide +kernel
theorem dX12_readLine_172 : decode cX12_readLine 172 = .ok (.ldc 144, 2) := by decide +kernel
theorem dX12_readLine_174 : decode cX12_readLine 174 = .ok (.iconst 1, 1) := by decide +kernel
theorem dX12_readLine_175 : decode cX12_readLine 175 = .ok (.invokevirtual 206, 3) := by decide +kernel
theorem dX12_readLine_178 : decode cX12_readLine 178 = .ok (.ifCond .eq 11, 3) := by decide +kernel
theorem dX12_readLine_181 : decode cX12_readLine 181 = .ok (.aload_n 0, 1) := by decide +kernel
theorem dX12_readLine_182 : decode cX12_readLine 182 = .ok (.iconst 1, 1) := by decide +kernel
theorem dX12_readLine_183 : decode cX12_readLine 183 = .ok (.invokevirtual 222, 3) := by decide +kernel
theorem dX12_readLine_186 : decode cX12_readLine 186 = .ok (.goto 66, 3) := by decide +kernel
theorem dX12_readLine_189 : decode cX12_readLine 189 = .ok (.aload_n 0, 1) := by decide +kernel
theorem dX12_readLine_190 : decode cX12_readLine 190 = .ok (.ldc 146, 2) := by decide +kernel
theorem dX12_readLine_192 : decode cX12_readLine 192 = .ok (.iconst 1, 1) := by decide +kernel
theorem dX12_readLine_193 : decode cX12_readLine 193 = .ok (.invokevirtual 206, 3) := by decide +kernel
theorem dX12_readLine_196 : decode cX12_readLine 196 = .ok (.ifCond .eq 11, 3) := by decide +kernel
theorem dX12_readLine_199 : decode cX12_readLine 199 = .ok (.aload_n 0, 1) := by decide +kernel
theorem dX12_readLine_200 : decode cX12_readLine 200 = .ok (.iconst (-1), 1) := by decide +kernel
theorem dX12_readLine_201 : decode cX12_readLine 201 = .ok (.invokevirtual 222, 3) := by decide +kernel
theorem dX12_readLine_204 : decode cX12_readLine 204 = .ok (.goto 48, 3) := by decide +kernel
theorem dX12_readLine_207 : decode cX12_readLine 207 = .ok (.aload_n 0, 1) := by decide +kernel
theorem dX12_readLine_208 : decode cX12_readLine 208 = .ok (.ldc 148, 2) := by decide +kernel
theorem dX12_readLine_210 : decode cX12_readLine 210 = .ok (.iload_n 1, 1) := by decide +kernel
theorem dX12_readLine_211 : decode cX12_readLine 211 = .ok (.invokevirtual 206, 3) := by decide +kernel
theorem dX12_readLine_214 : decode cX12_readLine 214 = .ok (.ifCond .eq 11, 3) := by decide +kernel
theorem dX12_readLine_217 : decode cX12_readLine 217 = .ok (.aload_n 0, 1) := by decide +kernel
theorem dX12_readLine_218 : decode cX12_readLine 218 = .ok (.iconst 1, 1) := by decide +kernel
theorem dX12_readLine_219 : decode cX12_readLine 219 = .ok (.invokevirtual 226, 3) := by decide +kernel
theorem dX12_readLine_222 : decode cX12_readLine 222 = .ok (.goto 30, 3) := by decide +kernel
theorem dX12_readLine_225 : decode cX12_readLine 225 = .ok (.aload_n 0, 1) := by decide +kernel
theorem dX12_readLine_226 : decode cX12_readLine 226 = .ok (.ldc 150, 2) := by decide +kernel
theorem dX12_readLine_228 : decode cX12_readLine 228 = .ok (.iload_n 1, 1) := by decide +kernel
theorem dX12_readLine_229 : decode cX12_readLine 229 = .ok (.invokevirtual 206, 3) := by decide +kernel
theorem dX12_readLine_232 : decode cX12_readLine 232 = .ok (.ifCond .eq 11, 3) := by decide +kernel
theorem dX12_readLine_235 : decode cX12_readLine 235 = .ok (.aload_n 0, 1) := by decide +kernel
theorem dX12_readLine_236 : decode cX12_readLine 236 = .ok (.iconst 2, 1) := by decide +kernel
theorem dX12_readLine_237 : decode cX12_readLine 237 = .ok (.invokevirtual 226, 3) := by decide +kernel
theorem dX12_readLine_240 : decode cX12_readLine 240 = .ok (.goto 12, 3) := by decide +kernel
theorem dX12_readLine_243 : decode cX12_readLine 243 = .ok (.aload_n 0, 1) := by decide +kernel
theorem dX12_readLine_244 : decode cX12_readLine 244 = .ok (.iconst 1, 1) := by decide +kernel
theorem dX12_readLine_245 : decode cX12_readLine 245 = .ok (.aload_n 0, 1) := by decide +kernel
theorem dX12_readLine_246 : decode cX12_readLine 246 = .ok (.getfield 84, 3) := by decide +kernel
theorem dX12_readLine_249 : decode cX12_readLine 249 = .ok (.invokevirtual 130, 3) := by decide +kernel
theorem dX12_readLine_252 : decode cX12_readLine 252 = .ok (.return_, 1) := by decide +kernel
theorem dX12_roomLine_0 : decode cX12_roomLine 0 = .ok (.aload_n 0, 1) := by decide +kernel
theorem dX12_roomLine_1 : decode cX12_roomLine 1 = .ok (.getfield 23, 3) := by decide +kernel
theorem dX12_roomLine_4 : decode cX12_roomLine 4 = .ok (.iconst 0, 1) := by decide +kernel
theorem dX12_roomLine_5 : decode cX12_roomLine 5 = .ok (.iaload, 1) := by decide +kernel
theorem dX12_roomLine_6 : decode cX12_roomLine 6 = .ok (.ifCond .le 12, 3) := by decide +kernel
theorem dX12_roomLine_9 : decode cX12_roomLine 9 = .ok (.aload_n 0, 1) := by decide +kernel
theorem dX12_roomLine_10 : decode cX12_roomLine 10 = .ok (.iconst 3, 1) := by decide +kernel
theorem dX12_roomLine_11 : decode cX12_roomLine 11 = .ok (.aload_n 0, 1) := by decide +kernel
theorem dX12_roomLine_12 : decode cX12_roomLine 12 = .ok (.getfield 84, 3) := by decide +kernel
theorem dX12_roomLine_15 : decode cX12_roomLine 15 = .ok (.invokevirtual 130, 3) := by decide +kernel
theorem dX12_roomLine_18 : decode cX12_roomLine 18 = .ok (.aload_n 0, 1) := by decide +kernel
theorem dX12_roomLine_19 : decode cX12_roomLine 19 = .ok (.getfield 103, 3) := by decide +kernel
theorem dX12_roomLine_22 : decode cX12_roomLine 22 = .ok (.ifCond .eq 4, 3) := by decide +kernel
theorem dX12_roomLine_25 : decode cX12_roomLine 25 = .ok (.return_, 1) := by decide +kernel
theorem dX12_roomLine_26 : decode cX12_roomLine 26 = .ok (.aload_n 0, 1) := by decide +kernel
theorem dX12_roomLine_27 : decode cX12_roomLine 27 = .ok (.invokevirtual 124, 3) := by decide +kernel
theorem dX12_roomLine_30 : decode cX12_roomLine 30 = .ok (.aload_n 0, 1) := by decide +kernel
theorem dX12_roomLine_31 : decode cX12_roomLine 31 = .ok (.ldc 229, 2) := by decide +kernel
theorem dX12_roomLine_33 : decode cX12_roomLine 33 = .ok (.iconst 1, 1) := by decide +kernel
theorem dX12_roomLine_34 : decode cX12_roomLine 34 = .ok (.bipush 9, 2) := by decide +kernel
theorem dX12_roomLine_36 : decode cX12_roomLine 36 = .ok (.invokevirtual 231, 3) := by decide +kernel
theorem dX12_roomLine_39 : decode cX12_roomLine 39 = .ok (.istore_n 1, 1) := by decide +kernel
theorem dX12_roomLine_40 : decode cX12_roomLine 40 = .ok (.aload_n 0, 1) := by decide +kernel
theorem dX12_roomLine_41 : decode cX12_roomLine 41 = .ok (.getfield 23, 3) := by decide +kernel
theorem dX12_roomLine_44 : decode cX12_roomLine 44 = .ok (.iconst 1, 1) := by decide +kernel
theorem dX12_roomLine_45 : decode cX12_roomLine 45 = .ok (.aload_n 0, 1) := by decide +kernel
theorem dX12_roomLine_46 : decode cX12_roomLine 46 = .ok (.ldc 235, 2) := by decide +kernel
theorem dX12_roomLine_48 : decode cX12_roomLine 48 = .ok (.iconst 1, 1) := by decide +kernel
theorem dX12_roomLine_49 : decode cX12_roomLine 49 = .ok (.bipush 9, 2) := by decide +kernel
theorem dX12_roomLine_51 : decode cX12_roomLine 51 = .ok (.invokevirtual 231, 3) := by decide +kernel
theorem dX12_roomLine_54 : decode cX12_roomLine 54 = .ok (.iastore, 1) := by decide +kernel
theorem dX12_roomLine_55 : decode cX12_roomLine 55 = .ok (.aload_n 0, 1) := by decide +kernel
theorem dX12_roomLine_56 : decode cX12_roomLine 56 = .ok (.ldc 237, 2) := by decide +kernel
theorem dX12_roomLine_58 : decode cX12_roomLine 58 = .ok (.invokevirtual 174, 3) := by decide +kernel
theorem dX12_roomLine_61 : decode cX12_roomLine 61 = .ok (.aload_n 0, 1) := by decide +kernel
theorem dX12_roomLine_62 : decode cX12_roomLine 62 = .ok (.iconst 0, 1) := by decide +kernel
theorem dX12_roomLine_63 : decode cX12_roomLine 63 = .ok (.iload_n 1, 1) := by decide +kernel
theorem dX12_roomLine_64 : decode cX12_roomLine 64 = .ok (.iconst 1, 1) := by decide +kernel
theorem dX12_roomLine_65 : decode cX12_roomLine 65 = .ok (.isub, 1) := by decide +kernel
theorem dX12_roomLine_66 : decode cX12_roomLine 66 = .ok (.invokevirtual 178, 3) := by decide +kernel
theorem dX12_roomLine_69 : decode cX12_roomLine 69 = .ok (.istore_n 2, 1) := by decide +kernel
theorem dX12_roomLine_70 : decode cX12_roomLine 70 = .ok (.aload_n 0, 1) := by decide +kernel
theorem dX12_roomLine_71 : decode cX12_roomLine 71 = .ok (.getfield 23, 3) := by decide +kernel
theorem dX12_roomLine_74 : decode cX12_roomLine 74 = .ok (.bipush 9, 2) := by decide +kernel
theorem dX12_roomLine_76 : decode cX12_roomLine 76 = .ok (.bipush 10, 2) := by decide +kernel
theorem dX12_roomLine_78 : decode cX12_roomLine 78 = .ok (.aload_n 0, 1) := by decide +kernel
theorem dX12_roomLine_79 : decode cX12_roomLine 79 = .ok (.iconst 0, 1) := by decide +kernel
theorem dX12_roomLine_80 : decode cX12_roomLine 80 = .ok (.aload_n 0, 1) := by decide +kernel
theorem dX12_roomLine_81 : decode cX12_roomLine 81 = .ok (.getfield 23, 3) := by decide +kernel
theorem dX12_roomLine_84 : decode cX12_roomLine 84 = .ok (.iconst 1, 1) := by decide +kernel
theorem dX12_roomLine_85 : decode cX12_roomLine 85 = .ok (.iaload, 1) := by decide +kernel
theorem dX12_roomLine_86 : decode cX12_roomLine 86 = .ok (.iconst 1, 1) := by decide +kernel
theorem dX12_roomLine_87 : decode cX12_roomLine 87 = .ok (.isub, 1) := by decide +kernel
theorem dX12_roomLine_88 : decode cX12_roomLine 88 = .ok (.invokevirtual 178, 3) := by decide +kernel
theorem dX12_roomLine_91 : decode cX12_roomLine 91 = .ok (.imul, 1) := by decide +kernel
theorem dX12_roomLine_92 : decode cX12_roomLine 92 = .ok (.iload_n 2, 1) := by decide +kernel
theorem dX12_roomLine_93 : decode cX12_roomLine 93 = .ok (.iadd, 1) := by decide +kernel
theorem dX12_roomLine_94 : decode cX12_roomLine 94 = .ok (.iastore, 1) := by decide +kernel
theorem dX12_roomLine_95 : decode cX12_roomLine 95 = .ok (.aload_n 0, 1) := by decide +kernel
theorem dX12_roomLine_96 : decode cX12_roomLine 96 = .ok (.getfield 23, 3) := by decide +kernel
theorem dX12_roomLine_99 : decode cX12_roomLine 99 = .ok (.iconst 2, 1) := by decide +kernel
theorem dX12_roomLine_100 : decode cX12_roomLine 100 = .ok (.aload_n 0, 1) := by decide +kernel
theorem dX12_roomLine_101 : decode cX12_roomLine 101 = .ok (.ldc 239, 2) := by decide +kernel
theorem dX12_roomLine_103 : decode cX12_roomLine 103 = .ok (.iconst 1, 1) := by decide +kernel
theorem dX12_roomLine_104 : decode cX12_roomLine 104 = .ok (.bipush 60, 2) := by decide +kernel
theorem dX12_roomLine_106 : decode cX12_roomLine 106 = .ok (.invokevirtual 231, 3) := by decide +kernel
theorem dX12_roomLine_109 : decode cX12_roomLine 109 = .ok (.iastore, 1) := by decide +kernel
theorem dX12_roomLine_110 : decode cX12_roomLine 110 = .ok (.aload_n 0, 1) := by decide +kernel
theorem dX12_roomLine_111 : decode cX12_roomLine 111 = .ok (.getfield 23, 3) := by decide +kernel
theorem dX12_roomLine_114 : decode cX12_roomLine 114 = .ok (.bipush 10, 2) := by decide +kernel
theorem dX12_roomLine_116 : decode cX12_roomLine 116 = .ok (.aload_n 0, 1) := by decide +kernel
theorem dX12_roomLine_117 : decode cX12_roomLine 117 = .ok (.ldc 241, 2) := by decide +kernel
theorem dX12_roomLine_119 : decode cX12_roomLine 119 = .ok (.iconst 0, 1) := by decide +kernel
theorem dX12_roomLine_120 : decode cX12_roomLine 120 = .ok (.sipush 200, 3) := by decide +kernel
theorem dX12_roomLine_123 : decode cX12_roomLine 123 = .ok (.invokevirtual 231, 3) := by decide +kernel
theorem dX12_roomLine_126 : decode cX12_roomLine 126 = .ok (.iastore, 1) := by decide +kernel
theorem dX12_roomLine_127 : decode cX12_roomLine 127 = .ok (.aload_n 0, 1) := by decide +kernel
theorem dX12_roomLine_128 : decode cX12_roomLine 128 = .ok (.getfield 103, 3) := by decide +kernel
theorem dX12_roomLine_131 : decode cX12_roomLine 131 = .ok (.ifCond .ne 10, 3) := by decide +kernel
theorem dX12_roomLine_134 : decode cX12_roomLine 134 = .ok (.aload_n 0, 1) := by decide +kernel
theorem dX12_roomLine_135 : decode cX12_roomLine 135 = .ok (.getfield 23, 3) := by decide +kernel
theorem dX12_roomLine_138 : decode cX12_roomLine 138 = .ok (.iconst 0, 1) := by decide +kernel
theorem dX12_roomLine_139 : decode cX12_roomLine 139 = .ok (.iload_n 1, 1) := by decide +kernel
theorem dX12_roomLine_140 : decode cX12_roomLine 140 = .ok (.iastore, 1) := by decide +kernel
theorem dX12_roomLine_141 : decode cX12_roomLine 141 = .ok (.return_, 1) := by decide +kernel
theorem dX12_benchLine_0 : decode cX12_benchLine 0 = .ok (.aload_n 0, 1) := by decide +kernel
theorem dX12_benchLine_1 : decode cX12_benchLine 1 = .ok (.getfield 103, 3) := by decide +kernel
theorem dX12_benchLine_4 : decode cX12_benchLine 4 = .ok (.ifCond .eq 4, 3) := by decide +kernel
theorem dX12_benchLine_7 : decode cX12_benchLine 7 = .ok (.return_, 1) := by decide +kernel
theorem dX12_benchLine_8 : decode cX12_benchLine 8 = .ok (.bipush 11, 2) := by decide +kernel
theorem dX12_benchLine_10 : decode cX12_benchLine 10 = .ok (.iconst 4, 1) := by decide +kernel
theorem dX12_benchLine_11 : decode cX12_benchLine 11 = .ok (.aload_n 0, 1) := by decide +kernel
theorem dX12_benchLine_12 : decode cX12_benchLine 12 = .ok (.getfield 23, 3) := by decide +kernel
theorem dX12_benchLine_15 : decode cX12_benchLine 15 = .ok (.iconst 3, 1) := by decide +kernel
theorem dX12_benchLine_16 : decode cX12_benchLine 16 = .ok (.iaload, 1) := by decide +kernel
theorem dX12_benchLine_17 : decode cX12_benchLine 17 = .ok (.imul, 1) := by decide +kernel
theorem dX12_benchLine_18 : decode cX12_benchLine 18 = .ok (.iadd, 1) := by decide +kernel
theorem dX12_benchLine_19 : decode cX12_benchLine 19 = .ok (.istore_n 1, 1) := by decide +kernel
theorem dX12_benchLine_20 : decode cX12_benchLine 20 = .ok (.aload_n 0, 1) := by decide +kernel
theorem dX12_benchLine_21 : decode cX12_benchLine 21 = .ok (.aload_n 0, 1) := by decide +kernel
theorem dX12_benchLine_22 : decode cX12_benchLine 22 = .ok (.getfield 23, 3) := by decide +kernel
theorem dX12_benchLine_25 : decode cX12_benchLine 25 = .ok (.iconst 3, 1) := by decide +kernel
theorem dX12_benchLine_26 : decode cX12_benchLine 26 = .ok (.iaload, 1) := by decide +kernel
theorem dX12_benchLine_27 : decode cX12_benchLine 27 = .ok (.invokevirtual 243, 3) := by decide +kernel
theorem dX12_benchLine_30 : decode cX12_benchLine 30 = .ok (.aload_n 0, 1) := by decide +kernel
theorem dX12_benchLine_31 : decode cX12_benchLine 31 = .ok (.getfield 103, 3) := by decide +kernel
theorem dX12_benchLine_34 : decode cX12_benchLine 34 = .ok (.ifCond .ne 21, 3) := by decide +kernel
theorem dX12_benchLine_37 : decode cX12_benchLine 37 = .ok (.aload_n 0, 1) := by decide +kernel
theorem dX12_benchLine_38 : decode cX12_benchLine 38 = .ok (.getfield 23, 3) := by decide +kernel
theorem dX12_benchLine_41 : decode cX12_benchLine 41 = .ok (.iload_n 1, 1) := by decide +kernel
theorem dX12_benchLine_42 : decode cX12_benchLine 42 = .ok (.aload_n 0, 1) := by decide +kernel
theorem dX12_benchLine_43 : decode cX12_benchLine 43 = .ok (.ldc 246, 2) := by decide +kernel
theorem dX12_benchLine_45 : decode cX12_benchLine 45 = .ok (.ldc 248, 2) := by decide +kernel
theorem dX12_benchLine_47 : decode cX12_benchLine 47 = .ok (.ldc 250, 2) := by decide +kernel
theorem dX12_benchLine_49 : decode cX12_benchLine 49 = .ok (.ldc 252, 2) := by decide +kernel
theorem dX12_benchLine_51 : decode cX12_benchLine 51 = .ok (.invokevirtual 254, 3) := by decide +kernel
theorem dX12_benchLine_54 : decode cX12_benchLine 54 = .ok (.iastore, 1) := by decide +kernel
theorem dX12_benchLine_55 : decode cX12_benchLine 55 = .ok (.aload_n 0, 1) := by decide +kernel
theorem dX12_benchLine_56 : decode cX12_benchLine 56 = .ok (.ldc_w 258, 3) := by decide +kernel
theorem dX12_benchLine_59 : decode cX12_benchLine 59 = .ok (.invokevirtual 174, 3) := by decide +kernel
theorem dX12_benchLine_62 : decode cX12_benchLine 62 = .ok (.aload_n 0, 1) := by decide +kernel
theorem dX12_benchLine_63 : decode cX12_benchLine 63 = .ok (.iconst 0, 1) := by decide +kernel
theorem dX12_benchLine_64 : decode cX12_benchLine 64 = .ok (.aload_n 0, 1) := by decide +kernel
theorem dX12_benchLine_65 : decode cX12_benchLine 65 = .ok (.getfield 23, 3) := by decide +kernel
theorem dX12_benchLine_68 : decode cX12_benchLine 68 = .ok (.iconst 0, 1) := by decide +kernel
theorem dX12_benchLine_69 : decode cX12_benchLine 69 = .ok (.iaload, 1) := by decide +kernel
theorem dX12_benchLine_70 : decode cX12_benchLine 70 = .ok (.iconst 1, 1) := by decide +kernel
theorem dX12_benchLine_71 : decode cX12_benchLine 71 = .ok (.isub, 1) := by decide +kernel
theorem dX12_benchLine_72 : decode cX12_benchLine 72 = .ok (.invokevirtual 178, 3) := by decide +kernel
theorem dX12_benchLine_75 : decode cX12_benchLine 75 = .ok (.istore_n 2, 1) := by decide +kernel
theorem dX12_benchLine_76 : decode cX12_benchLine 76 = .ok (.bipush 10, 2) := by decide +kernel
theorem dX12_benchLine_78 : decode cX12_benchLine 78 = .ok (.aload_n 0, 1) := by decide +kernel
theorem dX12_benchLine_79 : decode cX12_benchLine 79 = .ok (.iconst 0, 1) := by decide +kernel
theorem dX12_benchLine_80 : decode cX12_benchLine 80 = .ok (.aload_n 0, 1) := by decide +kernel
theorem dX12_benchLine_81 : decode cX12_benchLine 81 = .ok (.getfield 23, 3) := by decide +kernel
theorem dX12_benchLine_84 : decode cX12_benchLine 84 = .ok (.iconst 1, 1) := by decide +kernel
theorem dX12_benchLine_85 : decode cX12_benchLine 85 = .ok (.iaload, 1) := by decide +kernel
theorem dX12_benchLine_86 : decode cX12_benchLine 86 = .ok (.iconst 1, 1) := by decide +kernel
theorem dX12_benchLine_87 : decode cX12_benchLine 87 = .ok (.isub, 1) := by decide +kernel
theorem dX12_benchLine_88 : decode cX12_benchLine 88 = .ok (.invokevirtual 171, 3) := by decide +kernel
theorem dX12_benchLine_91 : decode cX12_benchLine 91 = .ok (.imul, 1) := by decide +kernel
theorem dX12_benchLine_92 : decode cX12_benchLine 92 = .ok (.iload_n 2, 1) := by decide +kernel
theorem dX12_benchLine_93 : decode cX12_benchLine 93 = .ok (.iadd, 1) := by decide +kernel
theorem dX12_benchLine_94 : decode cX12_benchLine 94 = .ok (.istore_n 3, 1) := by decide +kernel
theorem dX12_benchLine_95 : decode cX12_benchLine 95 = .ok (.iload_n 3, 1) := by decide +kernel
theorem dX12_benchLine_96 : decode cX12_benchLine 96 = .ok (.aload_n 0, 1) := by decide +kernel
theorem dX12_benchLine_97 : decode cX12_benchLine 97 = .ok (.getfield 23, 3) := by decide +kernel
theorem dX12_benchLine_100 : decode cX12_benchLine 100 = .ok (.bipush 9, 2) := by decide +kernel
theorem dX12_benchLine_102 : decode cX12_benchLine 102 = .ok (.iaload, 1) := by decide +kernel
theorem dX12_benchLine_103 : decode cX12_benchLine 103 = .ok (.if_icmp .ne 7, 3) := by decide +kernel
theorem dX12_benchLine_106 : decode cX12_benchLine 106 = .ok (.iconst 1, 1) := by decide +kernel
theorem dX12_benchLine_107 : decode cX12_benchLine 107 = .ok (.goto 4, 3) := by decide +kernel
theorem dX12_benchLine_110 : decode cX12_benchLine 110 = .ok (.iconst 0, 1) := by decide +kernel
theorem dX12_benchLine_111 : decode cX12_benchLine 111 = .ok (.istore 4, 2) := by decide +kernel
theorem dX12_benchLine_113 : decode cX12_benchLine 113 = .ok (.iconst 0, 1) := by decide +kernel
theorem dX12_benchLine_114 : decode cX12_benchLine 114 = .ok (.istore 5, 2) := by decide +kernel
theorem dX12_benchLine_116 : decode cX12_benchLine 116 = .ok (.iload 5, 2) := by decide +kernel
theorem dX12_benchLine_118 : decode cX12_benchLine 118 = .ok (.aload_n 0, 1) := by decide +kernel
theorem dX12_benchLine_119 : decode cX12_benchLine 119 = .ok (.getfield 23, 3) := by decide +kernel
theorem dX12_benchLine_122 : decode cX12_benchLine 122 = .ok (.iconst 3, 1) := by decide +kernel
theorem dX12_benchLine_123 : decode cX12_benchLine 123 = .ok (.iaload, 1) := by decide +kernel
theorem dX12_benchLine_124 : decode cX12_benchLine 124 = .ok (.if_icmp .ge 39, 3) := by decide +kernel
theorem dX12_benchLine_127 : decode cX12_benchLine 127 = .ok (.iload 4, 2) := by decide +kernel
theorem dX12_benchLine_129 : decode cX12_benchLine 129 = .ok (.ifCond .ne 21, 3) := by decide +kernel
theorem dX12_benchLine_132 : decode cX12_benchLine 132 = .ok (.aload_n 0, 1) := by decide +kernel
theorem dX12_benchLine_133 : decode cX12_benchLine 133 = .ok (.getfield 23, 3) := by decide +kernel
theorem dX12_benchLine_136 : decode cX12_benchLine 136 = .ok (.bipush 11, 2) := by decide +kernel
theorem dX12_benchLine_138 : decode cX12_benchLine 138 = .ok (.iconst 4, 1) := by decide +kernel
theorem dX12_benchLine_139 : decode cX12_benchLine 139 = .ok (.iload 5, 2) := by decide +kernel
theorem dX12_benchLine_141 : decode cX12_benchLine 141 = .ok (.imul, 1) := by decide +kernel
theorem dX12_benchLine_142 : decode cX12_benchLine 142 = .ok (.iadd, 1) := by decide +kernel
theorem dX12_benchLine_143 : decode cX12_benchLine 143 = .ok (.iconst 1, 1) := by decide +kernel
theorem dX12_benchLine_144 : decode cX12_benchLine 144 = .ok (.iadd, 1) := by decide +kernel
theorem dX12_benchLine_145 : decode cX12_benchLine 145 = .ok (.iaload, 1) := by decide +kernel
theorem dX12_benchLine_146 : decode cX12_benchLine 146 = .ok (.iload_n 3, 1) := by decide +kernel
theorem dX12_benchLine_147 : decode cX12_benchLine 147 = .ok (.if_icmp .ne 7, 3) := by decide +kernel
theorem dX12_benchLine_150 : decode cX12_benchLine 150 = .ok (.iconst 1, 1) := by decide +kernel
theorem dX12_benchLine_151 : decode cX12_benchLine 151 = .ok (.goto 4, 3) := by decide +kernel
theorem dX12_benchLine_154 : decode cX12_benchLine 154 = .ok (.iconst 0, 1) := by decide +kernel
theorem dX12_benchLine_155 : decode cX12_benchLine 155 = .ok (.istore 4, 2) := by decide +kernel
theorem dX12_benchLine_157 : decode cX12_benchLine 157 = .ok (.iinc 5 1, 3) := by decide +kernel
theorem dX12_benchLine_160 : decode cX12_benchLine 160 = .ok (.goto (-44), 3) := by decide +kernel
theorem dX12_benchLine_163 : decode cX12_benchLine 163 = .ok (.aload_n 0, 1) := by decide +kernel
theorem dX12_benchLine_164 : decode cX12_benchLine 164 = .ok (.getfield 103, 3) := by decide +kernel
theorem dX12_benchLine_167 : decode cX12_benchLine 167 = .ok (.ifCond .ne 18, 3) := by decide +kernel
theorem dX12_benchLine_170 : decode cX12_benchLine 170 = .ok (.iload 4, 2) := by decide +kernel
theorem dX12_benchLine_172 : decode cX12_benchLine 172 = .ok (.ifCond .eq 13, 3) := by decide +kernel
theorem dX12_benchLine_175 : decode cX12_benchLine 175 = .ok (.aload_n 0, 1) := by decide +kernel
theorem dX12_benchLine_176 : decode cX12_benchLine 176 = .ok (.bipush 7, 2) := by decide +kernel
theorem dX12_benchLine_178 : decode cX12_benchLine 178 = .ok (.aload_n 0, 1) := by decide +kernel
theorem dX12_benchLine_179 : decode cX12_benchLine 179 = .ok (.getfield 84, 3) := by decide +kernel
theorem dX12_benchLine_182 : decode cX12_benchLine 182 = .ok (.invokevirtual 130, 3) := by decide +kernel
theorem dX12_benchLine_185 : decode cX12_benchLine 185 = .ok (.aload_n 0, 1) := by decide +kernel
theorem dX12_benchLine_186 : decode cX12_benchLine 186 = .ok (.getfield 103, 3) := by decide +kernel
theorem dX12_benchLine_189 : decode cX12_benchLine 189 = .ok (.ifCond .eq 4, 3) := by decide +kernel
theorem dX12_benchLine_192 : decode cX12_benchLine 192 = .ok (.return_, 1) := by decide +kernel
theorem dX12_benchLine_193 : decode cX12_benchLine 193 = .ok (.aload_n 0, 1) := by decide +kernel
theorem dX12_benchLine_194 : decode cX12_benchLine 194 = .ok (.invokevirtual 124, 3) := by decide +kernel
theorem dX12_benchLine_197 : decode cX12_benchLine 197 = .ok (.aload_n 0, 1) := by decide +kernel
theorem dX12_benchLine_198 : decode cX12_benchLine 198 = .ok (.getfield 23, 3) := by decide +kernel
theorem dX12_benchLine_201 : decode cX12_benchLine 201 = .ok (.iload_n 1, 1) := by decide +kernel
theorem dX12_benchLine_202 : decode cX12_benchLine 202 = .ok (.iconst 1, 1) := by decide +kernel
theorem dX12_benchLine_203 : decode cX12_benchLine 203 = .ok (.iadd, 1) := by decide +kernel
theorem dX12_benchLine_204 : decode cX12_benchLine 204 = .ok (.iload_n 3, 1) := by decide +kernel
theorem dX12_benchLine_205 : decode cX12_benchLine 205 = .ok (.iastore, 1) := by decide +kernel
theorem dX12_benchLine_206 : decode cX12_benchLine 206 = .ok (.aload_n 0, 1) := by decide +kernel
theorem dX12_benchLine_207 : decode cX12_benchLine 207 = .ok (.getfield 23, 3) := by decide +kernel
theorem dX12_benchLine_210 : decode cX12_benchLine 210 = .ok (.iload_n 1, 1) := by decide +kernel
theorem dX12_benchLine_211 : decode cX12_benchLine 211 = .ok (.iconst 2, 1) := by decide +kernel
theorem dX12_benchLine_212 : decode cX12_benchLine 212 = .ok (.iadd, 1) := by decide +kernel
theorem dX12_benchLine_213 : decode cX12_benchLine 213 = .ok (.aload_n 0, 1) := by decide +kernel
theorem dX12_benchLine_214 : decode cX12_benchLine 214 = .ok (.ldc_w 259, 3) := by decide +kernel
theorem dX12_benchLine_217 : decode cX12_benchLine 217 = .ok (.iconst 1, 1) := by decide +kernel
theorem dX12_benchLine_218 : decode cX12_benchLine 218 = .ok (.iconst 3, 1) := by decide +kernel
theorem dX12_benchLine_219 : decode cX12_benchLine 219 = .ok (.invokevirtual 231, 3) := by decide +kernel
theorem dX12_benchLine_222 : decode cX12_benchLine 222 = .ok (.iastore, 1) := by decide +kernel
theorem dX12_benchLine_223 : decode cX12_benchLine 223 = .ok (.aload_n 0, 1) := by decide +kernel
theorem dX12_benchLine_224 : decode cX12_benchLine 224 = .ok (.getfield 23, 3) := by decide +kernel
theorem dX12_benchLine_227 : decode cX12_benchLine 227 = .ok (.iload_n 1, 1) := by decide +kernel
theorem dX12_benchLine_228 : decode cX12_benchLine 228 = .ok (.iconst 3, 1) := by decide +kernel
theorem dX12_benchLine_229 : decode cX12_benchLine 229 = .ok (.iadd, 1) := by decide +kernel
theorem dX12_benchLine_230 : decode cX12_benchLine 230 = .ok (.aload_n 0, 1) := by decide +kernel
theorem dX12_benchLine_231 : decode cX12_benchLine 231 = .ok (.ldc_w 260, 3) := by decide +kernel
theorem dX12_benchLine_234 : decode cX12_benchLine 234 = .ok (.iconst 0, 1) := by decide +kernel
theorem dX12_benchLine_235 : decode cX12_benchLine 235 = .ok (.bipush 30, 2) := by decide +kernel
theorem dX12_benchLine_237 : decode cX12_benchLine 237 = .ok (.invokevirtual 231, 3) := by decide +kernel
theorem dX12_benchLine_240 : decode cX12_benchLine 240 = .ok (.iastore, 1) := by decide +kernel
theorem dX12_benchLine_241 : decode cX12_benchLine 241 = .ok (.aload_n 0, 1) := by decide +kernel
theorem dX12_benchLine_242 : decode cX12_benchLine 242 = .ok (.getfield 103, 3) := by decide +kernel
theorem dX12_benchLine_245 : decode cX12_benchLine 245 = .ok (.ifCond .ne 13, 3) := by decide +kernel
theorem dX12_benchLine_248 : decode cX12_benchLine 248 = .ok (.aload_n 0, 1) := by decide +kernel
theorem dX12_benchLine_249 : decode cX12_benchLine 249 = .ok (.getfield 23, 3) := by decide +kernel
theorem dX12_benchLine_252 : decode cX12_benchLine 252 = .ok (.iconst 3, 1) := by decide +kernel
theorem dX12_benchLine_253 : decode cX12_benchLine 253 = .ok (.dup2, 1) := by decide +kernel
theorem dX12_benchLine_254 : decode cX12_benchLine 254 = .ok (.iaload, 1) := by decide +kernel
theorem dX12_benchLine_255 : decode cX12_benchLine 255 = .ok (.iconst 1, 1) := by decide +kernel
theorem dX12_benchLine_256 : decode cX12_benchLine 256 = .ok (.iadd, 1) := by decide +kernel
theorem dX12_benchLine_257 : decode cX12_benchLine 257 = .ok (.iastore, 1) := by decide +kernel
theorem dX12_benchLine_258 : decode cX12_benchLine 258 = .ok (.return_, 1) := by decide +kernel
theorem dX12_mayBe_0 : decode cX12_mayBe 0 = .ok (.iload_n 1, 1) := by decide +kernel
theorem dX12_mayBe_1 : decode cX12_mayBe 1 = .ok (.ifCond .eq 28, 3) := by decide +kernel
theorem dX12_mayBe_4 : decode cX12_mayBe 4 = .ok (.iload_n 0, 1) := by decide +kernel
theorem dX12_mayBe_5 : decode cX12_mayBe 5 = .ok (.iconst 3, 1) := by decide +kernel
theorem dX12_mayBe_6 : decode cX12_mayBe 6 = .ok (.if_icmp .eq 23, 3) := by decide +kernel
theorem dX12_mayBe_9 : decode cX12_mayBe 9 = .ok (.iload_n 1, 1) := by decide +kernel
theorem dX12_mayBe_10 : decode cX12_mayBe 10 = .ok (.iconst 1, 1) := by decide +kernel
theorem dX12_mayBe_11 : decode cX12_mayBe 11 = .ok (.if_icmp .ne 8, 3) := by decide +kernel
theorem dX12_mayBe_14 : decode cX12_mayBe 14 = .ok (.iload_n 0, 1) := by decide +kernel
theorem dX12_mayBe_15 : decode cX12_mayBe 15 = .ok (.iconst 1, 1) := by decide +kernel
theorem dX12_mayBe_16 : decode cX12_mayBe 16 = .ok (.if_icmp .eq 13, 3) := by decide +kernel
theorem dX12_mayBe_19 : decode cX12_mayBe 19 = .ok (.iload_n 1, 1) := by decide +kernel
theorem dX12_mayBe_20 : decode cX12_mayBe 20 = .ok (.iconst 2, 1) := by decide +kernel
theorem dX12_mayBe_21 : decode cX12_mayBe 21 = .ok (.if_icmp .ne 12, 3) := by decide +kernel
theorem dX12_mayBe_24 : decode cX12_mayBe 24 = .ok (.iload_n 0, 1) := by decide +kernel
theorem dX12_mayBe_25 : decode cX12_mayBe 25 = .ok (.iconst 2, 1) := by decide +kernel
theorem dX12_mayBe_26 : decode cX12_mayBe 26 = .ok (.if_icmp .ne 7, 3) := by decide +kernel
theorem dX12_mayBe_29 : decode cX12_mayBe 29 = .ok (.iconst 1, 1) := by decide +kernel
theorem dX12_mayBe_30 : decode cX12_mayBe 30 = .ok (.goto 4, 3) := by decide +kernel
theorem dX12_mayBe_33 : decode cX12_mayBe 33 = .ok (.iconst 0, 1) := by decide +kernel
theorem dX12_mayBe_34 : decode cX12_mayBe 34 = .ok (.ireturn, 1) := by decide +kernel
theorem dX12_personLine_0 : decode cX12_personLine 0 = .ok (.aload_n 0, 1) := by decide +kernel
theorem dX12_personLine_1 : decode cX12_personLine 1 = .ok (.getfield 103, 3) := by decide +kernel
theorem dX12_personLine_4 : decode cX12_personLine 4 = .ok (.ifCond .eq 4, 3) := by decide +kernel
theorem dX12_personLine_7 : decode cX12_personLine 7 = .ok (.return_, 1) := by decide +kernel
theorem dX12_personLine_8 : decode cX12_personLine 8 = .ok (.aload_n 0, 1) := by decide +kernel
theorem dX12_personLine_9 : decode cX12_personLine 9 = .ok (.getfield 23, 3) := by decide +kernel
theorem dX12_personLine_12 : decode cX12_personLine 12 = .ok (.iconst 4, 1) := by decide +kernel
theorem dX12_personLine_13 : decode cX12_personLine 13 = .ok (.iaload, 1) := by decide +kernel
theorem dX12_personLine_14 : decode cX12_personLine 14 = .ok (.istore_n 1, 1) := by decide +kernel
theorem dX12_personLine_15 : decode cX12_personLine 15 = .ok (.bipush 35, 2) := by decide +kernel
theorem dX12_personLine_17 : decode cX12_personLine 17 = .ok (.iconst 4, 1) := by decide +kernel
theorem dX12_personLine_18 : decode cX12_personLine 18 = .ok (.iload_n 1, 1) := by decide +kernel
theorem dX12_personLine_19 : decode cX12_personLine 19 = .ok (.imul, 1) := by decide +kernel
theorem dX12_personLine_20 : decode cX12_personLine 20 = .ok (.iadd, 1) := by decide +kernel
theorem dX12_personLine_21 : decode cX12_personLine 21 = .ok (.istore_n 2, 1) := by decide +kernel
theorem dX12_personLine_22 : decode cX12_personLine 22 = .ok (.aload_n 0, 1) := by decide +kernel
theorem dX12_personLine_23 : decode cX12_personLine 23 = .ok (.bipush 6, 2) := by decide +kernel
theorem dX12_personLine_25 : decode cX12_personLine 25 = .ok (.iload_n 1, 1) := by decide +kernel
theorem dX12_personLine_26 : decode cX12_personLine 26 = .ok (.iadd, 1) := by decide +kernel
theorem dX12_personLine_27 : decode cX12_personLine 27 = .ok (.invokevirtual 243, 3) := by decide +kernel
theorem dX12_personLine_30 : decode cX12_personLine 30 = .ok (.aload_n 0, 1) := by decide +kernel
theorem dX12_personLine_31 : decode cX12_personLine 31 = .ok (.getfield 103, 3) := by decide +kernel
theorem dX12_personLine_34 : decode cX12_personLine 34 = .ok (.ifCond .ne 25, 3) := by decide +kernel
theorem dX12_personLine_37 : decode cX12_personLine 37 = .ok (.aload_n 0, 1) := by decide +kernel
theorem dX12_personLine_38 : decode cX12_personLine 38 = .ok (.getfield 23, 3) := by decide +kernel
theorem dX12_personLine_41 : decode cX12_personLine 41 = .ok (.iload_n 2, 1) := by decide +kernel
theorem dX12_personLine_42 : decode cX12_personLine 42 = .ok (.aload_n 0, 1) := by decide +kernel
theorem dX12_personLine_43 : decode cX12_personLine 43 = .ok (.ldc_w 262, 3) := by decide +kernel
theorem dX12_personLine_46 : decode cX12_personLine 46 = .ok (.ldc_w 264, 3) := by decide +kernel
theorem dX12_personLine_49 : decode cX12_personLine 49 = .ok (.ldc_w 266, 3) := by decide +kernel
theorem dX12_personLine_52 : decode cX12_personLine 52 = .ok (.ldc_w 268, 3) := by decide +kernel
theorem dX12_personLine_55 : decode cX12_personLine 55 = .ok (.invokevirtual 254, 3) := by decide +kernel
theorem dX12_personLine_58 : decode cX12_personLine 58 = .ok (.iastore, 1) := by decide +kernel
theorem dX12_personLine_59 : decode cX12_personLine 59 = .ok (.aload_n 0, 1) := by decide +kernel
theorem dX12_personLine_60 : decode cX12_personLine 60 = .ok (.ldc_w 270, 3) := by decide +kernel
theorem dX12_personLine_63 : decode cX12_personLine 63 = .ok (.invokevirtual 174, 3) := by decide +kernel
theorem dX12_personLine_66 : decode cX12_personLine 66 = .ok (.aload_n 0, 1) := by decide +kernel
theorem dX12_personLine_67 : decode cX12_personLine 67 = .ok (.getfield 103, 3) := by decide +kernel
theorem dX12_personLine_70 : decode cX12_personLine 70 = .ok (.ifCond .ne 20, 3) := by decide +kernel
theorem dX12_personLine_73 : decode cX12_personLine 73 = .ok (.aload_n 0, 1) := by decide +kernel
theorem dX12_personLine_74 : decode cX12_personLine 74 = .ok (.getfield 93, 3) := by decide +kernel
theorem dX12_personLine_77 : decode cX12_personLine 77 = .ok (.iconst 2, 1) := by decide +kernel
theorem dX12_personLine_78 : decode cX12_personLine 78 = .ok (.if_icmp .eq 12, 3) := by decide +kernel
theorem dX12_personLine_81 : decode cX12_personLine 81 = .ok (.aload_n 0, 1) := by decide +kernel
theorem dX12_personLine_82 : decode cX12_personLine 82 = .ok (.iconst 1, 1) := by decide +kernel
theorem dX12_personLine_83 : decode cX12_personLine 83 = .ok (.aload_n 0, 1) := by decide +kernel
theorem dX12_personLine_84 : decode cX12_personLine 84 = .ok (.getfield 84, 3) := by decide +kernel
theorem dX12_personLine_87 : decode cX12_personLine 87 = .ok (.invokevirtual 130, 3) := by decide +kernel
theorem dX12_personLine_90 : decode cX12_personLine 90 = .ok (.aload_n 0, 1) := by decide +kernel
theorem dX12_personLine_91 : decode cX12_personLine 91 = .ok (.getfield 103, 3) := by decide +kernel
theorem dX12_personLine_94 : decode cX12_personLine 94 = .ok (.ifCond .eq 4, 3) := by decide +kernel
theorem dX12_personLine_97 : decode cX12_personLine 97 = .ok (.return_, 1) := by decide +kernel
theorem dX12_personLine_98 : decode cX12_personLine 98 = .ok (.aload_n 0, 1) := by decide +kernel
theorem dX12_personLine_99 : decode cX12_personLine 99 = .ok (.getfield 23, 3) := by decide +kernel
theorem dX12_personLine_102 : decode cX12_personLine 102 = .ok (.sipush 226, 3) := by decide +kernel
theorem dX12_personLine_105 : decode cX12_personLine 105 = .ok (.bipush 9, 2) := by decide +kernel
theorem dX12_personLine_107 : decode cX12_personLine 107 = .ok (.iload_n 1, 1) := by decide +kernel
theorem dX12_personLine_108 : decode cX12_personLine 108 = .ok (.imul, 1) := by decide +kernel
theorem dX12_personLine_109 : decode cX12_personLine 109 = .ok (.iadd, 1) := by decide +kernel
theorem dX12_personLine_110 : decode cX12_personLine 110 = .ok (.aload_n 0, 1) := by decide +kernel
theorem dX12_personLine_111 : decode cX12_personLine 111 = .ok (.getfield 87, 3) := by decide +kernel
theorem dX12_personLine_114 : decode cX12_personLine 114 = .ok (.iastore, 1) := by decide +kernel
theorem dX12_personLine_115 : decode cX12_personLine 115 = .ok (.iconst 0, 1) := by decide +kernel
theorem dX12_personLine_116 : decode cX12_personLine 116 = .ok (.istore_n 3, 1) := by decide +kernel
theorem dX12_personLine_117 : decode cX12_personLine 117 = .ok (.iload_n 3, 1) := by decide +kernel
theorem dX12_personLine_118 : decode cX12_personLine 118 = .ok (.aload_n 0, 1) := by decide +kernel
theorem dX12_personLine_119 : decode cX12_personLine 119 = .ok (.getfield 87, 3) := by decide +kernel
theorem dX12_personLine_122 : decode cX12_personLine 122 = .ok (.if_icmp .ge 32, 3) := by decide +kernel
theorem dX12_personLine_125 : decode cX12_personLine 125 = .ok (.aload_n 0, 1) := by decide +kernel
theorem dX12_personLine_126 : decode cX12_personLine 126 = .ok (.getfield 23, 3) := by decide +kernel
theorem dX12_personLine_129 : decode cX12_personLine 129 = .ok (.sipush 226, 3) := by decide +kernel
theorem dX12_personLine_132 : decode cX12_personLine 132 = .ok (.bipush 9, 2) := by decide +kernel
theorem dX12_personLine_134 : decode cX12_personLine 134 = .ok (.iload_n 1, 1) := by decide +kernel
theorem dX12_personLine_135 : decode cX12_personLine 135 = .ok (.imul, 1) := by decide +kernel
theorem dX12_personLine_136 : decode cX12_personLine 136 = .ok (.iadd, 1) := by decide +kernel
theorem dX12_personLine_137 : decode cX12_personLine 137 = .ok (.iconst 1, 1) := by decide +kernel
theorem dX12_personLine_138 : decode cX12_personLine 138 = .ok (.iadd, 1) := by decide +kernel
theorem dX12_personLine_139 : decode cX12_personLine 139 = .ok (.iload_n 3, 1) := by decide +kernel
theorem dX12_personLine_140 : decode cX12_personLine 140 = .ok (.iadd, 1) := by decide +kernel
theorem dX12_personLine_141 : decode cX12_personLine 141 = .ok (.aload_n 0, 1) := by decide +kernel
theorem dX12_personLine_142 : decode cX12_personLine 142 = .ok (.getfield 17, 3) := by decide +kernel
theorem dX12_personLine_145 : decode cX12_personLine 145 = .ok (.iload_n 3, 1) := by decide +kernel
theorem dX12_personLine_146 : decode cX12_personLine 146 = .ok (.iaload, 1) := by decide +kernel
theorem dX12_personLine_147 : decode cX12_personLine 147 = .ok (.iastore, 1) := by decide +kernel
theorem dX12_personLine_148 : decode cX12_personLine 148 = .ok (.iinc 3 1, 3) := by decide +kernel
theorem dX12_personLine_151 : decode cX12_personLine 151 = .ok (.goto (-34), 3) := by decide +kernel
theorem dX12_personLine_154 : decode cX12_personLine 154 = .ok (.aload_n 0, 1) := by decide +kernel
theorem dX12_personLine_155 : decode cX12_personLine 155 = .ok (.invokevirtual 124, 3) := by decide +kernel
theorem dX12_personLine_158 : decode cX12_personLine 158 = .ok (.aload_n 0, 1) := by decide +kernel
theorem dX12_personLine_159 : decode cX12_personLine 159 = .ok (.getfield 23, 3) := by decide +kernel
theorem dX12_personLine_162 : decode cX12_personLine 162 = .ok (.iload_n 2, 1) := by decide +kernel
theorem dX12_personLine_163 : decode cX12_personLine 163 = .ok (.iconst 1, 1) := by decide +kernel
theorem dX12_personLine_164 : decode cX12_personLine 164 = .ok (.iadd, 1) := by decide +kernel
theorem dX12_personLine_165 : decode cX12_personLine 165 = .ok (.aload_n 0, 1) := by decide +kernel
theorem dX12_personLine_166 : decode cX12_personLine 166 = .ok (.ldc_w 272, 3) := by decide +kernel
theorem dX12_personLine_169 : decode cX12_personLine 169 = .ok (.iconst 0, 1) := by decide +kernel
theorem dX12_personLine_170 : decode cX12_personLine 170 = .ok (.bipush 60, 2) := by decide +kernel
theorem dX12_personLine_172 : decode cX12_personLine 172 = .ok (.invokevirtual 231, 3) := by decide +kernel
theorem dX12_personLine_175 : decode cX12_personLine 175 = .ok (.iastore, 1) := by decide +kernel
theorem dX12_personLine_176 : decode cX12_personLine 176 = .ok (.aload_n 0, 1) := by decide +kernel
theorem dX12_personLine_177 : decode cX12_personLine 177 = .ok (.getfield 23, 3) := by decide +kernel
theorem dX12_personLine_180 : decode cX12_personLine 180 = .ok (.iload_n 2, 1) := by decide +kernel
theorem dX12_personLine_181 : decode cX12_personLine 181 = .ok (.iconst 2, 1) := by decide +kernel
theorem dX12_personLine_182 : decode cX12_personLine 182 = .ok (.iadd, 1) := by decide +kernel
theorem dX12_personLine_183 : decode cX12_personLine 183 = .ok (.iconst 0, 1) := by decide +kernel
theorem dX12_personLine_184 : decode cX12_personLine 184 = .ok (.iastore, 1) := by decide +kernel
theorem dX12_personLine_185 : decode cX12_personLine 185 = .ok (.aload_n 0, 1) := by decide +kernel
theorem dX12_personLine_186 : decode cX12_personLine 186 = .ok (.getfield 103, 3) := by decide +kernel
theorem dX12_personLine_189 : decode cX12_personLine 189 = .ok (.ifCond .ne 147, 3) := by decide +kernel
theorem dX12_personLine_192 : decode cX12_personLine 192 = .ok (.aload_n 0, 1) := by decide +kernel
theorem dX12_personLine_193 : decode cX12_personLine 193 = .ok (.ldc 152, 2) := by decide +kernel
theorem dX12_personLine_195 : decode cX12_personLine 195 = .ok (.invokevirtual 127, 3) := by decide +kernel
theorem dX12_personLine_198 : decode cX12_personLine 198 = .ok (.ifCond .eq 138, 3) := by decide +kernel
theorem dX12_personLine_201 : decode cX12_personLine 201 = .ok (.aload_n 0, 1) := by decide +kernel
theorem dX12_personLine_202 : decode cX12_personLine 202 = .ok (.iconst 0, 1) := by decide +kernel
theorem dX12_personLine_203 : decode cX12_personLine 203 = .ok (.iconst 5, 1) := by decide +kernel
theorem dX12_personLine_204 : decode cX12_personLine 204 = .ok (.invokevirtual 164, 3) := by decide +kernel
theorem dX12_personLine_207 : decode cX12_personLine 207 = .ok (.istore_n 3, 1) := by decide +kernel
theorem dX12_personLine_208 : decode cX12_personLine 208 = .ok (.iconst 0, 1) := by decide +kernel
theorem dX12_personLine_209 : decode cX12_personLine 209 = .ok (.istore 4, 2) := by decide +kernel
theorem dX12_personLine_211 : decode cX12_personLine 211 = .ok (.iconst 0, 1) := by decide +kernel
theorem dX12_personLine_212 : decode cX12_personLine 212 = .ok (.istore 5, 2) := by decide +kernel
theorem dX12_personLine_214 : decode cX12_personLine 214 = .ok (.iload 5, 2) := by decide +kernel
theorem dX12_personLine_216 : decode cX12_personLine 216 = .ok (.iload_n 1, 1) := by decide +kernel
theorem dX12_personLine_217 : decode cX12_personLine 217 = .ok (.if_icmp .ge 39, 3) := by decide +kernel
theorem dX12_personLine_220 : decode cX12_personLine 220 = .ok (.iload 4, 2) := by decide +kernel
theorem dX12_personLine_222 : decode cX12_personLine 222 = .ok (.aload_n 0, 1) := by decide +kernel
theorem dX12_personLine_223 : decode cX12_personLine 223 = .ok (.getfield 23, 3) := by decide +kernel
theorem dX12_personLine_226 : decode cX12_personLine 226 = .ok (.bipush 35, 2) := by decide +kernel
theorem dX12_personLine_228 : decode cX12_personLine 228 = .ok (.iconst 4, 1) := by decide +kernel
theorem dX12_personLine_229 : decode cX12_personLine 229 = .ok (.iload 5, 2) := by decide +kernel
theorem dX12_personLine_231 : decode cX12_personLine 231 = .ok (.imul, 1) := by decide +kernel
theorem dX12_personLine_232 : decode cX12_personLine 232 = .ok (.iadd, 1) := by decide +kernel
theorem dX12_personLine_233 : decode cX12_personLine 233 = .ok (.iconst 2, 1) := by decide +kernel
theorem dX12_personLine_234 : decode cX12_personLine 234 = .ok (.iadd, 1) := by decide +kernel
theorem dX12_personLine_235 : decode cX12_personLine 235 = .ok (.iaload, 1) := by decide +kernel
theorem dX12_personLine_236 : decode cX12_personLine 236 = .ok (.iload_n 3, 1) := by decide +kernel
theorem dX12_personLine_237 : decode cX12_personLine 237 = .ok (.iconst 1, 1) := by decide +kernel
theorem dX12_personLine_238 : decode cX12_personLine 238 = .ok (.iadd, 1) := by decide +kernel
theorem dX12_personLine_239 : decode cX12_personLine 239 = .ok (.if_icmp .ne 7, 3) := by decide +kernel
theorem dX12_personLine_242 : decode cX12_personLine 242 = .ok (.iconst 1, 1) := by decide +kernel
theorem dX12_personLine_243 : decode cX12_personLine 243 = .ok (.goto 4, 3) := by decide +kernel
theorem dX12_personLine_246 : decode cX12_personLine 246 = .ok (.iconst 0, 1) := by decide +kernel
theorem dX12_personLine_247 : decode cX12_personLine 247 = .ok (.iadd, 1) := by decide +kernel
theorem dX12_personLine_248 : decode cX12_personLine 248 = .ok (.istore 4, 2) := by decide +kernel
theorem dX12_personLine_250 : decode cX12_personLine 250 = .ok (.iinc 5 1, 3) := by decide +kernel
theorem dX12_personLine_253 : decode cX12_personLine 253 = .ok (.goto (-39), 3) := by decide +kernel
theorem dX12_personLine_256 : decode cX12_personLine 256 = .ok (.aload_n 0, 1) := by decide +kernel
theorem dX12_personLine_257 : decode cX12_personLine 257 = .ok (.getfield 103, 3) := by decide +kernel
theorem dX12_personLine_260 : decode cX12_personLine 260 = .ok (.ifCond .ne 54, 3) := by decide +kernel
theorem dX12_personLine_263 : decode cX12_personLine 263 = .ok (.aload_n 0, 1) := by decide +kernel
theorem dX12_personLine_264 : decode cX12_personLine 264 = .ok (.getfield 23, 3) := by decide +kernel
theorem dX12_personLine_267 : decode cX12_personLine 267 = .ok (.iload_n 2, 1) := by decide +kernel
theorem dX12_personLine_268 : decode cX12_personLine 268 = .ok (.iaload, 1) := by decide +kernel
theorem dX12_personLine_269 : decode cX12_personLine 269 = .ok (.aload_n 0, 1) := by decide +kernel
theorem dX12_personLine_270 : decode cX12_personLine 270 = .ok (.getfield 23, 3) := by decide +kernel
theorem dX12_personLine_273 : decode cX12_personLine 273 = .ok (.bipush 11, 2) := by decide +kernel
theorem dX12_personLine_275 : decode cX12_personLine 275 = .ok (.iconst 4, 1) := by decide +kernel
theorem dX12_personLine_276 : decode cX12_personLine 276 = .ok (.iload_n 3, 1) := by decide +kernel
theorem dX12_personLine_277 : decode cX12_personLine 277 = .ok (.imul, 1) := by decide +kernel
theorem dX12_personLine_278 : decode cX12_personLine 278 = .ok (.iadd, 1) := by decide +kernel
theorem dX12_personLine_279 : decode cX12_personLine 279 = .ok (.iaload, 1) := by decide +kernel
theorem dX12_personLine_280 : decode cX12_personLine 280 = .ok (.invokestatic 274, 3) := by decide +kernel
theorem dX12_personLine_283 : decode cX12_personLine 283 = .ok (.ifCond .eq 21, 3) := by decide +kernel
theorem dX12_personLine_286 : decode cX12_personLine 286 = .ok (.iload 4, 2) := by decide +kernel
theorem dX12_personLine_288 : decode cX12_personLine 288 = .ok (.aload_n 0, 1) := by decide +kernel
theorem dX12_personLine_289 : decode cX12_personLine 289 = .ok (.getfield 23, 3) := by decide +kernel
theorem dX12_personLine_292 : decode cX12_personLine 292 = .ok (.bipush 11, 2) := by decide +kernel
theorem dX12_personLine_294 : decode cX12_personLine 294 = .ok (.iconst 4, 1) := by decide +kernel
theorem dX12_personLine_295 : decode cX12_personLine 295 = .ok (.iload_n 3, 1) := by decide +kernel
theorem dX12_personLine_296 : decode cX12_personLine 296 = .ok (.imul, 1) := by decide +kernel
theorem dX12_personLine_297 : decode cX12_personLine 297 = .ok (.iadd, 1) := by decide +kernel
theorem dX12_personLine_298 : decode cX12_personLine 298 = .ok (.iconst 2, 1) := by decide +kernel
theorem dX12_personLine_299 : decode cX12_personLine 299 = .ok (.iadd, 1) := by decide +kernel
theorem dX12_personLine_300 : decode cX12_personLine 300 = .ok (.iaload, 1) := by decide +kernel
theorem dX12_personLine_301 : decode cX12_personLine 301 = .ok (.if_icmp .lt 13, 3) := by decide +kernel
theorem dX12_personLine_304 : decode cX12_personLine 304 = .ok (.aload_n 0, 1) := by decide +kernel
theorem dX12_personLine_305 : decode cX12_personLine 305 = .ok (.bipush 7, 2) := by decide +kernel
theorem dX12_personLine_307 : decode cX12_personLine 307 = .ok (.aload_n 0, 1) := by decide +kernel
theorem dX12_personLine_308 : decode cX12_personLine 308 = .ok (.getfield 84, 3) := by decide +kernel
theorem dX12_personLine_311 : decode cX12_personLine 311 = .ok (.invokevirtual 130, 3) := by decide +kernel
theorem dX12_personLine_314 : decode cX12_personLine 314 = .ok (.aload_n 0, 1) := by decide +kernel
theorem dX12_personLine_315 : decode cX12_personLine 315 = .ok (.getfield 103, 3) := by decide +kernel
theorem dX12_personLine_318 : decode cX12_personLine 318 = .ok (.ifCond .ne 18, 3) := by decide +kernel
theorem dX12_personLine_321 : decode cX12_personLine 321 = .ok (.aload_n 0, 1) := by decide +kernel
theorem dX12_personLine_322 : decode cX12_personLine 322 = .ok (.getfield 23, 3) := by decide +kernel
theorem dX12_personLine_325 : decode cX12_personLine 325 = .ok (.iload_n 2, 1) := by decide +kernel
theorem dX12_personLine_326 : decode cX12_personLine 326 = .ok (.iconst 2, 1) := by decide +kernel
theorem dX12_personLine_327 : decode cX12_personLine 327 = .ok (.iadd, 1) := by decide +kernel
theorem dX12_personLine_328 : decode cX12_personLine 328 = .ok (.iload_n 3, 1) := by decide +kernel
theorem dX12_personLine_329 : decode cX12_personLine 329 = .ok (.iconst 1, 1) := by decide +kernel
theorem dX12_personLine_330 : decode cX12_personLine 330 = .ok (.iadd, 1) := by decide +kernel
theorem dX12_personLine_331 : decode cX12_personLine 331 = .ok (.iastore, 1) := by decide +kernel
theorem dX12_personLine_332 : decode cX12_personLine 332 = .ok (.aload_n 0, 1) := by decide +kernel
theorem dX12_personLine_333 : decode cX12_personLine 333 = .ok (.invokevirtual 124, 3) := by decide +kernel
theorem dX12_personLine_336 : decode cX12_personLine 336 = .ok (.aload_n 0, 1) := by decide +kernel
theorem dX12_personLine_337 : decode cX12_personLine 337 = .ok (.getfield 103, 3) := by decide +kernel
theorem dX12_personLine_340 : decode cX12_personLine 340 = .ok (.ifCond .ne 13, 3) := by decide +kernel
theorem dX12_personLine_343 : decode cX12_personLine 343 = .ok (.aload_n 0, 1) := by decide +kernel
theorem dX12_personLine_344 : decode cX12_personLine 344 = .ok (.getfield 23, 3) := by decide +kernel
theorem dX12_personLine_347 : decode cX12_personLine 347 = .ok (.iconst 4, 1) := by decide +kernel
theorem dX12_personLine_348 : decode cX12_personLine 348 = .ok (.dup2, 1) := by decide +kernel
theorem dX12_personLine_349 : decode cX12_personLine 349 = .ok (.iaload, 1) := by decide +kernel
theorem dX12_personLine_350 : decode cX12_personLine 350 = .ok (.iconst 1, 1) := by decide +kernel
theorem dX12_personLine_351 : decode cX12_personLine 351 = .ok (.iadd, 1) := by decide +kernel
theorem dX12_personLine_352 : decode cX12_personLine 352 = .ok (.iastore, 1) := by decide +kernel
theorem dX12_personLine_353 : decode cX12_personLine 353 = .ok (.return_, 1) := by decide +kernel
theorem dX12_kinLine_0 : decode cX12_kinLine 0 = .ok (.aload_n 0, 1) := by decide +kernel
theorem dX12_kinLine_1 : decode cX12_kinLine 1 = .ok (.getfield 103, 3) := by decide +kernel
theorem dX12_kinLine_4 : decode cX12_kinLine 4 = .ok (.ifCond .eq 4, 3) := by decide +kernel
theorem dX12_kinLine_7 : decode cX12_kinLine 7 = .ok (.return_, 1) := by decide +kernel
theorem dX12_kinLine_8 : decode cX12_kinLine 8 = .ok (.aload_n 0, 1) := by decide +kernel
theorem dX12_kinLine_9 : decode cX12_kinLine 9 = .ok (.invokevirtual 278, 3) := by decide +kernel
theorem dX12_kinLine_12 : decode cX12_kinLine 12 = .ok (.istore_n 1, 1) := by decide +kernel
theorem dX12_kinLine_13 : decode cX12_kinLine 13 = .ok (.aload_n 0, 1) := by decide +kernel
theorem dX12_kinLine_14 : decode cX12_kinLine 14 = .ok (.invokevirtual 168, 3) := by decide +kernel
theorem dX12_kinLine_17 : decode cX12_kinLine 17 = .ok (.istore_n 2, 1) := by decide +kernel
theorem dX12_kinLine_18 : decode cX12_kinLine 18 = .ok (.aload_n 0, 1) := by decide +kernel
theorem dX12_kinLine_19 : decode cX12_kinLine 19 = .ok (.getfield 103, 3) := by decide +kernel
theorem dX12_kinLine_22 : decode cX12_kinLine 22 = .ok (.ifCond .ne 33, 3) := by decide +kernel
theorem dX12_kinLine_25 : decode cX12_kinLine 25 = .ok (.iload_n 1, 1) := by decide +kernel
theorem dX12_kinLine_26 : decode cX12_kinLine 26 = .ok (.iload_n 2, 1) := by decide +kernel
theorem dX12_kinLine_27 : decode cX12_kinLine 27 = .ok (.if_icmp .eq 19, 3) := by decide +kernel
theorem dX12_kinLine_30 : decode cX12_kinLine 30 = .ok (.aload_n 0, 1) := by decide +kernel
theorem dX12_kinLine_31 : decode cX12_kinLine 31 = .ok (.getfield 23, 3) := by decide +kernel
theorem dX12_kinLine_34 : decode cX12_kinLine 34 = .ok (.bipush 70, 2) := by decide +kernel
theorem dX12_kinLine_36 : decode cX12_kinLine 36 = .ok (.iload_n 1, 1) := by decide +kernel
theorem dX12_kinLine_37 : decode cX12_kinLine 37 = .ok (.iadd, 1) := by decide +kernel
theorem dX12_kinLine_38 : decode cX12_kinLine 38 = .ok (.iaload, 1) := by decide +kernel
theorem dX12_kinLine_39 : decode cX12_kinLine 39 = .ok (.iload_n 2, 1) := by decide +kernel
theorem dX12_kinLine_40 : decode cX12_kinLine 40 = .ok (.invokestatic 281, 3) := by decide +kernel
theorem dX12_kinLine_43 : decode cX12_kinLine 43 = .ok (.ifCond .eq 12, 3) := by decide +kernel
theorem dX12_kinLine_46 : decode cX12_kinLine 46 = .ok (.aload_n 0, 1) := by decide +kernel
theorem dX12_kinLine_47 : decode cX12_kinLine 47 = .ok (.iconst 3, 1) := by decide +kernel
theorem dX12_kinLine_48 : decode cX12_kinLine 48 = .ok (.aload_n 0, 1) := by decide +kernel
theorem dX12_kinLine_49 : decode cX12_kinLine 49 = .ok (.getfield 84, 3) := by decide +kernel
theorem dX12_kinLine_52 : decode cX12_kinLine 52 = .ok (.invokevirtual 130, 3) := by decide +kernel
theorem dX12_kinLine_55 : decode cX12_kinLine 55 = .ok (.aload_n 0, 1) := by decide +kernel
theorem dX12_kinLine_56 : decode cX12_kinLine 56 = .ok (.getfield 103, 3) := by decide +kernel
theorem dX12_kinLine_59 : decode cX12_kinLine 59 = .ok (.ifCond .eq 4, 3) := by decide +kernel
theorem dX12_kinLine_62 : decode cX12_kinLine 62 = .ok (.return_, 1) := by decide +kernel
theorem dX12_kinLine_63 : decode cX12_kinLine 63 = .ok (.aload_n 0, 1) := by decide +kernel
theorem dX12_kinLine_64 : decode cX12_kinLine 64 = .ok (.invokevirtual 124, 3) := by decide +kernel
theorem dX12_kinLine_67 : decode cX12_kinLine 67 = .ok (.aload_n 0, 1) := by decide +kernel
theorem dX12_kinLine_68 : decode cX12_kinLine 68 = .ok (.getfield 23, 3) := by decide +kernel
theorem dX12_kinLine_71 : decode cX12_kinLine 71 = .ok (.bipush 70, 2) := by decide +kernel
theorem dX12_kinLine_73 : decode cX12_kinLine 73 = .ok (.iload_n 1, 1) := by decide +kernel
theorem dX12_kinLine_74 : decode cX12_kinLine 74 = .ok (.iadd, 1) := by decide +kernel
theorem dX12_kinLine_75 : decode cX12_kinLine 75 = .ok (.dup2, 1) := by decide +kernel
theorem dX12_kinLine_76 : decode cX12_kinLine 76 = .ok (.iaload, 1) := by decide +kernel
theorem dX12_kinLine_77 : decode cX12_kinLine 77 = .ok (.iconst 1, 1) := by decide +kernel
theorem dX12_kinLine_78 : decode cX12_kinLine 78 = .ok (.iload_n 2, 1) := by decide +kernel
theorem dX12_kinLine_79 : decode cX12_kinLine 79 = .ok (.ishl, 1) := by decide +kernel
theorem dX12_kinLine_80 : decode cX12_kinLine 80 = .ok (.ior, 1) := by decide +kernel
theorem dX12_kinLine_81 : decode cX12_kinLine 81 = .ok (.iastore, 1) := by decide +kernel
theorem dX12_kinLine_82 : decode cX12_kinLine 82 = .ok (.aload_n 0, 1) := by decide +kernel
theorem dX12_kinLine_83 : decode cX12_kinLine 83 = .ok (.getfield 23, 3) := by decide +kernel
theorem dX12_kinLine_86 : decode cX12_kinLine 86 = .ok (.bipush 70, 2) := by decide +kernel
theorem dX12_kinLine_88 : decode cX12_kinLine 88 = .ok (.iload_n 2, 1) := by decide +kernel
theorem dX12_kinLine_89 : decode cX12_kinLine 89 = .ok (.iadd, 1) := by decide +kernel
theorem dX12_kinLine_90 : decode cX12_kinLine 90 = .ok (.dup2, 1) := by decide +kernel
theorem dX12_kinLine_91 : decode cX12_kinLine 91 = .ok (.iaload, 1) := by decide +kernel
theorem dX12_kinLine_92 : decode cX12_kinLine 92 = .ok (.iconst 1, 1) := by decide +kernel
theorem dX12_kinLine_93 : decode cX12_kinLine 93 = .ok (.iload_n 1, 1) := by decide +kernel
theorem dX12_kinLine_94 : decode cX12_kinLine 94 = .ok (.ishl, 1) := by decide +kernel
theorem dX12_kinLine_95 : decode cX12_kinLine 95 = .ok (.ior, 1) := by decide +kernel
theorem dX12_kinLine_96 : decode cX12_kinLine 96 = .ok (.iastore, 1) := by decide +kernel
theorem dX12_kinLine_97 : decode cX12_kinLine 97 = .ok (.aload_n 0, 1) := by decide +kernel
theorem dX12_kinLine_98 : decode cX12_kinLine 98 = .ok (.getfield 23, 3) := by decide +kernel
theorem dX12_kinLine_101 : decode cX12_kinLine 101 = .ok (.iconst 5, 1) := by decide +kernel
theorem dX12_kinLine_102 : decode cX12_kinLine 102 = .ok (.dup2, 1) := by decide +kernel
theorem dX12_kinLine_103 : decode cX12_kinLine 103 = .ok (.iaload, 1) := by decide +kernel
theorem dX12_kinLine_104 : decode cX12_kinLine 104 = .ok (.iconst 1, 1) := by decide +kernel
theorem dX12_kinLine_105 : decode cX12_kinLine 105 = .ok (.iadd, 1) := by decide +kernel
theorem dX12_kinLine_106 : decode cX12_kinLine 106 = .ok (.iastore, 1) := by decide +kernel
theorem dX12_kinLine_107 : decode cX12_kinLine 107 = .ok (.return_, 1) := by decide +kernel
theorem dX12_heedsLine_0 : decode cX12_heedsLine 0 = .ok (.aload_n 0, 1) := by decide +kernel
theorem dX12_heedsLine_1 : decode cX12_heedsLine 1 = .ok (.getfield 103, 3) := by decide +kernel
theorem dX12_heedsLine_4 : decode cX12_heedsLine 4 = .ok (.ifCond .eq 4, 3) := by decide +kernel
theorem dX12_heedsLine_7 : decode cX12_heedsLine 7 = .ok (.return_, 1) := by decide +kernel
theorem dX12_heedsLine_8 : decode cX12_heedsLine 8 = .ok (.aload_n 0, 1) := by decide +kernel
theorem dX12_heedsLine_9 : decode cX12_heedsLine 9 = .ok (.invokevirtual 278, 3) := by decide +kernel
theorem dX12_heedsLine_12 : decode cX12_heedsLine 12 = .ok (.istore_n 1, 1) := by decide +kernel
theorem dX12_heedsLine_13 : decode cX12_heedsLine 13 = .ok (.aload_n 0, 1) := by decide +kernel
theorem dX12_heedsLine_14 : decode cX12_heedsLine 14 = .ok (.invokevirtual 168, 3) := by decide +kernel
theorem dX12_heedsLine_17 : decode cX12_heedsLine 17 = .ok (.istore_n 2, 1) := by decide +kernel
theorem dX12_heedsLine_18 : decode cX12_heedsLine 18 = .ok (.aload_n 0, 1) := by decide +kernel
theorem dX12_heedsLine_19 : decode cX12_heedsLine 19 = .ok (.getfield 103, 3) := by decide +kernel
theorem dX12_heedsLine_22 : decode cX12_heedsLine 22 = .ok (.ifCond .ne 34, 3) := by decide +kernel
theorem dX12_heedsLine_25 : decode cX12_heedsLine 25 = .ok (.iload_n 1, 1) := by decide +kernel
theorem dX12_heedsLine_26 : decode cX12_heedsLine 26 = .ok (.iload_n 2, 1) := by decide +kernel
theorem dX12_heedsLine_27 : decode cX12_heedsLine 27 = .ok (.if_icmp .eq 20, 3) := by decide +kernel
theorem dX12_heedsLine_30 : decode cX12_heedsLine 30 = .ok (.aload_n 0, 1) := by decide +kernel
theorem dX12_heedsLine_31 : decode cX12_heedsLine 31 = .ok (.getfield 23, 3) := by decide +kernel
theorem dX12_heedsLine_34 : decode cX12_heedsLine 34 = .ok (.bipush 77, 2) := by decide +kernel
theorem dX12_heedsLine_36 : decode cX12_heedsLine 36 = .ok (.bipush 7, 2) := by decide +kernel
theorem dX12_heedsLine_38 : decode cX12_heedsLine 38 = .ok (.iload_n 1, 1) := by decide +kernel
theorem dX12_heedsLine_39 : decode cX12_heedsLine 39 = .ok (.imul, 1) := by decide +kernel
theorem dX12_heedsLine_40 : decode cX12_heedsLine 40 = .ok (.iadd, 1) := by decide +kernel
theorem dX12_heedsLine_41 : decode cX12_heedsLine 41 = .ok (.iload_n 2, 1) := by decide +kernel
theorem dX12_heedsLine_42 : decode cX12_heedsLine 42 = .ok (.iadd, 1) := by decide +kernel
theorem dX12_heedsLine_43 : decode cX12_heedsLine 43 = .ok (.iaload, 1) := by decide +kernel
theorem dX12_heedsLine_44 : decode cX12_heedsLine 44 = .ok (.ifCond .le 12, 3) := by decide +kernel
theorem dX12_heedsLine_47 : decode cX12_heedsLine 47 = .ok (.aload_n 0, 1) := by decide +kernel
theorem dX12_heedsLine_48 : decode cX12_heedsLine 48 = .ok (.iconst 3, 1) := by decide +kernel
theorem dX12_heedsLine_49 : decode cX12_heedsLine 49 = .ok (.aload_n 0, 1) := by decide +kernel
theorem dX12_heedsLine_50 : decode cX12_heedsLine 50 = .ok (.getfield 84, 3) := by decide +kernel
theorem dX12_heedsLine_53 : decode cX12_heedsLine 53 = .ok (.invokevirtual 130, 3) := by decide +kernel
theorem dX12_heedsLine_56 : decode cX12_heedsLine 56 = .ok (.aload_n 0, 1) := by decide +kernel
theorem dX12_heedsLine_57 : decode cX12_heedsLine 57 = .ok (.getfield 103, 3) := by decide +kernel
theorem dX12_heedsLine_60 : decode cX12_heedsLine 60 = .ok (.ifCond .eq 4, 3) := by decide +kernel
theorem dX12_heedsLine_63 : decode cX12_heedsLine 63 = .ok (.return_, 1) := by decide +kernel
theorem dX12_heedsLine_64 : decode cX12_heedsLine 64 = .ok (.aload_n 0, 1) := by decide +kernel
theorem dX12_heedsLine_65 : decode cX12_heedsLine 65 = .ok (.invokevirtual 124, 3) := by decide +kernel
theorem dX12_heedsLine_68 : decode cX12_heedsLine 68 = .ok (.aload_n 0, 1) := by decide +kernel
theorem dX12_heedsLine_69 : decode cX12_heedsLine 69 = .ok (.ldc_w 284, 3) := by decide +kernel
theorem dX12_heedsLine_72 : decode cX12_heedsLine 72 = .ok (.iconst 1, 1) := by decide +kernel
theorem dX12_heedsLine_73 : decode cX12_heedsLine 73 = .ok (.bipush 9, 2) := by decide +kernel
theorem dX12_heedsLine_75 : decode cX12_heedsLine 75 = .ok (.invokevirtual 231, 3) := by decide +kernel
theorem dX12_heedsLine_78 : decode cX12_heedsLine 78 = .ok (.istore_n 3, 1) := by decide +kernel
theorem dX12_heedsLine_79 : decode cX12_heedsLine 79 = .ok (.aload_n 0, 1) := by decide +kernel
theorem dX12_heedsLine_80 : decode cX12_heedsLine 80 = .ok (.getfield 103, 3) := by decide +kernel
theorem dX12_heedsLine_83 : decode cX12_heedsLine 83 = .ok (.ifCond .eq 4, 3) := by decide +kernel
theorem dX12_heedsLine_86 : decode cX12_heedsLine 86 = .ok (.return_, 1) := by decide +kernel
theorem dX12_heedsLine_87 : decode cX12_heedsLine 87 = .ok (.aload_n 0, 1) := by decide +kernel
theorem dX12_heedsLine_88 : decode cX12_heedsLine 88 = .ok (.getfield 23, 3) := by decide +kernel
theorem dX12_heedsLine_91 : decode cX12_heedsLine 91 = .ok (.bipush 77, 2) := by decide +kernel
theorem dX12_heedsLine_93 : decode cX12_heedsLine 93 = .ok (.bipush 7, 2) := by decide +kernel
theorem dX12_heedsLine_95 : decode cX12_heedsLine 95 = .ok (.iload_n 1, 1) := by decide +kernel
theorem dX12_heedsLine_96 : decode cX12_heedsLine 96 = .ok (.imul, 1) := by decide +kernel
theorem dX12_heedsLine_97 : decode cX12_heedsLine 97 = .ok (.iadd, 1) := by decide +kernel
theorem dX12_heedsLine_98 : decode cX12_heedsLine 98 = .ok (.iload_n 2, 1) := by decide +kernel
theorem dX12_heedsLine_99 : decode cX12_heedsLine 99 = .ok (.iadd, 1) := by decide +kernel
theorem dX12_heedsLine_100 : decode cX12_heedsLine 100 = .ok (.iload_n 3, 1) := by decide +kernel
theorem dX12_heedsLine_101 : decode cX12_heedsLine 101 = .ok (.iastore, 1) := by decide +kernel
theorem dX12_heedsLine_102 : decode cX12_heedsLine 102 = .ok (.aload_n 0, 1) := by decide +kernel
theorem dX12_heedsLine_103 : decode cX12_heedsLine 103 = .ok (.getfield 23, 3) := by decide +kernel
theorem dX12_heedsLine_106 : decode cX12_heedsLine 106 = .ok (.bipush 6, 2) := by decide +kernel
theorem dX12_heedsLine_108 : decode cX12_heedsLine 108 = .ok (.dup2, 1) := by decide +kernel
theorem dX12_heedsLine_109 : decode cX12_heedsLine 109 = .ok (.iaload, 1) := by decide +kernel
theorem dX12_heedsLine_110 : decode cX12_heedsLine 110 = .ok (.iconst 1, 1) := by decide +kernel
theorem dX12_heedsLine_111 : decode cX12_heedsLine 111 = .ok (.iadd, 1) := by decide +kernel
theorem dX12_heedsLine_112 : decode cX12_heedsLine 112 = .ok (.iastore, 1) := by decide +kernel
theorem dX12_heedsLine_113 : decode cX12_heedsLine 113 = .ok (.return_, 1) := by decide +kernel
theorem dX12_beliefLine_0 : decode cX12_beliefLine 0 = .ok (.aload_n 0, 1) := by decide +kernel
theorem dX12_beliefLine_1 : decode cX12_beliefLine 1 = .ok (.getfield 103, 3) := by decide +kernel
theorem dX12_beliefLine_4 : decode cX12_beliefLine 4 = .ok (.ifCond .eq 4, 3) := by decide +kernel
theorem dX12_beliefLine_7 : decode cX12_beliefLine 7 = .ok (.return_, 1) := by decide +kernel
theorem dX12_beliefLine_8 : decode cX12_beliefLine 8 = .ok (.aload_n 0, 1) := by decide +kernel
theorem dX12_beliefLine_9 : decode cX12_beliefLine 9 = .ok (.invokevirtual 168, 3) := by decide +kernel
theorem dX12_beliefLine_12 : decode cX12_beliefLine 12 = .ok (.istore_n 2, 1) := by decide +kernel
theorem dX12_beliefLine_13 : decode cX12_beliefLine 13 = .ok (.aload_n 0, 1) := by decide +kernel
theorem dX12_beliefLine_14 : decode cX12_beliefLine 14 = .ok (.getfield 103, 3) := by decide +kernel
theorem dX12_beliefLine_17 : decode cX12_beliefLine 17 = .ok (.ifCond .ne 24, 3) := by decide +kernel
theorem dX12_beliefLine_20 : decode cX12_beliefLine 20 = .ok (.aload_n 0, 1) := by decide +kernel
theorem dX12_beliefLine_21 : decode cX12_beliefLine 21 = .ok (.getfield 23, 3) := by decide +kernel
theorem dX12_beliefLine_24 : decode cX12_beliefLine 24 = .ok (.bipush 63, 2) := by decide +kernel
theorem dX12_beliefLine_26 : decode cX12_beliefLine 26 = .ok (.iload_n 2, 1) := by decide +kernel
theorem dX12_beliefLine_27 : decode cX12_beliefLine 27 = .ok (.iadd, 1) := by decide +kernel
theorem dX12_beliefLine_28 : decode cX12_beliefLine 28 = .ok (.iaload, 1) := by decide +kernel
theorem dX12_beliefLine_29 : decode cX12_beliefLine 29 = .ok (.ifCond .le 12, 3) := by decide +kernel
theorem dX12_beliefLine_32 : decode cX12_beliefLine 32 = .ok (.aload_n 0, 1) := by decide +kernel
theorem dX12_beliefLine_33 : decode cX12_beliefLine 33 = .ok (.iconst 3, 1) := by decide +kernel
theorem dX12_beliefLine_34 : decode cX12_beliefLine 34 = .ok (.aload_n 0, 1) := by decide +kernel
theorem dX12_beliefLine_35 : decode cX12_beliefLine 35 = .ok (.getfield 84, 3) := by decide +kernel
theorem dX12_beliefLine_38 : decode cX12_beliefLine 38 = .ok (.invokevirtual 130, 3) := by decide +kernel
theorem dX12_beliefLine_41 : decode cX12_beliefLine 41 = .ok (.aload_n 0, 1) := by decide +kernel
theorem dX12_beliefLine_42 : decode cX12_beliefLine 42 = .ok (.getfield 103, 3) := by decide +kernel
theorem dX12_beliefLine_45 : decode cX12_beliefLine 45 = .ok (.ifCond .eq 4, 3) := by decide +kernel
theorem dX12_beliefLine_48 : decode cX12_beliefLine 48 = .ok (.return_, 1) := by decide +kernel
theorem dX12_beliefLine_49 : decode cX12_beliefLine 49 = .ok (.aload_n 0, 1) := by decide +kernel
theorem dX12_beliefLine_50 : decode cX12_beliefLine 50 = .ok (.invokevirtual 124, 3) := by decide +kernel
theorem dX12_beliefLine_53 : decode cX12_beliefLine 53 = .ok (.aload_n 0, 1) := by decide +kernel
theorem dX12_beliefLine_54 : decode cX12_beliefLine 54 = .ok (.getfield 23, 3) := by decide +kernel
theorem dX12_beliefLine_57 : decode cX12_beliefLine 57 = .ok (.bipush 63, 2) := by decide +kernel
theorem dX12_beliefLine_59 : decode cX12_beliefLine 59 = .ok (.iload_n 2, 1) := by decide +kernel
theorem dX12_beliefLine_60 : decode cX12_beliefLine 60 = .ok (.iadd, 1) := by decide +kernel
theorem dX12_beliefLine_61 : decode cX12_beliefLine 61 = .ok (.iconst 1, 1) := by decide +kernel
theorem dX12_beliefLine_62 : decode cX12_beliefLine 62 = .ok (.iastore, 1) := by decide +kernel
theorem dX12_beliefLine_63 : decode cX12_beliefLine 63 = .ok (.aload_n 0, 1) := by decide +kernel
theorem dX12_beliefLine_64 : decode cX12_beliefLine 64 = .ok (.getfield 23, 3) := by decide +kernel
theorem dX12_beliefLine_67 : decode cX12_beliefLine 67 = .ok (.bipush 35, 2) := by decide +kernel
theorem dX12_beliefLine_69 : decode cX12_beliefLine 69 = .ok (.iconst 4, 1) := by decide +kernel
theorem dX12_beliefLine_70 : decode cX12_beliefLine 70 = .ok (.iload_n 2, 1) := by decide +kernel
theorem dX12_beliefLine_71 : decode cX12_beliefLine 71 = .ok (.imul, 1) := by decide +kernel
theorem dX12_beliefLine_72 : decode cX12_beliefLine 72 = .ok (.iadd, 1) := by decide +kernel
theorem dX12_beliefLine_73 : decode cX12_beliefLine 73 = .ok (.iconst 3, 1) := by decide +kernel
theorem dX12_beliefLine_74 : decode cX12_beliefLine 74 = .ok (.iadd, 1) := by decide +kernel
theorem dX12_beliefLine_75 : decode cX12_beliefLine 75 = .ok (.iload_n 1, 1) := by decide +kernel
theorem dX12_beliefLine_76 : decode cX12_beliefLine 76 = .ok (.iastore, 1) := by decide +kernel
theorem dX12_beliefLine_77 : decode cX12_beliefLine 77 = .ok (.return_, 1) := by decide +kernel
theorem dX12_hourLine_0 : decode cX12_hourLine 0 = .ok (.aload_n 0, 1) := by decide +kernel
theorem dX12_hourLine_1 : decode cX12_hourLine 1 = .ok (.getfield 103, 3) := by decide +kernel
theorem dX12_hourLine_4 : decode cX12_hourLine 4 = .ok (.ifCond .eq 4, 3) := by decide +kernel
theorem dX12_hourLine_7 : decode cX12_hourLine 7 = .ok (.return_, 1) := by decide +kernel
theorem dX12_hourLine_8 : decode cX12_hourLine 8 = .ok (.aload_n 0, 1) := by decide +kernel
theorem dX12_hourLine_9 : decode cX12_hourLine 9 = .ok (.iconst 0, 1) := by decide +kernel
theorem dX12_hourLine_10 : decode cX12_hourLine 10 = .ok (.bipush 99, 2) := by decide +kernel
theorem dX12_hourLine_12 : decode cX12_hourLine 12 = .ok (.invokevirtual 171, 3) := by decide +kernel
theorem dX12_hourLine_15 : decode cX12_hourLine 15 = .ok (.istore_n 2, 1) := by decide +kernel
theorem dX12_hourLine_16 : decode cX12_hourLine 16 = .ok (.aload_n 0, 1) := by decide +kernel
theorem dX12_hourLine_17 : decode cX12_hourLine 17 = .ok (.getfield 103, 3) := by decide +kernel
theorem dX12_hourLine_20 : decode cX12_hourLine 20 = .ok (.ifCond .ne 24, 3) := by decide +kernel
theorem dX12_hourLine_23 : decode cX12_hourLine 23 = .ok (.aload_n 0, 1) := by decide +kernel
theorem dX12_hourLine_24 : decode cX12_hourLine 24 = .ok (.getfield 23, 3) := by decide +kernel
theorem dX12_hourLine_27 : decode cX12_hourLine 27 = .ok (.bipush 126, 2) := by decide +kernel
theorem dX12_hourLine_29 : decode cX12_hourLine 29 = .ok (.iload_n 2, 1) := by decide +kernel
theorem dX12_hourLine_30 : decode cX12_hourLine 30 = .ok (.iadd, 1) := by decide +kernel
theorem dX12_hourLine_31 : decode cX12_hourLine 31 = .ok (.iaload, 1) := by decide +kernel
theorem dX12_hourLine_32 : decode cX12_hourLine 32 = .ok (.ifCond .le 12, 3) := by decide +kernel
theorem dX12_hourLine_35 : decode cX12_hourLine 35 = .ok (.aload_n 0, 1) := by decide +kernel
theorem dX12_hourLine_36 : decode cX12_hourLine 36 = .ok (.iconst 3, 1) := by decide +kernel
theorem dX12_hourLine_37 : decode cX12_hourLine 37 = .ok (.aload_n 0, 1) := by decide +kernel
theorem dX12_hourLine_38 : decode cX12_hourLine 38 = .ok (.getfield 84, 3) := by decide +kernel
theorem dX12_hourLine_41 : decode cX12_hourLine 41 = .ok (.invokevirtual 130, 3) := by decide +kernel
theorem dX12_hourLine_44 : decode cX12_hourLine 44 = .ok (.aload_n 0, 1) := by decide +kernel
theorem dX12_hourLine_45 : decode cX12_hourLine 45 = .ok (.getfield 103, 3) := by decide +kernel
theorem dX12_hourLine_48 : decode cX12_hourLine 48 = .ok (.ifCond .eq 4, 3) := by decide +kernel
theorem dX12_hourLine_51 : decode cX12_hourLine 51 = .ok (.return_, 1) := by decide +kernel
theorem dX12_hourLine_52 : decode cX12_hourLine 52 = .ok (.aload_n 0, 1) := by decide +kernel
theorem dX12_hourLine_53 : decode cX12_hourLine 53 = .ok (.invokevirtual 124, 3) := by decide +kernel
theorem dX12_hourLine_56 : decode cX12_hourLine 56 = .ok (.aload_n 0, 1) := by decide +kernel
theorem dX12_hourLine_57 : decode cX12_hourLine 57 = .ok (.getfield 23, 3) := by decide +kernel
theorem dX12_hourLine_60 : decode cX12_hourLine 60 = .ok (.bipush 126, 2) := by decide +kernel
theorem dX12_hourLine_62 : decode cX12_hourLine 62 = .ok (.iload_n 2, 1) := by decide +kernel
theorem dX12_hourLine_63 : decode cX12_hourLine 63 = .ok (.iadd, 1) := by decide +kernel
theorem dX12_hourLine_64 : decode cX12_hourLine 64 = .ok (.iload_n 1, 1) := by decide +kernel
theorem dX12_hourLine_65 : decode cX12_hourLine 65 = .ok (.iastore, 1) := by decide +kernel
theorem dX12_hourLine_66 : decode cX12_hourLine 66 = .ok (.aload_n 0, 1) := by decide +kernel
theorem dX12_hourLine_67 : decode cX12_hourLine 67 = .ok (.getfield 23, 3) := by decide +kernel
theorem dX12_hourLine_70 : decode cX12_hourLine 70 = .ok (.iload_n 1, 1) := by decide +kernel
theorem dX12_hourLine_71 : decode cX12_hourLine 71 = .ok (.iconst 1, 1) := by decide +kernel
theorem dX12_hourLine_72 : decode cX12_hourLine 72 = .ok (.if_icmp .ne 8, 3) := by decide +kernel
theorem dX12_hourLine_75 : decode cX12_hourLine 75 = .ok (.bipush 7, 2) := by decide +kernel
theorem dX12_hourLine_77 : decode cX12_hourLine 77 = .ok (.goto 5, 3) := by decide +kernel
theorem dX12_hourLine_80 : decode cX12_hourLine 80 = .ok (.bipush 8, 2) := by decide +kernel
theorem dX12_hourLine_82 : decode cX12_hourLine 82 = .ok (.dup2, 1) := by decide +kernel
theorem dX12_hourLine_83 : decode cX12_hourLine 83 = .ok (.iaload, 1) := by decide +kernel
theorem dX12_hourLine_84 : decode cX12_hourLine 84 = .ok (.iconst 1, 1) := by decide +kernel
theorem dX12_hourLine_85 : decode cX12_hourLine 85 = .ok (.iadd, 1) := by decide +kernel
theorem dX12_hourLine_86 : decode cX12_hourLine 86 = .ok (.iastore, 1) := by decide +kernel
theorem dX12_hourLine_87 : decode cX12_hourLine 87 = .ok (.return_, 1) := by decide +kernel
theorem dX12_fault_0 : decode cX12_fault 0 = .ok (.aload_n 0, 1) := by decide +kernel
theorem dX12_fault_1 : decode cX12_fault 1 = .ok (.iconst 0, 1) := by decide +kernel
theorem dX12_fault_2 : decode cX12_fault 2 = .ok (.putfield 65, 3) := by decide +kernel
theorem dX12_fault_5 : decode cX12_fault 5 = .ok (.aload_n 0, 1) := by decide +kernel
theorem dX12_fault_6 : decode cX12_fault 6 = .ok (.getfield 107, 3) := by decide +kernel
theorem dX12_fault_9 : decode cX12_fault 9 = .ok (.ireturn, 1) := by decide +kernel
theorem dX12_where_0 : decode cX12_where 0 = .ok (.aload_n 0, 1) := by decide +kernel
theorem dX12_where_1 : decode cX12_where 1 = .ok (.iconst 0, 1) := by decide +kernel
theorem dX12_where_2 : decode cX12_where 2 = .ok (.putfield 65, 3) := by decide +kernel
theorem dX12_where_5 : decode cX12_where 5 = .ok (.aload_n 0, 1) := by decide +kernel
theorem dX12_where_6 : decode cX12_where 6 = .ok (.getfield 68, 3) := by decide +kernel
theorem dX12_where_9 : decode cX12_where 9 = .ok (.iconst 4, 1) := by decide +kernel
theorem dX12_where_10 : decode cX12_where 10 = .ok (.if_icmp .ne 10, 3) := by decide +kernel
theorem dX12_where_13 : decode cX12_where 13 = .ok (.aload_n 0, 1) := by decide +kernel
theorem dX12_where_14 : decode cX12_where 14 = .ok (.getfield 13, 3) := by decide +kernel
theorem dX12_where_17 : decode cX12_where 17 = .ok (.goto 4, 3) := by decide +kernel
theorem dX12_where_20 : decode cX12_where 20 = .ok (.iconst (-1), 1) := by decide +kernel
theorem dX12_where_21 : decode cX12_where 21 = .ok (.ireturn, 1) := by decide +kernel
theorem dX12_isBench_0 : decode cX12_isBench 0 = .ok (.aload_n 0, 1) := by decide +kernel
theorem dX12_isBench_1 : decode cX12_isBench 1 = .ok (.getfield 194, 3) := by decide +kernel
theorem dX12_isBench_4 : decode cX12_isBench 4 = .ok (.ifCond .eq 23, 3) := by decide +kernel
theorem dX12_isBench_7 : decode cX12_isBench 7 = .ok (.iload_n 1, 1) := by decide +kernel
theorem dX12_isBench_8 : decode cX12_isBench 8 = .ok (.iconst 0, 1) := by decide +kernel
theorem dX12_isBench_9 : decode cX12_isBench 9 = .ok (.aload_n 0, 1) := by decide +kernel
theorem dX12_isBench_10 : decode cX12_isBench 10 = .ok (.getfield 20, 3) := by decide +kernel
theorem dX12_isBench_13 : decode cX12_isBench 13 = .ok (.iconst 3, 1) := by decide +kernel
theorem dX12_isBench_14 : decode cX12_isBench 14 = .ok (.iaload, 1) := by decide +kernel
theorem dX12_isBench_15 : decode cX12_isBench 15 = .ok (.iconst 1, 1) := by decide +kernel
theorem dX12_isBench_16 : decode cX12_isBench 16 = .ok (.isub, 1) := by decide +kernel
theorem dX12_isBench_17 : decode cX12_isBench 17 = .ok (.invokestatic 160, 3) := by decide +kernel
theorem dX12_isBench_20 : decode cX12_isBench 20 = .ok (.ifCond .eq 7, 3) := by decide +kernel
theorem dX12_isBench_23 : decode cX12_isBench 23 = .ok (.iconst 1, 1) := by decide +kernel
theorem dX12_isBench_24 : decode cX12_isBench 24 = .ok (.goto 4, 3) := by decide +kernel
theorem dX12_isBench_27 : decode cX12_isBench 27 = .ok (.iconst 0, 1) := by decide +kernel
theorem dX12_isBench_28 : decode cX12_isBench 28 = .ok (.ireturn, 1) := by decide +kernel
theorem dX12_isPerson_0 : decode cX12_isPerson 0 = .ok (.aload_n 0, 1) := by decide +kernel
theorem dX12_isPerson_1 : decode cX12_isPerson 1 = .ok (.getfield 194, 3) := by decide +kernel
theorem dX12_isPerson_4 : decode cX12_isPerson 4 = .ok (.ifCond .eq 23, 3) := by decide +kernel
theorem dX12_isPerson_7 : decode cX12_isPerson 7 = .ok (.iload_n 1, 1) := by decide +kernel
theorem dX12_isPerson_8 : decode cX12_isPerson 8 = .ok (.iconst 0, 1) := by decide +kernel
theorem dX12_isPerson_9 : decode cX12_isPerson 9 = .ok (.aload_n 0, 1) := by decide +kernel
theorem dX12_isPerson_10 : decode cX12_isPerson 10 = .ok (.getfield 20, 3) := by decide +kernel
theorem dX12_isPerson_13 : decode cX12_isPerson 13 = .ok (.iconst 4, 1) := by decide +kernel
theorem dX12_isPerson_14 : decode cX12_isPerson 14 = .ok (.iaload, 1) := by decide +kernel
theorem dX12_isPerson_15 : decode cX12_isPerson 15 = .ok (.iconst 1, 1) := by decide +kernel
theorem dX12_isPerson_16 : decode cX12_isPerson 16 = .ok (.isub, 1) := by decide +kernel
theorem dX12_isPerson_17 : decode cX12_isPerson 17 = .ok (.invokestatic 160, 3) := by decide +kernel
theorem dX12_isPerson_20 : decode cX12_isPerson 20 = .ok (.ifCond .eq 7, 3) := by decide +kernel
theorem dX12_isPerson_23 : decode cX12_isPerson 23 = .ok (.iconst 1, 1) := by decide +kernel
theorem dX12_isPerson_24 : decode cX12_isPerson 24 = .ok (.goto 4, 3) := by decide +kernel
theorem dX12_isPerson_27 : decode cX12_isPerson 27 = .ok (.iconst 0, 1) := by decide +kernel
theorem dX12_isPerson_28 : decode cX12_isPerson 28 = .ok (.ireturn, 1) := by decide +kernel
theorem dX12_kindOf_0 : decode cX12_kindOf 0 = .ok (.aload_n 0, 1) := by decide +kernel
theorem dX12_kindOf_1 : decode cX12_kindOf 1 = .ok (.getfield 20, 3) := by decide +kernel
theorem dX12_kindOf_4 : decode cX12_kindOf 4 = .ok (.bipush 35, 2) := by decide +kernel
theorem dX12_kindOf_6 : decode cX12_kindOf 6 = .ok (.iconst 4, 1) := by decide +kernel
theorem dX12_kindOf_7 : decode cX12_kindOf 7 = .ok (.iload_n 1, 1) := by decide +kernel
theorem dX12_kindOf_8 : decode cX12_kindOf 8 = .ok (.imul, 1) := by decide +kernel
theorem dX12_kindOf_9 : decode cX12_kindOf 9 = .ok (.iadd, 1) := by decide +kernel
theorem dX12_kindOf_10 : decode cX12_kindOf 10 = .ok (.iaload, 1) := by decide +kernel
theorem dX12_kindOf_11 : decode cX12_kindOf 11 = .ok (.ireturn, 1) := by decide +kernel
theorem dX12_coldOf_0 : decode cX12_coldOf 0 = .ok (.aload_n 0, 1) := by decide +kernel
theorem dX12_coldOf_1 : decode cX12_coldOf 1 = .ok (.getfield 20, 3) := by decide +kernel
theorem dX12_coldOf_4 : decode cX12_coldOf 4 = .ok (.bipush 35, 2) := by decide +kernel
theorem dX12_coldOf_6 : decode cX12_coldOf 6 = .ok (.iconst 4, 1) := by decide +kernel
theorem dX12_coldOf_7 : decode cX12_coldOf 7 = .ok (.iload_n 1, 1) := by decide +kernel
theorem dX12_coldOf_8 : decode cX12_coldOf 8 = .ok (.imul, 1) := by decide +kernel
theorem dX12_coldOf_9 : decode cX12_coldOf 9 = .ok (.iadd, 1) := by decide +kernel
theorem dX12_coldOf_10 : decode cX12_coldOf 10 = .ok (.iconst 1, 1) := by decide +kernel
theorem dX12_coldOf_11 : decode cX12_coldOf 11 = .ok (.iadd, 1) := by decide +kernel
theorem dX12_coldOf_12 : decode cX12_coldOf 12 = .ok (.iaload, 1) := by decide +kernel
theorem dX12_coldOf_13 : decode cX12_coldOf 13 = .ok (.ireturn, 1) := by decide +kernel
theorem dX12_seatsOf_0 : decode cX12_seatsOf 0 = .ok (.aload_n 0, 1) := by decide +kernel
theorem dX12_seatsOf_1 : decode cX12_seatsOf 1 = .ok (.getfield 20, 3) := by decide +kernel
theorem dX12_seatsOf_4 : decode cX12_seatsOf 4 = .ok (.bipush 11, 2) := by decide +kernel
theorem dX12_seatsOf_6 : decode cX12_seatsOf 6 = .ok (.iconst 4, 1) := by decide +kernel
theorem dX12_seatsOf_7 : decode cX12_seatsOf 7 = .ok (.iload_n 1, 1) := by decide +kernel
theorem dX12_seatsOf_8 : decode cX12_seatsOf 8 = .ok (.imul, 1) := by decide +kernel
theorem dX12_seatsOf_9 : decode cX12_seatsOf 9 = .ok (.iadd, 1) := by decide +kernel
theorem dX12_seatsOf_10 : decode cX12_seatsOf 10 = .ok (.iconst 2, 1) := by decide +kernel
theorem dX12_seatsOf_11 : decode cX12_seatsOf 11 = .ok (.iadd, 1) := by decide +kernel
theorem dX12_seatsOf_12 : decode cX12_seatsOf 12 = .ok (.iaload, 1) := by decide +kernel
theorem dX12_seatsOf_13 : decode cX12_seatsOf 13 = .ok (.ireturn, 1) := by decide +kernel
theorem dX12_rentOf_0 : decode cX12_rentOf 0 = .ok (.aload_n 0, 1) := by decide +kernel
theorem dX12_rentOf_1 : decode cX12_rentOf 1 = .ok (.getfield 20, 3) := by decide +kernel
theorem dX12_rentOf_4 : decode cX12_rentOf 4 = .ok (.bipush 11, 2) := by decide +kernel
theorem dX12_rentOf_6 : decode cX12_rentOf 6 = .ok (.iconst 4, 1) := by decide +kernel
theorem dX12_rentOf_7 : decode cX12_rentOf 7 = .ok (.iload_n 1, 1) := by decide +kernel
theorem dX12_rentOf_8 : decode cX12_rentOf 8 = .ok (.imul, 1) := by decide +kernel
theorem dX12_rentOf_9 : decode cX12_rentOf 9 = .ok (.iadd, 1) := by decide +kernel
theorem dX12_rentOf_10 : decode cX12_rentOf 10 = .ok (.iconst 3, 1) := by decide +kernel
theorem dX12_rentOf_11 : decode cX12_rentOf 11 = .ok (.iadd, 1) := by decide +kernel
theorem dX12_rentOf_12 : decode cX12_rentOf 12 = .ok (.iaload, 1) := by decide +kernel
theorem dX12_rentOf_13 : decode cX12_rentOf 13 = .ok (.ireturn, 1) := by decide +kernel
theorem dX12_heatBy_0 : decode cX12_heatBy 0 = .ok (.aload_n 0, 1) := by decide +kernel
theorem dX12_heatBy_1 : decode cX12_heatBy 1 = .ok (.getfield 20, 3) := by decide +kernel
theorem dX12_heatBy_4 : decode cX12_heatBy 4 = .ok (.bipush 11, 2) := by decide +kernel
theorem dX12_heatBy_6 : decode cX12_heatBy 6 = .ok (.iconst 4, 1) := by decide +kernel
theorem dX12_heatBy_7 : decode cX12_heatBy 7 = .ok (.iload_n 1, 1) := by decide +kernel
theorem dX12_heatBy_8 : decode cX12_heatBy 8 = .ok (.imul, 1) := by decide +kernel
theorem dX12_heatBy_9 : decode cX12_heatBy 9 = .ok (.iadd, 1) := by decide +kernel
theorem dX12_heatBy_10 : decode cX12_heatBy 10 = .ok (.iconst 1, 1) := by decide +kernel
theorem dX12_heatBy_11 : decode cX12_heatBy 11 = .ok (.iadd, 1) := by decide +kernel
theorem dX12_heatBy_12 : decode cX12_heatBy 12 = .ok (.iaload, 1) := by decide +kernel
theorem dX12_heatBy_13 : decode cX12_heatBy 13 = .ok (.istore_n 3, 1) := by decide +kernel
theorem dX12_heatBy_14 : decode cX12_heatBy 14 = .ok (.iload_n 2, 1) := by decide +kernel
theorem dX12_heatBy_15 : decode cX12_heatBy 15 = .ok (.iconst 4, 1) := by decide +kernel
theorem dX12_heatBy_16 : decode cX12_heatBy 16 = .ok (.iload_n 3, 1) := by decide +kernel
theorem dX12_heatBy_17 : decode cX12_heatBy 17 = .ok (.bipush 10, 2) := by decide +kernel
theorem dX12_heatBy_19 : decode cX12_heatBy 19 = .ok (.irem, 1) := by decide +kernel
theorem dX12_heatBy_20 : decode cX12_heatBy 20 = .ok (.aload_n 0, 1) := by decide +kernel
theorem dX12_heatBy_21 : decode cX12_heatBy 21 = .ok (.getfield 20, 3) := by decide +kernel
theorem dX12_heatBy_24 : decode cX12_heatBy 24 = .ok (.bipush 9, 2) := by decide +kernel
theorem dX12_heatBy_26 : decode cX12_heatBy 26 = .ok (.iaload, 1) := by decide +kernel
theorem dX12_heatBy_27 : decode cX12_heatBy 27 = .ok (.bipush 10, 2) := by decide +kernel
theorem dX12_heatBy_29 : decode cX12_heatBy 29 = .ok (.irem, 1) := by decide +kernel
theorem dX12_heatBy_30 : decode cX12_heatBy 30 = .ok (.invokestatic 286, 3) := by decide +kernel
theorem dX12_heatBy_33 : decode cX12_heatBy 33 = .ok (.iload_n 3, 1) := by decide +kernel
theorem dX12_heatBy_34 : decode cX12_heatBy 34 = .ok (.bipush 10, 2) := by decide +kernel
theorem dX12_heatBy_36 : decode cX12_heatBy 36 = .ok (.idiv, 1) := by decide +kernel
theorem dX12_heatBy_37 : decode cX12_heatBy 37 = .ok (.aload_n 0, 1) := by decide +kernel
theorem dX12_heatBy_38 : decode cX12_heatBy 38 = .ok (.getfield 20, 3) := by decide +kernel
theorem dX12_heatBy_41 : decode cX12_heatBy 41 = .ok (.bipush 9, 2) := by decide +kernel
theorem dX12_heatBy_43 : decode cX12_heatBy 43 = .ok (.iaload, 1) := by decide +kernel
theorem dX12_heatBy_44 : decode cX12_heatBy 44 = .ok (.bipush 10, 2) := by decide +kernel
theorem dX12_heatBy_46 : decode cX12_heatBy 46 = .ok (.idiv, 1) := by decide +kernel
theorem dX12_heatBy_47 : decode cX12_heatBy 47 = .ok (.invokestatic 286, 3) := by decide +kernel
theorem dX12_heatBy_50 : decode cX12_heatBy 50 = .ok (.iadd, 1) := by decide +kernel
theorem dX12_heatBy_51 : decode cX12_heatBy 51 = .ok (.imul, 1) := by decide +kernel
theorem dX12_heatBy_52 : decode cX12_heatBy 52 = .ok (.isub, 1) := by decide +kernel
theorem dX12_heatBy_53 : decode cX12_heatBy 53 = .ok (.istore 4, 2) := by decide +kernel
theorem dX12_heatBy_55 : decode cX12_heatBy 55 = .ok (.iload 4, 2) := by decide +kernel
theorem dX12_heatBy_57 : decode cX12_heatBy 57 = .ok (.ifCond .ge 7, 3) := by decide +kernel
theorem dX12_heatBy_60 : decode cX12_heatBy 60 = .ok (.iconst 0, 1) := by decide +kernel
theorem dX12_heatBy_61 : decode cX12_heatBy 61 = .ok (.goto 5, 3) := by decide +kernel
theorem dX12_heatBy_64 : decode cX12_heatBy 64 = .ok (.iload 4, 2) := by decide +kernel
theorem dX12_heatBy_66 : decode cX12_heatBy 66 = .ok (.ireturn, 1) := by decide +kernel
theorem dX12_heatOf_0 : decode cX12_heatOf 0 = .ok (.aload_n 0, 1) := by decide +kernel
theorem dX12_heatOf_1 : decode cX12_heatOf 1 = .ok (.iload_n 1, 1) := by decide +kernel
theorem dX12_heatOf_2 : decode cX12_heatOf 2 = .ok (.aload_n 0, 1) := by decide +kernel
theorem dX12_heatOf_3 : decode cX12_heatOf 3 = .ok (.getfield 20, 3) := by decide +kernel
theorem dX12_heatOf_6 : decode cX12_heatOf 6 = .ok (.iconst 2, 1) := by decide +kernel
theorem dX12_heatOf_7 : decode cX12_heatOf 7 = .ok (.iaload, 1) := by decide +kernel
theorem dX12_heatOf_8 : decode cX12_heatOf 8 = .ok (.invokevirtual 289, 3) := by decide +kernel
theorem dX12_heatOf_11 : decode cX12_heatOf 11 = .ok (.ireturn, 1) := by decide +kernel
theorem dX12_onBench_0 : decode cX12_onBench 0 = .ok (.iconst 0, 1) := by decide +kernel
theorem dX12_onBench_1 : decode cX12_onBench 1 = .ok (.istore_n 3, 1) := by decide +kernel
theorem dX12_onBench_2 : decode cX12_onBench 2 = .ok (.iconst 0, 1) := by decide +kernel
theorem dX12_onBench_3 : decode cX12_onBench 3 = .ok (.istore 4, 2) := by decide +kernel
theorem dX12_onBench_5 : decode cX12_onBench 5 = .ok (.iload 4, 2) := by decide +kernel
theorem dX12_onBench_7 : decode cX12_onBench 7 = .ok (.aload_n 0, 1) := by decide +kernel
theorem dX12_onBench_8 : decode cX12_onBench 8 = .ok (.getfield 20, 3) := by decide +kernel
theorem dX12_onBench_11 : decode cX12_onBench 11 = .ok (.iconst 4, 1) := by decide +kernel
theorem dX12_onBench_12 : decode cX12_onBench 12 = .ok (.iaload, 1) := by decide +kernel
theorem dX12_onBench_13 : decode cX12_onBench 13 = .ok (.if_icmp .ge 30, 3) := by decide +kernel
theorem dX12_onBench_16 : decode cX12_onBench 16 = .ok (.iload_n 3, 1) := by decide +kernel
theorem dX12_onBench_17 : decode cX12_onBench 17 = .ok (.aload_n 1, 1) := by decide +kernel
theorem dX12_onBench_18 : decode cX12_onBench 18 = .ok (.iload 4, 2) := by decide +kernel
theorem dX12_onBench_20 : decode cX12_onBench 20 = .ok (.iaload, 1) := by decide +kernel
theorem dX12_onBench_21 : decode cX12_onBench 21 = .ok (.iload_n 2, 1) := by decide +kernel
theorem dX12_onBench_22 : decode cX12_onBench 22 = .ok (.iconst 1, 1) := by decide +kernel
theorem dX12_onBench_23 : decode cX12_onBench 23 = .ok (.iadd, 1) := by decide +kernel
theorem dX12_onBench_24 : decode cX12_onBench 24 = .ok (.if_icmp .ne 10, 3) := by decide +kernel
theorem dX12_onBench_27 : decode cX12_onBench 27 = .ok (.iconst 1, 1) := by decide +kernel
theorem dX12_onBench_28 : decode cX12_onBench 28 = .ok (.iload 4, 2) := by decide +kernel
theorem dX12_onBench_30 : decode cX12_onBench 30 = .ok (.ishl, 1) := by decide +kernel
theorem dX12_onBench_31 : decode cX12_onBench 31 = .ok (.goto 4, 3) := by decide +kernel
theorem dX12_onBench_34 : decode cX12_onBench 34 = .ok (.iconst 0, 1) := by decide +kernel
theorem dX12_onBench_35 : decode cX12_onBench 35 = .ok (.ior, 1) := by decide +kernel
theorem dX12_onBench_36 : decode cX12_onBench 36 = .ok (.istore_n 3, 1) := by decide +kernel
theorem dX12_onBench_37 : decode cX12_onBench 37 = .ok (.iinc 4 1, 3) := by decide +kernel
theorem dX12_onBench_40 : decode cX12_onBench 40 = .ok (.goto (-35), 3) := by decide +kernel
theorem dX12_onBench_43 : decode cX12_onBench 43 = .ok (.iload_n 3, 1) := by decide +kernel
theorem dX12_onBench_44 : decode cX12_onBench 44 = .ok (.ireturn, 1) := by decide +kernel
theorem dX12_warmthOf_0 : decode cX12_warmthOf 0 = .ok (.aload_n 0, 1) := by decide +kernel
theorem dX12_warmthOf_1 : decode cX12_warmthOf 1 = .ok (.iload_n 1, 1) := by decide +kernel
theorem dX12_warmthOf_2 : decode cX12_warmthOf 2 = .ok (.invokevirtual 292, 3) := by decide +kernel
theorem dX12_warmthOf_5 : decode cX12_warmthOf 5 = .ok (.iconst 3, 1) := by decide +kernel
theorem dX12_warmthOf_6 : decode cX12_warmthOf 6 = .ok (.aload_n 0, 1) := by decide +kernel
theorem dX12_warmthOf_7 : decode cX12_warmthOf 7 = .ok (.aload_n 0, 1) := by decide +kernel
theorem dX12_warmthOf_8 : decode cX12_warmthOf 8 = .ok (.getfield 26, 3) := by decide +kernel
theorem dX12_warmthOf_11 : decode cX12_warmthOf 11 = .ok (.iload_n 1, 1) := by decide +kernel
theorem dX12_warmthOf_12 : decode cX12_warmthOf 12 = .ok (.invokevirtual 295, 3) := by decide +kernel
theorem dX12_warmthOf_15 : decode cX12_warmthOf 15 = .ok (.invokestatic 299, 3) := by decide +kernel
theorem dX12_warmthOf_18 : decode cX12_warmthOf 18 = .ok (.imul, 1) := by decide +kernel
theorem dX12_warmthOf_19 : decode cX12_warmthOf 19 = .ok (.iadd, 1) := by decide +kernel
theorem dX12_warmthOf_20 : decode cX12_warmthOf 20 = .ok (.ireturn, 1) := by decide +kernel
theorem dX12_mayOn_0 : decode cX12_mayOn 0 = .ok (.aload_n 0, 1) := by decide +kernel
theorem dX12_mayOn_1 : decode cX12_mayOn 1 = .ok (.iload_n 1, 1) := by decide +kernel
theorem dX12_mayOn_2 : decode cX12_mayOn 2 = .ok (.invokevirtual 302, 3) := by decide +kernel
theorem dX12_mayOn_5 : decode cX12_mayOn 5 = .ok (.aload_n 0, 1) := by decide +kernel
theorem dX12_mayOn_6 : decode cX12_mayOn 6 = .ok (.getfield 20, 3) := by decide +kernel
theorem dX12_mayOn_9 : decode cX12_mayOn 9 = .ok (.bipush 11, 2) := by decide +kernel
theorem dX12_mayOn_11 : decode cX12_mayOn 11 = .ok (.iconst 4, 1) := by decide +kernel
theorem dX12_mayOn_12 : decode cX12_mayOn 12 = .ok (.iload_n 2, 1) := by decide +kernel
theorem dX12_mayOn_13 : decode cX12_mayOn 13 = .ok (.imul, 1) := by decide +kernel
theorem dX12_mayOn_14 : decode cX12_mayOn 14 = .ok (.iadd, 1) := by decide +kernel
theorem dX12_mayOn_15 : decode cX12_mayOn 15 = .ok (.iaload, 1) := by decide +kernel
theorem dX12_mayOn_16 : decode cX12_mayOn 16 = .ok (.invokestatic 274, 3) := by decide +kernel
theorem dX12_mayOn_19 : decode cX12_mayOn 19 = .ok (.ireturn, 1) := by decide +kernel
theorem dX12_isContent_0 : decode cX12_isContent 0 = .ok (.aload_n 1, 1) := by decide +kernel
theorem dX12_isContent_1 : decode cX12_isContent 1 = .ok (.iload_n 2, 1) := by decide +kernel
theorem dX12_isContent_2 : decode cX12_isContent 2 = .ok (.iaload, 1) := by decide +kernel
theorem dX12_isContent_3 : decode cX12_isContent 3 = .ok (.iconst 1, 1) := by decide +kernel
theorem dX12_isContent_4 : decode cX12_isContent 4 = .ok (.isub, 1) := by decide +kernel
theorem dX12_isContent_5 : decode cX12_isContent 5 = .ok (.istore 4, 2) := by decide +kernel
theorem dX12_isContent_7 : decode cX12_isContent 7 = .ok (.iload 4, 2) := by decide +kernel
theorem dX12_isContent_9 : decode cX12_isContent 9 = .ok (.ifCond .lt 18, 3) := by decide +kernel
theorem dX12_isContent_12 : decode cX12_isContent 12 = .ok (.aload_n 0, 1) := by decide +kernel
theorem dX12_isContent_13 : decode cX12_isContent 13 = .ok (.iload 4, 2) := by decide +kernel
theorem dX12_isContent_15 : decode cX12_isContent 15 = .ok (.iload_n 3, 1) := by decide +kernel
theorem dX12_isContent_16 : decode cX12_isContent 16 = .ok (.invokevirtual 289, 3) := by decide +kernel
theorem dX12_isContent_19 : decode cX12_isContent 19 = .ok (.aload_n 0, 1) := by decide +kernel
theorem dX12_isContent_20 : decode cX12_isContent 20 = .ok (.iload_n 2, 1) := by decide +kernel
theorem dX12_isContent_21 : decode cX12_isContent 21 = .ok (.invokevirtual 305, 3) := by decide +kernel
theorem dX12_isContent_24 : decode cX12_isContent 24 = .ok (.if_icmp .ge 5, 3) := by decide +kernel
theorem dX12_isContent_27 : decode cX12_isContent 27 = .ok (.iconst 0, 1) := by decide +kernel
theorem dX12_isContent_28 : decode cX12_isContent 28 = .ok (.ireturn, 1) := by decide +kernel
theorem dX12_isContent_29 : decode cX12_isContent 29 = .ok (.iconst 1, 1) := by decide +kernel
theorem dX12_isContent_30 : decode cX12_isContent 30 = .ok (.istore 5, 2) := by decide +kernel
theorem dX12_isContent_32 : decode cX12_isContent 32 = .ok (.iconst 0, 1) := by decide +kernel
theorem dX12_isContent_33 : decode cX12_isContent 33 = .ok (.istore 6, 2) := by decide +kernel
theorem dX12_isContent_35 : decode cX12_isContent 35 = .ok (.iload 6, 2) := by decide +kernel
theorem dX12_isContent_37 : decode cX12_isContent 37 = .ok (.aload_n 0, 1) := by decide +kernel
theorem dX12_isContent_38 : decode cX12_isContent 38 = .ok (.getfield 20, 3) := by decide +kernel
theorem dX12_isContent_41 : decode cX12_isContent 41 = .ok (.iconst 4, 1) := by decide +kernel
theorem dX12_isContent_42 : decode cX12_isContent 42 = .ok (.iaload, 1) := by decide +kernel
theorem dX12_isContent_43 : decode cX12_isContent 43 = .ok (.if_icmp .ge 60, 3) := by decide +kernel
theorem dX12_isContent_46 : decode cX12_isContent 46 = .ok (.iload 5, 2) := by decide +kernel
theorem dX12_isContent_48 : decode cX12_isContent 48 = .ok (.ifCond .eq 46, 3) := by decide +kernel
theorem dX12_isContent_51 : decode cX12_isContent 51 = .ok (.aload_n 0, 1) := by decide +kernel
theorem dX12_isContent_52 : decode cX12_isContent 52 = .ok (.iload_n 2, 1) := by decide +kernel
theorem dX12_isContent_53 : decode cX12_isContent 53 = .ok (.invokevirtual 302, 3) := by decide +kernel
theorem dX12_isContent_56 : decode cX12_isContent 56 = .ok (.iconst 2, 1) := by decide +kernel
theorem dX12_isContent_57 : decode cX12_isContent 57 = .ok (.if_icmp .ne 33, 3) := by decide +kernel
theorem dX12_isContent_60 : decode cX12_isContent 60 = .ok (.aload_n 1, 1) := by decide +kernel
theorem dX12_isContent_61 : decode cX12_isContent 61 = .ok (.iload 6, 2) := by decide +kernel
theorem dX12_isContent_63 : decode cX12_isContent 63 = .ok (.iaload, 1) := by decide +kernel
theorem dX12_isContent_64 : decode cX12_isContent 64 = .ok (.iload 4, 2) := by decide +kernel
theorem dX12_isContent_66 : decode cX12_isContent 66 = .ok (.iconst 1, 1) := by decide +kernel
theorem dX12_isContent_67 : decode cX12_isContent 67 = .ok (.iadd, 1) := by decide +kernel
theorem dX12_isContent_68 : decode cX12_isContent 68 = .ok (.if_icmp .ne 22, 3) := by decide +kernel
theorem dX12_isContent_71 : decode cX12_isContent 71 = .ok (.aload_n 0, 1) := by decide +kernel
theorem dX12_isContent_72 : decode cX12_isContent 72 = .ok (.iload 6, 2) := by decide +kernel
theorem dX12_isContent_74 : decode cX12_isContent 74 = .ok (.invokevirtual 302, 3) := by decide +kernel
theorem dX12_isContent_77 : decode cX12_isContent 77 = .ok (.iconst 1, 1) := by decide +kernel
theorem dX12_isContent_78 : decode cX12_isContent 78 = .ok (.if_icmp .eq 16, 3) := by decide +kernel
theorem dX12_isContent_81 : decode cX12_isContent 81 = .ok (.aload_n 0, 1) := by decide +kernel
theorem dX12_isContent_82 : decode cX12_isContent 82 = .ok (.iload 6, 2) := by decide +kernel
theorem dX12_isContent_84 : decode cX12_isContent 84 = .ok (.invokevirtual 302, 3) := by decide +kernel
theorem dX12_isContent_87 : decode cX12_isContent 87 = .ok (.ifCond .eq 7, 3) := by decide +kernel
theorem dX12_isContent_90 : decode cX12_isContent 90 = .ok (.iconst 1, 1) := by decide +kernel
theorem dX12_isContent_91 : decode cX12_isContent 91 = .ok (.goto 4, 3) := by decide +kernel
theorem dX12_isContent_94 : decode cX12_isContent 94 = .ok (.iconst 0, 1) := by decide +kernel
theorem dX12_isContent_95 : decode cX12_isContent 95 = .ok (.istore 5, 2) := by decide +kernel
theorem dX12_isContent_97 : decode cX12_isContent 97 = .ok (.iinc 6 1, 3) := by decide +kernel
theorem dX12_isContent_100 : decode cX12_isContent 100 = .ok (.goto (-65), 3) := by decide +kernel
theorem dX12_isContent_103 : decode cX12_isContent 103 = .ok (.iload 5, 2) := by decide +kernel
theorem dX12_isContent_105 : decode cX12_isContent 105 = .ok (.ireturn, 1) := by decide +kernel
theorem dX12_contentOn_0 : decode cX12_contentOn 0 = .ok (.iconst 0, 1) := by decide +kernel
theorem dX12_contentOn_1 : decode cX12_contentOn 1 = .ok (.istore_n 3, 1) := by decide +kernel
theorem dX12_contentOn_2 : decode cX12_contentOn 2 = .ok (.iconst 0, 1) := by decide +kernel
theorem dX12_contentOn_3 : decode cX12_contentOn 3 = .ok (.istore 4, 2) := by decide +kernel
theorem dX12_contentOn_5 : decode cX12_contentOn 5 = .ok (.iload 4, 2) := by decide +kernel
theorem dX12_contentOn_7 : decode cX12_contentOn 7 = .ok (.aload_n 0, 1) := by decide +kernel
theorem dX12_contentOn_8 : decode cX12_contentOn 8 = .ok (.getfield 20, 3) := by decide +kernel
theorem dX12_contentOn_11 : decode cX12_contentOn 11 = .ok (.iconst 4, 1) := by decide +kernel
theorem dX12_contentOn_12 : decode cX12_contentOn 12 = .ok (.iaload, 1) := by decide +kernel
theorem dX12_contentOn_13 : decode cX12_contentOn 13 = .ok (.if_icmp .ge 31, 3) := by decide +kernel
theorem dX12_contentOn_16 : decode cX12_contentOn 16 = .ok (.iload_n 3, 1) := by decide +kernel
theorem dX12_contentOn_17 : decode cX12_contentOn 17 = .ok (.aload_n 0, 1) := by decide +kernel
theorem dX12_contentOn_18 : decode cX12_contentOn 18 = .ok (.aload_n 1, 1) := by decide +kernel
theorem dX12_contentOn_19 : decode cX12_contentOn 19 = .ok (.iload 4, 2) := by decide +kernel
theorem dX12_contentOn_21 : decode cX12_contentOn 21 = .ok (.iload_n 2, 1) := by decide +kernel
theorem dX12_contentOn_22 : decode cX12_contentOn 22 = .ok (.invokevirtual 308, 3) := by decide +kernel
theorem dX12_contentOn_25 : decode cX12_contentOn 25 = .ok (.ifCond .eq 10, 3) := by decide +kernel
theorem dX12_contentOn_28 : decode cX12_contentOn 28 = .ok (.iconst 1, 1) := by decide +kernel
theorem dX12_contentOn_29 : decode cX12_contentOn 29 = .ok (.iload 4, 2) := by decide +kernel
theorem dX12_contentOn_31 : decode cX12_contentOn 31 = .ok (.ishl, 1) := by decide +kernel
theorem dX12_contentOn_32 : decode cX12_contentOn 32 = .ok (.goto 4, 3) := by decide +kernel
theorem dX12_contentOn_35 : decode cX12_contentOn 35 = .ok (.iconst 0, 1) := by decide +kernel
theorem dX12_contentOn_36 : decode cX12_contentOn 36 = .ok (.ior, 1) := by decide +kernel
theorem dX12_contentOn_37 : decode cX12_contentOn 37 = .ok (.istore_n 3, 1) := by decide +kernel
theorem dX12_contentOn_38 : decode cX12_contentOn 38 = .ok (.iinc 4 1, 3) := by decide +kernel
theorem dX12_contentOn_41 : decode cX12_contentOn 41 = .ok (.goto (-36), 3) := by decide +kernel
theorem dX12_contentOn_44 : decode cX12_contentOn 44 = .ok (.iload_n 3, 1) := by decide +kernel
theorem dX12_contentOn_45 : decode cX12_contentOn 45 = .ok (.ireturn, 1) := by decide +kernel
theorem dX12_isTownOf_0 : decode cX12_isTownOf 0 = .ok (.sipush 226, 3) := by decide +kernel
theorem dX12_isTownOf_3 : decode cX12_isTownOf 3 = .ok (.bipush 9, 2) := by decide +kernel
theorem dX12_isTownOf_5 : decode cX12_isTownOf 5 = .ok (.iload_n 1, 1) := by decide +kernel
theorem dX12_isTownOf_6 : decode cX12_isTownOf 6 = .ok (.imul, 1) := by decide +kernel
theorem dX12_isTownOf_7 : decode cX12_isTownOf 7 = .ok (.iadd, 1) := by decide +kernel
theorem dX12_isTownOf_8 : decode cX12_isTownOf 8 = .ok (.istore_n 3, 1) := by decide +kernel
theorem dX12_isTownOf_9 : decode cX12_isTownOf 9 = .ok (.sipush 226, 3) := by decide +kernel
theorem dX12_isTownOf_12 : decode cX12_isTownOf 12 = .ok (.bipush 9, 2) := by decide +kernel
theorem dX12_isTownOf_14 : decode cX12_isTownOf 14 = .ok (.iload_n 2, 1) := by decide +kernel
theorem dX12_isTownOf_15 : decode cX12_isTownOf 15 = .ok (.imul, 1) := by decide +kernel
theorem dX12_isTownOf_16 : decode cX12_isTownOf 16 = .ok (.iadd, 1) := by decide +kernel
theorem dX12_isTownOf_17 : decode cX12_isTownOf 17 = .ok (.istore 4, 2) := by decide +kernel
theorem dX12_isTownOf_19 : decode cX12_isTownOf 19 = .ok (.aload_n 0, 1) := by decide +kernel
theorem dX12_isTownOf_20 : decode cX12_isTownOf 20 = .ok (.getfield 20, 3) := by decide +kernel
theorem dX12_isTownOf_23 : decode cX12_isTownOf 23 = .ok (.iload_n 3, 1) := by decide +kernel
theorem dX12_isTownOf_24 : decode cX12_isTownOf 24 = .ok (.iaload, 1) := by decide +kernel
theorem dX12_isTownOf_25 : decode cX12_isTownOf 25 = .ok (.aload_n 0, 1) := by decide +kernel
theorem dX12_isTownOf_26 : decode cX12_isTownOf 26 = .ok (.getfield 20, 3) := by decide +kernel
theorem dX12_isTownOf_29 : decode cX12_isTownOf 29 = .ok (.iload 4, 2) := by decide +kernel
theorem dX12_isTownOf_31 : decode cX12_isTownOf 31 = .ok (.iaload, 1) := by decide +kernel
theorem dX12_isTownOf_32 : decode cX12_isTownOf 32 = .ok (.if_icmp .ne 7, 3) := by decide +kernel
theorem dX12_isTownOf_35 : decode cX12_isTownOf 35 = .ok (.iconst 1, 1) := by decide +kernel
theorem dX12_isTownOf_36 : decode cX12_isTownOf 36 = .ok (.goto 4, 3) := by decide +kernel
theorem dX12_isTownOf_39 : decode cX12_isTownOf 39 = .ok (.iconst 0, 1) := by decide +kernel
theorem dX12_isTownOf_40 : decode cX12_isTownOf 40 = .ok (.istore 5, 2) := by decide +kernel
theorem dX12_isTownOf_42 : decode cX12_isTownOf 42 = .ok (.iconst 0, 1) := by decide +kernel
theorem dX12_isTownOf_43 : decode cX12_isTownOf 43 = .ok (.istore 6, 2) := by decide +kernel
theorem dX12_isTownOf_45 : decode cX12_isTownOf 45 = .ok (.iload 6, 2) := by decide +kernel
theorem dX12_isTownOf_47 : decode cX12_isTownOf 47 = .ok (.aload_n 0, 1) := by decide +kernel
theorem dX12_isTownOf_48 : decode cX12_isTownOf 48 = .ok (.getfield 20, 3) := by decide +kernel
theorem dX12_isTownOf_51 : decode cX12_isTownOf 51 = .ok (.iload_n 3, 1) := by decide +kernel
theorem dX12_isTownOf_52 : decode cX12_isTownOf 52 = .ok (.iaload, 1) := by decide +kernel
theorem dX12_isTownOf_53 : decode cX12_isTownOf 53 = .ok (.if_icmp .ge 47, 3) := by decide +kernel
theorem dX12_isTownOf_56 : decode cX12_isTownOf 56 = .ok (.iload 5, 2) := by decide +kernel
theorem dX12_isTownOf_58 : decode cX12_isTownOf 58 = .ok (.ifCond .eq 42, 3) := by decide +kernel
theorem dX12_isTownOf_61 : decode cX12_isTownOf 61 = .ok (.aload_n 0, 1) := by decide +kernel
theorem dX12_isTownOf_62 : decode cX12_isTownOf 62 = .ok (.getfield 20, 3) := by decide +kernel
theorem dX12_isTownOf_65 : decode cX12_isTownOf 65 = .ok (.iload_n 3, 1) := by decide +kernel
theorem dX12_isTownOf_66 : decode cX12_isTownOf 66 = .ok (.iconst 1, 1) := by decide +kernel
theorem dX12_isTownOf_67 : decode cX12_isTownOf 67 = .ok (.iadd, 1) := by decide +kernel
theorem dX12_isTownOf_68 : decode cX12_isTownOf 68 = .ok (.iload 6, 2) := by decide +kernel
theorem dX12_isTownOf_70 : decode cX12_isTownOf 70 = .ok (.iadd, 1) := by decide +kernel
theorem dX12_isTownOf_71 : decode cX12_isTownOf 71 = .ok (.iaload, 1) := by decide +kernel
theorem dX12_isTownOf_72 : decode cX12_isTownOf 72 = .ok (.aload_n 0, 1) := by decide +kernel
theorem dX12_isTownOf_73 : decode cX12_isTownOf 73 = .ok (.getfield 20, 3) := by decide +kernel
theorem dX12_isTownOf_76 : decode cX12_isTownOf 76 = .ok (.iload 4, 2) := by decide +kernel
theorem dX12_isTownOf_78 : decode cX12_isTownOf 78 = .ok (.iconst 1, 1) := by decide +kernel
theorem dX12_isTownOf_79 : decode cX12_isTownOf 79 = .ok (.iadd, 1) := by decide +kernel
theorem dX12_isTownOf_80 : decode cX12_isTownOf 80 = .ok (.iload 6, 2) := by decide +kernel
theorem dX12_isTownOf_82 : decode cX12_isTownOf 82 = .ok (.iadd, 1) := by decide +kernel
theorem dX12_isTownOf_83 : decode cX12_isTownOf 83 = .ok (.iaload, 1) := by decide +kernel
theorem dX12_isTownOf_84 : decode cX12_isTownOf 84 = .ok (.if_icmp .ne 7, 3) := by decide +kernel
theorem dX12_isTownOf_87 : decode cX12_isTownOf 87 = .ok (.iconst 1, 1) := by decide +kernel
theorem dX12_isTownOf_88 : decode cX12_isTownOf 88 = .ok (.goto 4, 3) := by decide +kernel
theorem dX12_isTownOf_91 : decode cX12_isTownOf 91 = .ok (.iconst 0, 1) := by decide +kernel
theorem dX12_isTownOf_92 : decode cX12_isTownOf 92 = .ok (.istore 5, 2) := by decide +kernel
theorem dX12_isTownOf_94 : decode cX12_isTownOf 94 = .ok (.iinc 6 1, 3) := by decide +kernel
theorem dX12_isTownOf_97 : decode cX12_isTownOf 97 = .ok (.goto (-52), 3) := by decide +kernel
theorem dX12_isTownOf_100 : decode cX12_isTownOf 100 = .ok (.iload 5, 2) := by decide +kernel
theorem dX12_isTownOf_102 : decode cX12_isTownOf 102 = .ok (.ireturn, 1) := by decide +kernel
theorem dX12_bench_0 : decode cX12_bench 0 = .ok (.aload_n 0, 1) := by decide +kernel
theorem dX12_bench_1 : decode cX12_bench 1 = .ok (.invokevirtual 181, 3) := by decide +kernel
theorem dX12_bench_4 : decode cX12_bench 4 = .ok (.aload_n 0, 1) := by decide +kernel
theorem dX12_bench_5 : decode cX12_bench 5 = .ok (.iload_n 1, 1) := by decide +kernel
theorem dX12_bench_6 : decode cX12_bench 6 = .ok (.invokevirtual 312, 3) := by decide +kernel
theorem dX12_bench_9 : decode cX12_bench 9 = .ok (.ifCond .eq 13, 3) := by decide +kernel
theorem dX12_bench_12 : decode cX12_bench 12 = .ok (.iload_n 2, 1) := by decide +kernel
theorem dX12_bench_13 : decode cX12_bench 13 = .ok (.iconst 0, 1) := by decide +kernel
theorem dX12_bench_14 : decode cX12_bench 14 = .ok (.bipush 6, 2) := by decide +kernel
theorem dX12_bench_16 : decode cX12_bench 16 = .ok (.invokestatic 160, 3) := by decide +kernel
theorem dX12_bench_19 : decode cX12_bench 19 = .ok (.ifCond .ne 9, 3) := by decide +kernel
theorem dX12_bench_22 : decode cX12_bench 22 = .ok (.aload_n 0, 1) := by decide +kernel
theorem dX12_bench_23 : decode cX12_bench 23 = .ok (.iconst 1, 1) := by decide +kernel
theorem dX12_bench_24 : decode cX12_bench 24 = .ok (.invokevirtual 184, 3) := by decide +kernel
theorem dX12_bench_27 : decode cX12_bench 27 = .ok (.ireturn, 1) := by decide +kernel
theorem dX12_bench_28 : decode cX12_bench 28 = .ok (.iload_n 2, 1) := by decide +kernel
theorem dX12_bench_29 : decode cX12_bench 29 = .ok (.iconst 4, 1) := by decide +kernel
theorem dX12_bench_30 : decode cX12_bench 30 = .ok (.if_icmp .ge 19, 3) := by decide +kernel
theorem dX12_bench_33 : decode cX12_bench 33 = .ok (.aload_n 0, 1) := by decide +kernel
theorem dX12_bench_34 : decode cX12_bench 34 = .ok (.getfield 20, 3) := by decide +kernel
theorem dX12_bench_37 : decode cX12_bench 37 = .ok (.bipush 11, 2) := by decide +kernel
theorem dX12_bench_39 : decode cX12_bench 39 = .ok (.iconst 4, 1) := by decide +kernel
theorem dX12_bench_40 : decode cX12_bench 40 = .ok (.iload_n 1, 1) := by decide +kernel
theorem dX12_bench_41 : decode cX12_bench 41 = .ok (.imul, 1) := by decide +kernel
theorem dX12_bench_42 : decode cX12_bench 42 = .ok (.iadd, 1) := by decide +kernel
theorem dX12_bench_43 : decode cX12_bench 43 = .ok (.iload_n 2, 1) := by decide +kernel
theorem dX12_bench_44 : decode cX12_bench 44 = .ok (.iadd, 1) := by decide +kernel
theorem dX12_bench_45 : decode cX12_bench 45 = .ok (.iaload, 1) := by decide +kernel
theorem dX12_bench_46 : decode cX12_bench 46 = .ok (.goto 38, 3) := by decide +kernel
theorem dX12_bench_49 : decode cX12_bench 49 = .ok (.iload_n 2, 1) := by decide +kernel
theorem dX12_bench_50 : decode cX12_bench 50 = .ok (.iconst 4, 1) := by decide +kernel
theorem dX12_bench_51 : decode cX12_bench 51 = .ok (.if_icmp .ne 11, 3) := by decide +kernel
theorem dX12_bench_54 : decode cX12_bench 54 = .ok (.aload_n 0, 1) := by decide +kernel
theorem dX12_bench_55 : decode cX12_bench 55 = .ok (.iload_n 1, 1) := by decide +kernel
theorem dX12_bench_56 : decode cX12_bench 56 = .ok (.invokevirtual 292, 3) := by decide +kernel
theorem dX12_bench_59 : decode cX12_bench 59 = .ok (.goto 25, 3) := by decide +kernel
theorem dX12_bench_62 : decode cX12_bench 62 = .ok (.iload_n 2, 1) := by decide +kernel
theorem dX12_bench_63 : decode cX12_bench 63 = .ok (.iconst 5, 1) := by decide +kernel
theorem dX12_bench_64 : decode cX12_bench 64 = .ok (.if_icmp .ne 11, 3) := by decide +kernel
theorem dX12_bench_67 : decode cX12_bench 67 = .ok (.aload_n 0, 1) := by decide +kernel
theorem dX12_bench_68 : decode cX12_bench 68 = .ok (.iload_n 1, 1) := by decide +kernel
theorem dX12_bench_69 : decode cX12_bench 69 = .ok (.invokevirtual 315, 3) := by decide +kernel
theorem dX12_bench_72 : decode cX12_bench 72 = .ok (.goto 12, 3) := by decide +kernel
theorem dX12_bench_75 : decode cX12_bench 75 = .ok (.aload_n 0, 1) := by decide +kernel
theorem dX12_bench_76 : decode cX12_bench 76 = .ok (.aload_n 0, 1) := by decide +kernel
theorem dX12_bench_77 : decode cX12_bench 77 = .ok (.getfield 26, 3) := by decide +kernel
theorem dX12_bench_80 : decode cX12_bench 80 = .ok (.iload_n 1, 1) := by decide +kernel
theorem dX12_bench_81 : decode cX12_bench 81 = .ok (.invokevirtual 295, 3) := by decide +kernel
theorem dX12_bench_84 : decode cX12_bench 84 = .ok (.ireturn, 1) := by decide +kernel
theorem dX12_person_0 : decode cX12_person 0 = .ok (.aload_n 0, 1) := by decide +kernel
theorem dX12_person_1 : decode cX12_person 1 = .ok (.invokevirtual 181, 3) := by decide +kernel
theorem dX12_person_4 : decode cX12_person 4 = .ok (.aload_n 0, 1) := by decide +kernel
theorem dX12_person_5 : decode cX12_person 5 = .ok (.iload_n 1, 1) := by decide +kernel
theorem dX12_person_6 : decode cX12_person 6 = .ok (.invokevirtual 318, 3) := by decide +kernel
theorem dX12_person_9 : decode cX12_person 9 = .ok (.ifCond .eq 12, 3) := by decide +kernel
theorem dX12_person_12 : decode cX12_person 12 = .ok (.iload_n 2, 1) := by decide +kernel
theorem dX12_person_13 : decode cX12_person 13 = .ok (.iconst 0, 1) := by decide +kernel
theorem dX12_person_14 : decode cX12_person 14 = .ok (.iconst 5, 1) := by decide +kernel
theorem dX12_person_15 : decode cX12_person 15 = .ok (.invokestatic 160, 3) := by decide +kernel
theorem dX12_person_18 : decode cX12_person 18 = .ok (.ifCond .ne 9, 3) := by decide +kernel
theorem dX12_person_21 : decode cX12_person 21 = .ok (.aload_n 0, 1) := by decide +kernel
theorem dX12_person_22 : decode cX12_person 22 = .ok (.iconst 1, 1) := by decide +kernel
theorem dX12_person_23 : decode cX12_person 23 = .ok (.invokevirtual 321, 3) := by decide +kernel
theorem dX12_person_26 : decode cX12_person 26 = .ok (.ireturn, 1) := by decide +kernel
theorem dX12_person_27 : decode cX12_person 27 = .ok (.iconst 0, 1) := by decide +kernel
theorem dX12_person_28 : decode cX12_person 28 = .ok (.istore_n 3, 1) := by decide +kernel
theorem dX12_person_29 : decode cX12_person 29 = .ok (.iconst 0, 1) := by decide +kernel
theorem dX12_person_30 : decode cX12_person 30 = .ok (.istore 4, 2) := by decide +kernel
theorem dX12_person_32 : decode cX12_person 32 = .ok (.iload 4, 2) := by decide +kernel
theorem dX12_person_34 : decode cX12_person 34 = .ok (.aload_n 0, 1) := by decide +kernel
theorem dX12_person_35 : decode cX12_person 35 = .ok (.getfield 20, 3) := by decide +kernel
theorem dX12_person_38 : decode cX12_person 38 = .ok (.iconst 4, 1) := by decide +kernel
theorem dX12_person_39 : decode cX12_person 39 = .ok (.iaload, 1) := by decide +kernel
theorem dX12_person_40 : decode cX12_person 40 = .ok (.if_icmp .ge 36, 3) := by decide +kernel
theorem dX12_person_43 : decode cX12_person 43 = .ok (.iload_n 3, 1) := by decide +kernel
theorem dX12_person_44 : decode cX12_person 44 = .ok (.iload 4, 2) := by decide +kernel
theorem dX12_person_46 : decode cX12_person 46 = .ok (.iload_n 1, 1) := by decide +kernel
theorem dX12_person_47 : decode cX12_person 47 = .ok (.if_icmp .eq 20, 3) := by decide +kernel
theorem dX12_person_50 : decode cX12_person 50 = .ok (.aload_n 0, 1) := by decide +kernel
theorem dX12_person_51 : decode cX12_person 51 = .ok (.iload_n 1, 1) := by decide +kernel
theorem dX12_person_52 : decode cX12_person 52 = .ok (.iload 4, 2) := by decide +kernel
theorem dX12_person_54 : decode cX12_person 54 = .ok (.invokevirtual 324, 3) := by decide +kernel
theorem dX12_person_57 : decode cX12_person 57 = .ok (.ifCond .eq 10, 3) := by decide +kernel
theorem dX12_person_60 : decode cX12_person 60 = .ok (.iconst 1, 1) := by decide +kernel
theorem dX12_person_61 : decode cX12_person 61 = .ok (.iload 4, 2) := by decide +kernel
theorem dX12_person_63 : decode cX12_person 63 = .ok (.ishl, 1) := by decide +kernel
theorem dX12_person_64 : decode cX12_person 64 = .ok (.goto 4, 3) := by decide +kernel
theorem dX12_person_67 : decode cX12_person 67 = .ok (.iconst 0, 1) := by decide +kernel
theorem dX12_person_68 : decode cX12_person 68 = .ok (.ior, 1) := by decide +kernel
theorem dX12_person_69 : decode cX12_person 69 = .ok (.istore_n 3, 1) := by decide +kernel
theorem dX12_person_70 : decode cX12_person 70 = .ok (.iinc 4 1, 3) := by decide +kernel
theorem dX12_person_73 : decode cX12_person 73 = .ok (.goto (-41), 3) := by decide +kernel
theorem dX12_person_76 : decode cX12_person 76 = .ok (.iload_n 2, 1) := by decide +kernel
theorem dX12_person_77 : decode cX12_person 77 = .ok (.tableswitch 104 0 4 #[35, 41, 47, 70, 94], 35) := by decide +kernel
theorem dX12_person_112 : decode cX12_person 112 = .ok (.aload_n 0, 1) := by decide +kernel
theorem dX12_person_113 : decode cX12_person 113 = .ok (.iload_n 1, 1) := by decide +kernel
theorem dX12_person_114 : decode cX12_person 114 = .ok (.invokevirtual 302, 3) := by decide +kernel
theorem dX12_person_117 : decode cX12_person 117 = .ok (.ireturn, 1) := by decide +kernel
theorem dX12_person_118 : decode cX12_person 118 = .ok (.aload_n 0, 1) := by decide +kernel
theorem dX12_person_119 : decode cX12_person 119 = .ok (.iload_n 1, 1) := by decide +kernel
theorem dX12_person_120 : decode cX12_person 120 = .ok (.invokevirtual 305, 3) := by decide +kernel
theorem dX12_person_123 : decode cX12_person 123 = .ok (.ireturn, 1) := by decide +kernel
theorem dX12_person_124 : decode cX12_person 124 = .ok (.aload_n 0, 1) := by decide +kernel
theorem dX12_person_125 : decode cX12_person 125 = .ok (.getfield 26, 3) := by decide +kernel
theorem dX12_person_128 : decode cX12_person 128 = .ok (.iload_n 1, 1) := by decide +kernel
theorem dX12_person_129 : decode cX12_person 129 = .ok (.iaload, 1) := by decide +kernel
theorem dX12_person_130 : decode cX12_person 130 = .ok (.ifCond .ne 8, 3) := by decide +kernel
theorem dX12_person_133 : decode cX12_person 133 = .ok (.bipush (-2), 2) := by decide +kernel
theorem dX12_person_135 : decode cX12_person 135 = .ok (.goto 11, 3) := by decide +kernel
theorem dX12_person_138 : decode cX12_person 138 = .ok (.aload_n 0, 1) := by decide +kernel
theorem dX12_person_139 : decode cX12_person 139 = .ok (.getfield 26, 3) := by decide +kernel
theorem dX12_person_142 : decode cX12_person 142 = .ok (.iload_n 1, 1) := by decide +kernel
theorem dX12_person_143 : decode cX12_person 143 = .ok (.iaload, 1) := by decide +kernel
theorem dX12_person_144 : decode cX12_person 144 = .ok (.iconst 1, 1) := by decide +kernel
theorem dX12_person_145 : decode cX12_person 145 = .ok (.isub, 1) := by decide +kernel
theorem dX12_person_146 : decode cX12_person 146 = .ok (.ireturn, 1) := by decide +kernel
theorem dX12_person_147 : decode cX12_person 147 = .ok (.aload_n 0, 1) := by decide +kernel
theorem dX12_person_148 : decode cX12_person 148 = .ok (.aload_n 0, 1) := by decide +kernel
theorem dX12_person_149 : decode cX12_person 149 = .ok (.getfield 26, 3) := by decide +kernel
theorem dX12_person_152 : decode cX12_person 152 = .ok (.iload_n 1, 1) := by decide +kernel
theorem dX12_person_153 : decode cX12_person 153 = .ok (.aload_n 0, 1) := by decide +kernel
theorem dX12_person_154 : decode cX12_person 154 = .ok (.getfield 20, 3) := by decide +kernel
theorem dX12_person_157 : decode cX12_person 157 = .ok (.iconst 2, 1) := by decide +kernel
theorem dX12_person_158 : decode cX12_person 158 = .ok (.iaload, 1) := by decide +kernel
theorem dX12_person_159 : decode cX12_person 159 = .ok (.invokevirtual 308, 3) := by decide +kernel
theorem dX12_person_162 : decode cX12_person 162 = .ok (.ifCond .eq 7, 3) := by decide +kernel
theorem dX12_person_165 : decode cX12_person 165 = .ok (.iconst 1, 1) := by decide +kernel
theorem dX12_person_166 : decode cX12_person 166 = .ok (.goto 4, 3) := by decide +kernel
theorem dX12_person_169 : decode cX12_person 169 = .ok (.iconst 0, 1) := by decide +kernel
theorem dX12_person_170 : decode cX12_person 170 = .ok (.ireturn, 1) := by decide +kernel
theorem dX12_person_171 : decode cX12_person 171 = .ok (.aload_n 0, 1) := by decide +kernel
theorem dX12_person_172 : decode cX12_person 172 = .ok (.getfield 26, 3) := by decide +kernel
theorem dX12_person_175 : decode cX12_person 175 = .ok (.bipush 7, 2) := by decide +kernel
theorem dX12_person_177 : decode cX12_person 177 = .ok (.iload_n 1, 1) := by decide +kernel
theorem dX12_person_178 : decode cX12_person 178 = .ok (.iadd, 1) := by decide +kernel
theorem dX12_person_179 : decode cX12_person 179 = .ok (.iaload, 1) := by decide +kernel
theorem dX12_person_180 : decode cX12_person 180 = .ok (.ireturn, 1) := by decide +kernel
theorem dX12_person_181 : decode cX12_person 181 = .ok (.iload_n 3, 1) := by decide +kernel
theorem dX12_person_182 : decode cX12_person 182 = .ok (.ireturn, 1) := by decide +kernel
theorem dX12_may_0 : decode cX12_may 0 = .ok (.aload_n 0, 1) := by decide +kernel
theorem dX12_may_1 : decode cX12_may 1 = .ok (.invokevirtual 181, 3) := by decide +kernel
theorem dX12_may_4 : decode cX12_may 4 = .ok (.aload_n 0, 1) := by decide +kernel
theorem dX12_may_5 : decode cX12_may 5 = .ok (.iload_n 1, 1) := by decide +kernel
theorem dX12_may_6 : decode cX12_may 6 = .ok (.invokevirtual 318, 3) := by decide +kernel
theorem dX12_may_9 : decode cX12_may 9 = .ok (.ifCond .eq 11, 3) := by decide +kernel
theorem dX12_may_12 : decode cX12_may 12 = .ok (.aload_n 0, 1) := by decide +kernel
theorem dX12_may_13 : decode cX12_may 13 = .ok (.iload_n 2, 1) := by decide +kernel
theorem dX12_may_14 : decode cX12_may 14 = .ok (.invokevirtual 312, 3) := by decide +kernel
theorem dX12_may_17 : decode cX12_may 17 = .ok (.ifCond .ne 11, 3) := by decide +kernel
theorem dX12_may_20 : decode cX12_may 20 = .ok (.aload_n 0, 1) := by decide +kernel
theorem dX12_may_21 : decode cX12_may 21 = .ok (.iconst 1, 1) := by decide +kernel
theorem dX12_may_22 : decode cX12_may 22 = .ok (.invokevirtual 184, 3) := by decide +kernel
theorem dX12_may_25 : decode cX12_may 25 = .ok (.goto 17, 3) := by decide +kernel
theorem dX12_may_28 : decode cX12_may 28 = .ok (.aload_n 0, 1) := by decide +kernel
theorem dX12_may_29 : decode cX12_may 29 = .ok (.iload_n 1, 1) := by decide +kernel
theorem dX12_may_30 : decode cX12_may 30 = .ok (.iload_n 2, 1) := by decide +kernel
theorem dX12_may_31 : decode cX12_may 31 = .ok (.invokevirtual 327, 3) := by decide +kernel
theorem dX12_may_34 : decode cX12_may 34 = .ok (.ifCond .eq 7, 3) := by decide +kernel
theorem dX12_may_37 : decode cX12_may 37 = .ok (.iconst 1, 1) := by decide +kernel
theorem dX12_may_38 : decode cX12_may 38 = .ok (.goto 4, 3) := by decide +kernel
theorem dX12_may_41 : decode cX12_may 41 = .ok (.iconst 0, 1) := by decide +kernel
theorem dX12_may_42 : decode cX12_may 42 = .ok (.ireturn, 1) := by decide +kernel
theorem dX12_content_0 : decode cX12_content 0 = .ok (.aload_n 0, 1) := by decide +kernel
theorem dX12_content_1 : decode cX12_content 1 = .ok (.invokevirtual 181, 3) := by decide +kernel
theorem dX12_content_4 : decode cX12_content 4 = .ok (.aload_n 0, 1) := by decide +kernel
theorem dX12_content_5 : decode cX12_content 5 = .ok (.getfield 194, 3) := by decide +kernel
theorem dX12_content_8 : decode cX12_content 8 = .ok (.ifCond .eq 20, 3) := by decide +kernel
theorem dX12_content_11 : decode cX12_content 11 = .ok (.aload_n 0, 1) := by decide +kernel
theorem dX12_content_12 : decode cX12_content 12 = .ok (.aload_n 0, 1) := by decide +kernel
theorem dX12_content_13 : decode cX12_content 13 = .ok (.getfield 26, 3) := by decide +kernel
theorem dX12_content_16 : decode cX12_content 16 = .ok (.aload_n 0, 1) := by decide +kernel
theorem dX12_content_17 : decode cX12_content 17 = .ok (.getfield 20, 3) := by decide +kernel
theorem dX12_content_20 : decode cX12_content 20 = .ok (.iconst 2, 1) := by decide +kernel
theorem dX12_content_21 : decode cX12_content 21 = .ok (.iaload, 1) := by decide +kernel
theorem dX12_content_22 : decode cX12_content 22 = .ok (.invokevirtual 330, 3) := by decide +kernel
theorem dX12_content_25 : decode cX12_content 25 = .ok (.goto 8, 3) := by decide +kernel
theorem dX12_content_28 : decode cX12_content 28 = .ok (.aload_n 0, 1) := by decide +kernel
theorem dX12_content_29 : decode cX12_content 29 = .ok (.iconst 1, 1) := by decide +kernel
theorem dX12_content_30 : decode cX12_content 30 = .ok (.invokevirtual 184, 3) := by decide +kernel
theorem dX12_content_33 : decode cX12_content 33 = .ok (.ireturn, 1) := by decide +kernel
theorem dX12_isFree_0 : decode cX12_isFree 0 = .ok (.aload_n 0, 1) := by decide +kernel
theorem dX12_isFree_1 : decode cX12_isFree 1 = .ok (.aload_n 1, 1) := by decide +kernel
theorem dX12_isFree_2 : decode cX12_isFree 2 = .ok (.iload_n 2, 1) := by decide +kernel
theorem dX12_isFree_3 : decode cX12_isFree 3 = .ok (.invokevirtual 295, 3) := by decide +kernel
theorem dX12_isFree_6 : decode cX12_isFree 6 = .ok (.invokestatic 299, 3) := by decide +kernel
theorem dX12_isFree_9 : decode cX12_isFree 9 = .ok (.aload_n 0, 1) := by decide +kernel
theorem dX12_isFree_10 : decode cX12_isFree 10 = .ok (.iload_n 2, 1) := by decide +kernel
theorem dX12_isFree_11 : decode cX12_isFree 11 = .ok (.invokevirtual 333, 3) := by decide +kernel
theorem dX12_isFree_14 : decode cX12_isFree 14 = .ok (.if_icmp .ge 7, 3) := by decide +kernel
theorem dX12_isFree_17 : decode cX12_isFree 17 = .ok (.iconst 1, 1) := by decide +kernel
theorem dX12_isFree_18 : decode cX12_isFree 18 = .ok (.goto 4, 3) := by decide +kernel
theorem dX12_isFree_21 : decode cX12_isFree 21 = .ok (.iconst 0, 1) := by decide +kernel
theorem dX12_isFree_22 : decode cX12_isFree 22 = .ok (.ireturn, 1) := by decide +kernel
theorem dX12_warmest_0 : decode cX12_warmest 0 = .ok (.aload_n 0, 1) := by decide +kernel
theorem dX12_warmest_1 : decode cX12_warmest 1 = .ok (.invokevirtual 181, 3) := by decide +kernel
theorem dX12_warmest_4 : decode cX12_warmest 4 = .ok (.aload_n 0, 1) := by decide +kernel
theorem dX12_warmest_5 : decode cX12_warmest 5 = .ok (.iload_n 1, 1) := by decide +kernel
theorem dX12_warmest_6 : decode cX12_warmest 6 = .ok (.invokevirtual 318, 3) := by decide +kernel
theorem dX12_warmest_9 : decode cX12_warmest 9 = .ok (.ifCond .ne 9, 3) := by decide +kernel
theorem dX12_warmest_12 : decode cX12_warmest 12 = .ok (.aload_n 0, 1) := by decide +kernel
theorem dX12_warmest_13 : decode cX12_warmest 13 = .ok (.iconst 1, 1) := by decide +kernel
theorem dX12_warmest_14 : decode cX12_warmest 14 = .ok (.invokevirtual 184, 3) := by decide +kernel
theorem dX12_warmest_17 : decode cX12_warmest 17 = .ok (.ireturn, 1) := by decide +kernel
theorem dX12_warmest_18 : decode cX12_warmest 18 = .ok (.bipush (-2), 2) := by decide +kernel
theorem dX12_warmest_20 : decode cX12_warmest 20 = .ok (.istore_n 2, 1) := by decide +kernel
theorem dX12_warmest_21 : decode cX12_warmest 21 = .ok (.iconst 0, 1) := by decide +kernel
theorem dX12_warmest_22 : decode cX12_warmest 22 = .ok (.istore_n 3, 1) := by decide +kernel
theorem dX12_warmest_23 : decode cX12_warmest 23 = .ok (.iload_n 3, 1) := by decide +kernel
theorem dX12_warmest_24 : decode cX12_warmest 24 = .ok (.aload_n 0, 1) := by decide +kernel
theorem dX12_warmest_25 : decode cX12_warmest 25 = .ok (.getfield 20, 3) := by decide +kernel
theorem dX12_warmest_28 : decode cX12_warmest 28 = .ok (.iconst 3, 1) := by decide +kernel
theorem dX12_warmest_29 : decode cX12_warmest 29 = .ok (.iaload, 1) := by decide +kernel
theorem dX12_warmest_30 : decode cX12_warmest 30 = .ok (.if_icmp .ge 49, 3) := by decide +kernel
theorem dX12_warmest_33 : decode cX12_warmest 33 = .ok (.aload_n 0, 1) := by decide +kernel
theorem dX12_warmest_34 : decode cX12_warmest 34 = .ok (.iload_n 1, 1) := by decide +kernel
theorem dX12_warmest_35 : decode cX12_warmest 35 = .ok (.iload_n 3, 1) := by decide +kernel
theorem dX12_warmest_36 : decode cX12_warmest 36 = .ok (.invokevirtual 327, 3) := by decide +kernel
theorem dX12_warmest_39 : decode cX12_warmest 39 = .ok (.ifCond .eq 34, 3) := by decide +kernel
theorem dX12_warmest_42 : decode cX12_warmest 42 = .ok (.aload_n 0, 1) := by decide +kernel
theorem dX12_warmest_43 : decode cX12_warmest 43 = .ok (.aload_n 0, 1) := by decide +kernel
theorem dX12_warmest_44 : decode cX12_warmest 44 = .ok (.getfield 26, 3) := by decide +kernel
theorem dX12_warmest_47 : decode cX12_warmest 47 = .ok (.iload_n 3, 1) := by decide +kernel
theorem dX12_warmest_48 : decode cX12_warmest 48 = .ok (.invokevirtual 336, 3) := by decide +kernel
theorem dX12_warmest_51 : decode cX12_warmest 51 = .ok (.ifCond .eq 22, 3) := by decide +kernel
theorem dX12_warmest_54 : decode cX12_warmest 54 = .ok (.iload_n 2, 1) := by decide +kernel
theorem dX12_warmest_55 : decode cX12_warmest 55 = .ok (.ifCond .lt 16, 3) := by decide +kernel
theorem dX12_warmest_58 : decode cX12_warmest 58 = .ok (.aload_n 0, 1) := by decide +kernel
theorem dX12_warmest_59 : decode cX12_warmest 59 = .ok (.iload_n 3, 1) := by decide +kernel
theorem dX12_warmest_60 : decode cX12_warmest 60 = .ok (.invokevirtual 315, 3) := by decide +kernel
theorem dX12_warmest_63 : decode cX12_warmest 63 = .ok (.aload_n 0, 1) := by decide +kernel
theorem dX12_warmest_64 : decode cX12_warmest 64 = .ok (.iload_n 2, 1) := by decide +kernel
theorem dX12_warmest_65 : decode cX12_warmest 65 = .ok (.invokevirtual 315, 3) := by decide +kernel
theorem dX12_warmest_68 : decode cX12_warmest 68 = .ok (.if_icmp .le 5, 3) := by decide +kernel
theorem dX12_warmest_71 : decode cX12_warmest 71 = .ok (.iload_n 3, 1) := by decide +kernel
theorem dX12_warmest_72 : decode cX12_warmest 72 = .ok (.istore_n 2, 1) := by decide +kernel
theorem dX12_warmest_73 : decode cX12_warmest 73 = .ok (.iinc 3 1, 3) := by decide +kernel
theorem dX12_warmest_76 : decode cX12_warmest 76 = .ok (.goto (-53), 3) := by decide +kernel
theorem dX12_warmest_79 : decode cX12_warmest 79 = .ok (.iload_n 2, 1) := by decide +kernel
theorem dX12_warmest_80 : decode cX12_warmest 80 = .ok (.ireturn, 1) := by decide +kernel
theorem dX12_rents_0 : decode cX12_rents 0 = .ok (.aload_n 0, 1) := by decide +kernel
theorem dX12_rents_1 : decode cX12_rents 1 = .ok (.invokevirtual 181, 3) := by decide +kernel
theorem dX12_rents_4 : decode cX12_rents 4 = .ok (.aload_n 0, 1) := by decide +kernel
theorem dX12_rents_5 : decode cX12_rents 5 = .ok (.getfield 194, 3) := by decide +kernel
theorem dX12_rents_8 : decode cX12_rents 8 = .ok (.ifCond .ne 9, 3) := by decide +kernel
theorem dX12_rents_11 : decode cX12_rents 11 = .ok (.aload_n 0, 1) := by decide +kernel
theorem dX12_rents_12 : decode cX12_rents 12 = .ok (.iconst 1, 1) := by decide +kernel
