theorem dX11_init_0 : decode cX11_init 0 = .ok (.aload_n 0, 1) := by decide +kernel
theorem dX11_init_1 : decode cX11_init 1 = .ok (.invokespecial 1, 3) := by decide +kernel
theorem dX11_init_4 : decode cX11_init 4 = .ok (.aload_n 0, 1) := by decide +kernel
theorem dX11_init_5 : decode cX11_init 5 = .ok (.new 7, 3) := by decide +kernel
theorem dX11_init_8 : decode cX11_init 8 = .ok (.dup, 1) := by decide +kernel
theorem dX11_init_9 : decode cX11_init 9 = .ok (.invokespecial 9, 3) := by decide +kernel
theorem dX11_init_12 : decode cX11_init 12 = .ok (.putfield 10, 3) := by decide +kernel
theorem dX11_init_15 : decode cX11_init 15 = .ok (.aload_n 0, 1) := by decide +kernel
theorem dX11_init_16 : decode cX11_init 16 = .ok (.new 16, 3) := by decide +kernel
theorem dX11_init_19 : decode cX11_init 19 = .ok (.dup, 1) := by decide +kernel
theorem dX11_init_20 : decode cX11_init 20 = .ok (.invokespecial 18, 3) := by decide +kernel
theorem dX11_init_23 : decode cX11_init 23 = .ok (.putfield 19, 3) := by decide +kernel
theorem dX11_init_26 : decode cX11_init 26 = .ok (.aload_n 0, 1) := by decide +kernel
theorem dX11_init_27 : decode cX11_init 27 = .ok (.new 16, 3) := by decide +kernel
theorem dX11_init_30 : decode cX11_init 30 = .ok (.dup, 1) := by decide +kernel
theorem dX11_init_31 : decode cX11_init 31 = .ok (.invokespecial 18, 3) := by decide +kernel
theorem dX11_init_34 : decode cX11_init 34 = .ok (.putfield 23, 3) := by decide +kernel
theorem dX11_init_37 : decode cX11_init 37 = .ok (.aload_n 0, 1) := by decide +kernel
theorem dX11_init_38 : decode cX11_init 38 = .ok (.new 26, 3) := by decide +kernel
theorem dX11_init_41 : decode cX11_init 41 = .ok (.dup, 1) := by decide +kernel
theorem dX11_init_42 : decode cX11_init 42 = .ok (.invokespecial 28, 3) := by decide +kernel
theorem dX11_init_45 : decode cX11_init 45 = .ok (.putfield 29, 3) := by decide +kernel
theorem dX11_init_48 : decode cX11_init 48 = .ok (.aload_n 0, 1) := by decide +kernel
theorem dX11_init_49 : decode cX11_init 49 = .ok (.new 33, 3) := by decide +kernel
theorem dX11_init_52 : decode cX11_init 52 = .ok (.dup, 1) := by decide +kernel
theorem dX11_init_53 : decode cX11_init 53 = .ok (.invokespecial 35, 3) := by decide +kernel
theorem dX11_init_56 : decode cX11_init 56 = .ok (.putfield 36, 3) := by decide +kernel
theorem dX11_init_59 : decode cX11_init 59 = .ok (.aload_n 0, 1) := by decide +kernel
theorem dX11_init_60 : decode cX11_init 60 = .ok (.new 40, 3) := by decide +kernel
theorem dX11_init_63 : decode cX11_init 63 = .ok (.dup, 1) := by decide +kernel
theorem dX11_init_64 : decode cX11_init 64 = .ok (.invokespecial 42, 3) := by decide +kernel
theorem dX11_init_67 : decode cX11_init 67 = .ok (.putfield 43, 3) := by decide +kernel
theorem dX11_init_70 : decode cX11_init 70 = .ok (.aload_n 0, 1) := by decide +kernel
theorem dX11_init_71 : decode cX11_init 71 = .ok (.new 47, 3) := by decide +kernel
theorem dX11_init_74 : decode cX11_init 74 = .ok (.dup, 1) := by decide +kernel
theorem dX11_init_75 : decode cX11_init 75 = .ok (.invokespecial 49, 3) := by decide +kernel
theorem dX11_init_78 : decode cX11_init 78 = .ok (.putfield 50, 3) := by decide +kernel
theorem dX11_init_81 : decode cX11_init 81 = .ok (.aload_n 0, 1) := by decide +kernel
theorem dX11_init_82 : decode cX11_init 82 = .ok (.new 54, 3) := by decide +kernel
theorem dX11_init_85 : decode cX11_init 85 = .ok (.dup, 1) := by decide +kernel
theorem dX11_init_86 : decode cX11_init 86 = .ok (.invokespecial 56, 3) := by decide +kernel
theorem dX11_init_89 : decode cX11_init 89 = .ok (.putfield 57, 3) := by decide +kernel
theorem dX11_init_92 : decode cX11_init 92 = .ok (.return_, 1) := by decide +kernel
theorem dX11_feed_0 : decode cX11_feed 0 = .ok (.aload_n 0, 1) := by decide +kernel
theorem dX11_feed_1 : decode cX11_feed 1 = .ok (.getfield 10, 3) := by decide +kernel
theorem dX11_feed_4 : decode cX11_feed 4 = .ok (.getfield 61, 3) := by decide +kernel
theorem dX11_feed_7 : decode cX11_feed 7 = .ok (.astore 6, 2) := by decide +kernel
theorem dX11_feed_9 : decode cX11_feed 9 = .ok (.aload 6, 2) := by decide +kernel
theorem dX11_feed_11 : decode cX11_feed 11 = .ok (.getfield 65, 3) := by decide +kernel
theorem dX11_feed_14 : decode cX11_feed 14 = .ok (.sipush 980, 3) := by decide +kernel
theorem dX11_feed_17 : decode cX11_feed 17 = .ok (.if_icmp .le 5, 3) := by decide +kernel
theorem dX11_feed_20 : decode cX11_feed 20 = .ok (.iconst (-1), 1) := by decide +kernel
theorem dX11_feed_21 : decode cX11_feed 21 = .ok (.ireturn, 1) := by decide +kernel
theorem dX11_feed_22 : decode cX11_feed 22 = .ok (.aload 6, 2) := by decide +kernel
theorem dX11_feed_24 : decode cX11_feed 24 = .ok (.iload_n 1, 1) := by decide +kernel
theorem dX11_feed_25 : decode cX11_feed 25 = .ok (.invokevirtual 71, 3) := by decide +kernel
theorem dX11_feed_28 : decode cX11_feed 28 = .ok (.aload 6, 2) := by decide +kernel
theorem dX11_feed_30 : decode cX11_feed 30 = .ok (.iload_n 2, 1) := by decide +kernel
theorem dX11_feed_31 : decode cX11_feed 31 = .ok (.invokevirtual 71, 3) := by decide +kernel
theorem dX11_feed_34 : decode cX11_feed 34 = .ok (.aload 6, 2) := by decide +kernel
theorem dX11_feed_36 : decode cX11_feed 36 = .ok (.iload_n 3, 1) := by decide +kernel
theorem dX11_feed_37 : decode cX11_feed 37 = .ok (.invokevirtual 71, 3) := by decide +kernel
theorem dX11_feed_40 : decode cX11_feed 40 = .ok (.aload 6, 2) := by decide +kernel
theorem dX11_feed_42 : decode cX11_feed 42 = .ok (.iload 4, 2) := by decide +kernel
theorem dX11_feed_44 : decode cX11_feed 44 = .ok (.invokevirtual 71, 3) := by decide +kernel
theorem dX11_feed_47 : decode cX11_feed 47 = .ok (.aload 6, 2) := by decide +kernel
theorem dX11_feed_49 : decode cX11_feed 49 = .ok (.iload 5, 2) := by decide +kernel
theorem dX11_feed_51 : decode cX11_feed 51 = .ok (.invokevirtual 71, 3) := by decide +kernel
theorem dX11_feed_54 : decode cX11_feed 54 = .ok (.aload 6, 2) := by decide +kernel
theorem dX11_feed_56 : decode cX11_feed 56 = .ok (.getfield 65, 3) := by decide +kernel
theorem dX11_feed_59 : decode cX11_feed 59 = .ok (.ireturn, 1) := by decide +kernel
theorem dX11_room_0 : decode cX11_room 0 = .ok (.iload_n 1, 1) := by decide +kernel
theorem dX11_room_1 : decode cX11_room 1 = .ok (.ifCond .lt 17, 3) := by decide +kernel
theorem dX11_room_4 : decode cX11_room 4 = .ok (.iload_n 1, 1) := by decide +kernel
theorem dX11_room_5 : decode cX11_room 5 = .ok (.aload_n 0, 1) := by decide +kernel
theorem dX11_room_6 : decode cX11_room 6 = .ok (.getfield 10, 3) := by decide +kernel
theorem dX11_room_9 : decode cX11_room 9 = .ok (.getfield 61, 3) := by decide +kernel
theorem dX11_room_12 : decode cX11_room 12 = .ok (.getfield 65, 3) := by decide +kernel
theorem dX11_room_15 : decode cX11_room 15 = .ok (.if_icmp .le 9, 3) := by decide +kernel
theorem dX11_room_18 : decode cX11_room 18 = .ok (.aload_n 0, 1) := by decide +kernel
theorem dX11_room_19 : decode cX11_room 19 = .ok (.iconst 2, 1) := by decide +kernel
theorem dX11_room_20 : decode cX11_room 20 = .ok (.invokevirtual 75, 3) := by decide +kernel
theorem dX11_room_23 : decode cX11_room 23 = .ok (.ireturn, 1) := by decide +kernel
theorem dX11_room_24 : decode cX11_room 24 = .ok (.aload_n 0, 1) := by decide +kernel
theorem dX11_room_25 : decode cX11_room 25 = .ok (.getfield 10, 3) := by decide +kernel
theorem dX11_room_28 : decode cX11_room 28 = .ok (.iload_n 1, 1) := by decide +kernel
theorem dX11_room_29 : decode cX11_room 29 = .ok (.invokevirtual 79, 3) := by decide +kernel
theorem dX11_room_32 : decode cX11_room 32 = .ok (.istore_n 2, 1) := by decide +kernel
theorem dX11_room_33 : decode cX11_room 33 = .ok (.aload_n 0, 1) := by decide +kernel
theorem dX11_room_34 : decode cX11_room 34 = .ok (.getfield 10, 3) := by decide +kernel
theorem dX11_room_37 : decode cX11_room 37 = .ok (.getfield 61, 3) := by decide +kernel
theorem dX11_room_40 : decode cX11_room 40 = .ok (.iconst 0, 1) := by decide +kernel
theorem dX11_room_41 : decode cX11_room 41 = .ok (.putfield 65, 3) := by decide +kernel
theorem dX11_room_44 : decode cX11_room 44 = .ok (.aload_n 0, 1) := by decide +kernel
theorem dX11_room_45 : decode cX11_room 45 = .ok (.aload_n 0, 1) := by decide +kernel
theorem dX11_room_46 : decode cX11_room 46 = .ok (.getfield 10, 3) := by decide +kernel
theorem dX11_room_49 : decode cX11_room 49 = .ok (.getfield 83, 3) := by decide +kernel
theorem dX11_room_52 : decode cX11_room 52 = .ok (.putfield 86, 3) := by decide +kernel
theorem dX11_room_55 : decode cX11_room 55 = .ok (.aload_n 0, 1) := by decide +kernel
theorem dX11_room_56 : decode cX11_room 56 = .ok (.aload_n 0, 1) := by decide +kernel
theorem dX11_room_57 : decode cX11_room 57 = .ok (.getfield 10, 3) := by decide +kernel
theorem dX11_room_60 : decode cX11_room 60 = .ok (.getfield 89, 3) := by decide +kernel
theorem dX11_room_63 : decode cX11_room 63 = .ok (.putfield 92, 3) := by decide +kernel
theorem dX11_room_66 : decode cX11_room 66 = .ok (.iload_n 2, 1) := by decide +kernel
theorem dX11_room_67 : decode cX11_room 67 = .ok (.ifCond .ne 9, 3) := by decide +kernel
theorem dX11_room_70 : decode cX11_room 70 = .ok (.aload_n 0, 1) := by decide +kernel
theorem dX11_room_71 : decode cX11_room 71 = .ok (.iconst 4, 1) := by decide +kernel
theorem dX11_room_72 : decode cX11_room 72 = .ok (.invokevirtual 75, 3) := by decide +kernel
theorem dX11_room_75 : decode cX11_room 75 = .ok (.ireturn, 1) := by decide +kernel
theorem dX11_room_76 : decode cX11_room 76 = .ok (.aload_n 0, 1) := by decide +kernel
theorem dX11_room_77 : decode cX11_room 77 = .ok (.getfield 57, 3) := by decide +kernel
theorem dX11_room_80 : decode cX11_room 80 = .ok (.astore_n 3, 1) := by decide +kernel
theorem dX11_room_81 : decode cX11_room 81 = .ok (.aload_n 0, 1) := by decide +kernel
theorem dX11_room_82 : decode cX11_room 82 = .ok (.aload_n 0, 1) := by decide +kernel
theorem dX11_room_83 : decode cX11_room 83 = .ok (.getfield 10, 3) := by decide +kernel
theorem dX11_room_86 : decode cX11_room 86 = .ok (.getfield 93, 3) := by decide +kernel
theorem dX11_room_89 : decode cX11_room 89 = .ok (.putfield 57, 3) := by decide +kernel
theorem dX11_room_92 : decode cX11_room 92 = .ok (.aload_n 0, 1) := by decide +kernel
theorem dX11_room_93 : decode cX11_room 93 = .ok (.getfield 10, 3) := by decide +kernel
theorem dX11_room_96 : decode cX11_room 96 = .ok (.aload_n 3, 1) := by decide +kernel
theorem dX11_room_97 : decode cX11_room 97 = .ok (.putfield 93, 3) := by decide +kernel
theorem dX11_room_100 : decode cX11_room 100 = .ok (.aload_n 0, 1) := by decide +kernel
theorem dX11_room_101 : decode cX11_room 101 = .ok (.getfield 57, 3) := by decide +kernel
theorem dX11_room_104 : decode cX11_room 104 = .ok (.getfield 96, 3) := by decide +kernel
theorem dX11_room_107 : decode cX11_room 107 = .ok (.invokevirtual 100, 3) := by decide +kernel
theorem dX11_room_110 : decode cX11_room 110 = .ok (.aload_n 0, 1) := by decide +kernel
theorem dX11_room_111 : decode cX11_room 111 = .ok (.getfield 19, 3) := by decide +kernel
theorem dX11_room_114 : decode cX11_room 114 = .ok (.aload_n 0, 1) := by decide +kernel
theorem dX11_room_115 : decode cX11_room 115 = .ok (.getfield 57, 3) := by decide +kernel
theorem dX11_room_118 : decode cX11_room 118 = .ok (.getfield 105, 3) := by decide +kernel
theorem dX11_room_121 : decode cX11_room 121 = .ok (.invokevirtual 108, 3) := by decide +kernel
theorem dX11_room_124 : decode cX11_room 124 = .ok (.aload_n 0, 1) := by decide +kernel
theorem dX11_room_125 : decode cX11_room 125 = .ok (.getfield 29, 3) := by decide +kernel
theorem dX11_room_128 : decode cX11_room 128 = .ok (.invokevirtual 112, 3) := by decide +kernel
theorem dX11_room_131 : decode cX11_room 131 = .ok (.aload_n 0, 1) := by decide +kernel
theorem dX11_room_132 : decode cX11_room 132 = .ok (.aload_n 0, 1) := by decide +kernel
theorem dX11_room_133 : decode cX11_room 133 = .ok (.getfield 57, 3) := by decide +kernel
theorem dX11_room_136 : decode cX11_room 136 = .ok (.getfield 115, 3) := by decide +kernel
theorem dX11_room_139 : decode cX11_room 139 = .ok (.getfield 119, 3) := by decide +kernel
theorem dX11_room_142 : decode cX11_room 142 = .ok (.invokevirtual 124, 3) := by decide +kernel
theorem dX11_room_145 : decode cX11_room 145 = .ok (.ireturn, 1) := by decide +kernel
theorem dX11_fault_0 : decode cX11_fault 0 = .ok (.aload_n 0, 1) := by decide +kernel
theorem dX11_fault_1 : decode cX11_fault 1 = .ok (.getfield 86, 3) := by decide +kernel
theorem dX11_fault_4 : decode cX11_fault 4 = .ok (.ireturn, 1) := by decide +kernel
theorem dX11_where_0 : decode cX11_where 0 = .ok (.aload_n 0, 1) := by decide +kernel
theorem dX11_where_1 : decode cX11_where 1 = .ok (.getfield 127, 3) := by decide +kernel
theorem dX11_where_4 : decode cX11_where 4 = .ok (.iconst 4, 1) := by decide +kernel
theorem dX11_where_5 : decode cX11_where 5 = .ok (.if_icmp .ne 10, 3) := by decide +kernel
theorem dX11_where_8 : decode cX11_where 8 = .ok (.aload_n 0, 1) := by decide +kernel
theorem dX11_where_9 : decode cX11_where 9 = .ok (.getfield 92, 3) := by decide +kernel
theorem dX11_where_12 : decode cX11_where 12 = .ok (.goto 4, 3) := by decide +kernel
theorem dX11_where_15 : decode cX11_where 15 = .ok (.iconst (-1), 1) := by decide +kernel
theorem dX11_where_16 : decode cX11_where 16 = .ok (.ireturn, 1) := by decide +kernel
theorem dX11_bench_0 : decode cX11_bench 0 = .ok (.aload_n 0, 1) := by decide +kernel
theorem dX11_bench_1 : decode cX11_bench 1 = .ok (.getfield 57, 3) := by decide +kernel
theorem dX11_bench_4 : decode cX11_bench 4 = .ok (.getfield 115, 3) := by decide +kernel
theorem dX11_bench_7 : decode cX11_bench 7 = .ok (.astore_n 3, 1) := by decide +kernel
theorem dX11_bench_8 : decode cX11_bench 8 = .ok (.aload_n 3, 1) := by decide +kernel
theorem dX11_bench_9 : decode cX11_bench 9 = .ok (.iload_n 1, 1) := by decide +kernel
theorem dX11_bench_10 : decode cX11_bench 10 = .ok (.invokevirtual 130, 3) := by decide +kernel
theorem dX11_bench_13 : decode cX11_bench 13 = .ok (.ifCond .eq 13, 3) := by decide +kernel
theorem dX11_bench_16 : decode cX11_bench 16 = .ok (.iload_n 2, 1) := by decide +kernel
theorem dX11_bench_17 : decode cX11_bench 17 = .ok (.ifCond .lt 9, 3) := by decide +kernel
theorem dX11_bench_20 : decode cX11_bench 20 = .ok (.iload_n 2, 1) := by decide +kernel
theorem dX11_bench_21 : decode cX11_bench 21 = .ok (.bipush 6, 2) := by decide +kernel
theorem dX11_bench_23 : decode cX11_bench 23 = .ok (.if_icmp .le 9, 3) := by decide +kernel
theorem dX11_bench_26 : decode cX11_bench 26 = .ok (.aload_n 0, 1) := by decide +kernel
theorem dX11_bench_27 : decode cX11_bench 27 = .ok (.iconst 1, 1) := by decide +kernel
theorem dX11_bench_28 : decode cX11_bench 28 = .ok (.invokevirtual 75, 3) := by decide +kernel
theorem dX11_bench_31 : decode cX11_bench 31 = .ok (.ireturn, 1) := by decide +kernel
theorem dX11_bench_32 : decode cX11_bench 32 = .ok (.iload_n 2, 1) := by decide +kernel
theorem dX11_bench_33 : decode cX11_bench 33 = .ok (.tableswitch 124 0 5 #[39, 50, 71, 82, 93, 107], 39) := by decide +kernel
theorem dX11_bench_72 : decode cX11_bench 72 = .ok (.aload_n 0, 1) := by decide +kernel
theorem dX11_bench_73 : decode cX11_bench 73 = .ok (.aload_n 3, 1) := by decide +kernel
theorem dX11_bench_74 : decode cX11_bench 74 = .ok (.getfield 133, 3) := by decide +kernel
theorem dX11_bench_77 : decode cX11_bench 77 = .ok (.iload_n 1, 1) := by decide +kernel
theorem dX11_bench_78 : decode cX11_bench 78 = .ok (.iaload, 1) := by decide +kernel
theorem dX11_bench_79 : decode cX11_bench 79 = .ok (.invokevirtual 124, 3) := by decide +kernel
theorem dX11_bench_82 : decode cX11_bench 82 = .ok (.ireturn, 1) := by decide +kernel
theorem dX11_bench_83 : decode cX11_bench 83 = .ok (.aload_n 0, 1) := by decide +kernel
theorem dX11_bench_84 : decode cX11_bench 84 = .ok (.bipush 10, 2) := by decide +kernel
theorem dX11_bench_86 : decode cX11_bench 86 = .ok (.aload_n 3, 1) := by decide +kernel
theorem dX11_bench_87 : decode cX11_bench 87 = .ok (.getfield 137, 3) := by decide +kernel
theorem dX11_bench_90 : decode cX11_bench 90 = .ok (.iload_n 1, 1) := by decide +kernel
theorem dX11_bench_91 : decode cX11_bench 91 = .ok (.iaload, 1) := by decide +kernel
theorem dX11_bench_92 : decode cX11_bench 92 = .ok (.imul, 1) := by decide +kernel
theorem dX11_bench_93 : decode cX11_bench 93 = .ok (.aload_n 3, 1) := by decide +kernel
theorem dX11_bench_94 : decode cX11_bench 94 = .ok (.getfield 140, 3) := by decide +kernel
theorem dX11_bench_97 : decode cX11_bench 97 = .ok (.iload_n 1, 1) := by decide +kernel
theorem dX11_bench_98 : decode cX11_bench 98 = .ok (.iaload, 1) := by decide +kernel
theorem dX11_bench_99 : decode cX11_bench 99 = .ok (.iadd, 1) := by decide +kernel
theorem dX11_bench_100 : decode cX11_bench 100 = .ok (.invokevirtual 124, 3) := by decide +kernel
theorem dX11_bench_103 : decode cX11_bench 103 = .ok (.ireturn, 1) := by decide +kernel
theorem dX11_bench_104 : decode cX11_bench 104 = .ok (.aload_n 0, 1) := by decide +kernel
theorem dX11_bench_105 : decode cX11_bench 105 = .ok (.aload_n 3, 1) := by decide +kernel
theorem dX11_bench_106 : decode cX11_bench 106 = .ok (.getfield 143, 3) := by decide +kernel
theorem dX11_bench_109 : decode cX11_bench 109 = .ok (.iload_n 1, 1) := by decide +kernel
theorem dX11_bench_110 : decode cX11_bench 110 = .ok (.iaload, 1) := by decide +kernel
theorem dX11_bench_111 : decode cX11_bench 111 = .ok (.invokevirtual 124, 3) := by decide +kernel
theorem dX11_bench_114 : decode cX11_bench 114 = .ok (.ireturn, 1) := by decide +kernel
theorem dX11_bench_115 : decode cX11_bench 115 = .ok (.aload_n 0, 1) := by decide +kernel
theorem dX11_bench_116 : decode cX11_bench 116 = .ok (.aload_n 3, 1) := by decide +kernel
theorem dX11_bench_117 : decode cX11_bench 117 = .ok (.getfield 146, 3) := by decide +kernel
theorem dX11_bench_120 : decode cX11_bench 120 = .ok (.iload_n 1, 1) := by decide +kernel
theorem dX11_bench_121 : decode cX11_bench 121 = .ok (.iaload, 1) := by decide +kernel
theorem dX11_bench_122 : decode cX11_bench 122 = .ok (.invokevirtual 124, 3) := by decide +kernel
theorem dX11_bench_125 : decode cX11_bench 125 = .ok (.ireturn, 1) := by decide +kernel
theorem dX11_bench_126 : decode cX11_bench 126 = .ok (.aload_n 0, 1) := by decide +kernel
theorem dX11_bench_127 : decode cX11_bench 127 = .ok (.aload_n 3, 1) := by decide +kernel
theorem dX11_bench_128 : decode cX11_bench 128 = .ok (.iload_n 1, 1) := by decide +kernel
theorem dX11_bench_129 : decode cX11_bench 129 = .ok (.aload_n 3, 1) := by decide +kernel
theorem dX11_bench_130 : decode cX11_bench 130 = .ok (.getfield 149, 3) := by decide +kernel
theorem dX11_bench_133 : decode cX11_bench 133 = .ok (.invokevirtual 152, 3) := by decide +kernel
theorem dX11_bench_136 : decode cX11_bench 136 = .ok (.invokevirtual 124, 3) := by decide +kernel
theorem dX11_bench_139 : decode cX11_bench 139 = .ok (.ireturn, 1) := by decide +kernel
theorem dX11_bench_140 : decode cX11_bench 140 = .ok (.aload_n 0, 1) := by decide +kernel
theorem dX11_bench_141 : decode cX11_bench 141 = .ok (.aload_n 0, 1) := by decide +kernel
theorem dX11_bench_142 : decode cX11_bench 142 = .ok (.getfield 57, 3) := by decide +kernel
theorem dX11_bench_145 : decode cX11_bench 145 = .ok (.aload_n 0, 1) := by decide +kernel
theorem dX11_bench_146 : decode cX11_bench 146 = .ok (.getfield 19, 3) := by decide +kernel
theorem dX11_bench_149 : decode cX11_bench 149 = .ok (.iload_n 1, 1) := by decide +kernel
theorem dX11_bench_150 : decode cX11_bench 150 = .ok (.invokevirtual 156, 3) := by decide +kernel
theorem dX11_bench_153 : decode cX11_bench 153 = .ok (.invokevirtual 124, 3) := by decide +kernel
theorem dX11_bench_156 : decode cX11_bench 156 = .ok (.ireturn, 1) := by decide +kernel
theorem dX11_bench_157 : decode cX11_bench 157 = .ok (.aload_n 0, 1) := by decide +kernel
theorem dX11_bench_158 : decode cX11_bench 158 = .ok (.aload_n 0, 1) := by decide +kernel
theorem dX11_bench_159 : decode cX11_bench 159 = .ok (.getfield 19, 3) := by decide +kernel
theorem dX11_bench_162 : decode cX11_bench 162 = .ok (.iload_n 1, 1) := by decide +kernel
theorem dX11_bench_163 : decode cX11_bench 163 = .ok (.invokevirtual 160, 3) := by decide +kernel
theorem dX11_bench_166 : decode cX11_bench 166 = .ok (.invokevirtual 124, 3) := by decide +kernel
theorem dX11_bench_169 : decode cX11_bench 169 = .ok (.ireturn, 1) := by decide +kernel
theorem dX11_person_0 : decode cX11_person 0 = .ok (.aload_n 0, 1) := by decide +kernel
theorem dX11_person_1 : decode cX11_person 1 = .ok (.getfield 57, 3) := by decide +kernel
theorem dX11_person_4 : decode cX11_person 4 = .ok (.getfield 163, 3) := by decide +kernel
theorem dX11_person_7 : decode cX11_person 7 = .ok (.astore_n 3, 1) := by decide +kernel
theorem dX11_person_8 : decode cX11_person 8 = .ok (.aload_n 3, 1) := by decide +kernel
theorem dX11_person_9 : decode cX11_person 9 = .ok (.iload_n 1, 1) := by decide +kernel
theorem dX11_person_10 : decode cX11_person 10 = .ok (.invokevirtual 167, 3) := by decide +kernel
theorem dX11_person_13 : decode cX11_person 13 = .ok (.ifCond .eq 12, 3) := by decide +kernel
theorem dX11_person_16 : decode cX11_person 16 = .ok (.iload_n 2, 1) := by decide +kernel
theorem dX11_person_17 : decode cX11_person 17 = .ok (.ifCond .lt 8, 3) := by decide +kernel
theorem dX11_person_20 : decode cX11_person 20 = .ok (.iload_n 2, 1) := by decide +kernel
theorem dX11_person_21 : decode cX11_person 21 = .ok (.iconst 5, 1) := by decide +kernel
theorem dX11_person_22 : decode cX11_person 22 = .ok (.if_icmp .le 12, 3) := by decide +kernel
theorem dX11_person_25 : decode cX11_person 25 = .ok (.aload_n 0, 1) := by decide +kernel
theorem dX11_person_26 : decode cX11_person 26 = .ok (.iconst 1, 1) := by decide +kernel
theorem dX11_person_27 : decode cX11_person 27 = .ok (.sipush (-1000), 3) := by decide +kernel
theorem dX11_person_30 : decode cX11_person 30 = .ok (.invokevirtual 170, 3) := by decide +kernel
theorem dX11_person_33 : decode cX11_person 33 = .ok (.ireturn, 1) := by decide +kernel
theorem dX11_person_34 : decode cX11_person 34 = .ok (.iload_n 2, 1) := by decide +kernel
theorem dX11_person_35 : decode cX11_person 35 = .ok (.tableswitch 118 0 4 #[33, 44, 55, 69, 104], 33) := by decide +kernel
theorem dX11_person_68 : decode cX11_person 68 = .ok (.aload_n 0, 1) := by decide +kernel
theorem dX11_person_69 : decode cX11_person 69 = .ok (.aload_n 3, 1) := by decide +kernel
theorem dX11_person_70 : decode cX11_person 70 = .ok (.getfield 173, 3) := by decide +kernel
theorem dX11_person_73 : decode cX11_person 73 = .ok (.iload_n 1, 1) := by decide +kernel
theorem dX11_person_74 : decode cX11_person 74 = .ok (.iaload, 1) := by decide +kernel
theorem dX11_person_75 : decode cX11_person 75 = .ok (.invokevirtual 124, 3) := by decide +kernel
theorem dX11_person_78 : decode cX11_person 78 = .ok (.ireturn, 1) := by decide +kernel
theorem dX11_person_79 : decode cX11_person 79 = .ok (.aload_n 0, 1) := by decide +kernel
theorem dX11_person_80 : decode cX11_person 80 = .ok (.aload_n 3, 1) := by decide +kernel
theorem dX11_person_81 : decode cX11_person 81 = .ok (.getfield 176, 3) := by decide +kernel
theorem dX11_person_84 : decode cX11_person 84 = .ok (.iload_n 1, 1) := by decide +kernel
theorem dX11_person_85 : decode cX11_person 85 = .ok (.iaload, 1) := by decide +kernel
theorem dX11_person_86 : decode cX11_person 86 = .ok (.invokevirtual 124, 3) := by decide +kernel
theorem dX11_person_89 : decode cX11_person 89 = .ok (.ireturn, 1) := by decide +kernel
theorem dX11_person_90 : decode cX11_person 90 = .ok (.aload_n 0, 1) := by decide +kernel
theorem dX11_person_91 : decode cX11_person 91 = .ok (.aload_n 0, 1) := by decide +kernel
theorem dX11_person_92 : decode cX11_person 92 = .ok (.getfield 19, 3) := by decide +kernel
theorem dX11_person_95 : decode cX11_person 95 = .ok (.getfield 179, 3) := by decide +kernel
theorem dX11_person_98 : decode cX11_person 98 = .ok (.iload_n 1, 1) := by decide +kernel
theorem dX11_person_99 : decode cX11_person 99 = .ok (.iaload, 1) := by decide +kernel
theorem dX11_person_100 : decode cX11_person 100 = .ok (.invokevirtual 124, 3) := by decide +kernel
theorem dX11_person_103 : decode cX11_person 103 = .ok (.ireturn, 1) := by decide +kernel
theorem dX11_person_104 : decode cX11_person 104 = .ok (.aload_n 0, 1) := by decide +kernel
theorem dX11_person_105 : decode cX11_person 105 = .ok (.aload_n 0, 1) := by decide +kernel
theorem dX11_person_106 : decode cX11_person 106 = .ok (.getfield 57, 3) := by decide +kernel
theorem dX11_person_109 : decode cX11_person 109 = .ok (.aload_n 0, 1) := by decide +kernel
theorem dX11_person_110 : decode cX11_person 110 = .ok (.getfield 19, 3) := by decide +kernel
theorem dX11_person_113 : decode cX11_person 113 = .ok (.iload_n 1, 1) := by decide +kernel
theorem dX11_person_114 : decode cX11_person 114 = .ok (.aload_n 0, 1) := by decide +kernel
theorem dX11_person_115 : decode cX11_person 115 = .ok (.getfield 57, 3) := by decide +kernel
theorem dX11_person_118 : decode cX11_person 118 = .ok (.getfield 115, 3) := by decide +kernel
theorem dX11_person_121 : decode cX11_person 121 = .ok (.getfield 149, 3) := by decide +kernel
theorem dX11_person_124 : decode cX11_person 124 = .ok (.invokevirtual 182, 3) := by decide +kernel
theorem dX11_person_127 : decode cX11_person 127 = .ok (.ifCond .eq 7, 3) := by decide +kernel
theorem dX11_person_130 : decode cX11_person 130 = .ok (.iconst 1, 1) := by decide +kernel
theorem dX11_person_131 : decode cX11_person 131 = .ok (.goto 4, 3) := by decide +kernel
theorem dX11_person_134 : decode cX11_person 134 = .ok (.iconst 0, 1) := by decide +kernel
theorem dX11_person_135 : decode cX11_person 135 = .ok (.invokevirtual 124, 3) := by decide +kernel
theorem dX11_person_138 : decode cX11_person 138 = .ok (.ireturn, 1) := by decide +kernel
theorem dX11_person_139 : decode cX11_person 139 = .ok (.aload_n 0, 1) := by decide +kernel
theorem dX11_person_140 : decode cX11_person 140 = .ok (.aload_n 0, 1) := by decide +kernel
theorem dX11_person_141 : decode cX11_person 141 = .ok (.getfield 19, 3) := by decide +kernel
theorem dX11_person_144 : decode cX11_person 144 = .ok (.getfield 186, 3) := by decide +kernel
theorem dX11_person_147 : decode cX11_person 147 = .ok (.iload_n 1, 1) := by decide +kernel
theorem dX11_person_148 : decode cX11_person 148 = .ok (.iaload, 1) := by decide +kernel
theorem dX11_person_149 : decode cX11_person 149 = .ok (.invokevirtual 124, 3) := by decide +kernel
theorem dX11_person_152 : decode cX11_person 152 = .ok (.ireturn, 1) := by decide +kernel
theorem dX11_person_153 : decode cX11_person 153 = .ok (.aload_n 0, 1) := by decide +kernel
theorem dX11_person_154 : decode cX11_person 154 = .ok (.aload_n 3, 1) := by decide +kernel
theorem dX11_person_155 : decode cX11_person 155 = .ok (.iload_n 1, 1) := by decide +kernel
theorem dX11_person_156 : decode cX11_person 156 = .ok (.invokevirtual 189, 3) := by decide +kernel
theorem dX11_person_159 : decode cX11_person 159 = .ok (.invokevirtual 124, 3) := by decide +kernel
theorem dX11_person_162 : decode cX11_person 162 = .ok (.ireturn, 1) := by decide +kernel
theorem dX11_may_0 : decode cX11_may 0 = .ok (.aload_n 0, 1) := by decide +kernel
theorem dX11_may_1 : decode cX11_may 1 = .ok (.getfield 57, 3) := by decide +kernel
theorem dX11_may_4 : decode cX11_may 4 = .ok (.getfield 163, 3) := by decide +kernel
theorem dX11_may_7 : decode cX11_may 7 = .ok (.iload_n 1, 1) := by decide +kernel
theorem dX11_may_8 : decode cX11_may 8 = .ok (.invokevirtual 167, 3) := by decide +kernel
theorem dX11_may_11 : decode cX11_may 11 = .ok (.ifCond .eq 17, 3) := by decide +kernel
theorem dX11_may_14 : decode cX11_may 14 = .ok (.aload_n 0, 1) := by decide +kernel
theorem dX11_may_15 : decode cX11_may 15 = .ok (.getfield 57, 3) := by decide +kernel
theorem dX11_may_18 : decode cX11_may 18 = .ok (.getfield 115, 3) := by decide +kernel
theorem dX11_may_21 : decode cX11_may 21 = .ok (.iload_n 2, 1) := by decide +kernel
theorem dX11_may_22 : decode cX11_may 22 = .ok (.invokevirtual 130, 3) := by decide +kernel
theorem dX11_may_25 : decode cX11_may 25 = .ok (.ifCond .ne 9, 3) := by decide +kernel
theorem dX11_may_28 : decode cX11_may 28 = .ok (.aload_n 0, 1) := by decide +kernel
theorem dX11_may_29 : decode cX11_may 29 = .ok (.iconst 1, 1) := by decide +kernel
theorem dX11_may_30 : decode cX11_may 30 = .ok (.invokevirtual 75, 3) := by decide +kernel
theorem dX11_may_33 : decode cX11_may 33 = .ok (.ireturn, 1) := by decide +kernel
theorem dX11_may_34 : decode cX11_may 34 = .ok (.aload_n 0, 1) := by decide +kernel
theorem dX11_may_35 : decode cX11_may 35 = .ok (.aload_n 0, 1) := by decide +kernel
theorem dX11_may_36 : decode cX11_may 36 = .ok (.getfield 57, 3) := by decide +kernel
theorem dX11_may_39 : decode cX11_may 39 = .ok (.iload_n 1, 1) := by decide +kernel
theorem dX11_may_40 : decode cX11_may 40 = .ok (.iload_n 2, 1) := by decide +kernel
theorem dX11_may_41 : decode cX11_may 41 = .ok (.invokevirtual 192, 3) := by decide +kernel
theorem dX11_may_44 : decode cX11_may 44 = .ok (.ifCond .eq 7, 3) := by decide +kernel
theorem dX11_may_47 : decode cX11_may 47 = .ok (.iconst 1, 1) := by decide +kernel
theorem dX11_may_48 : decode cX11_may 48 = .ok (.goto 4, 3) := by decide +kernel
theorem dX11_may_51 : decode cX11_may 51 = .ok (.iconst 0, 1) := by decide +kernel
theorem dX11_may_52 : decode cX11_may 52 = .ok (.invokevirtual 124, 3) := by decide +kernel
theorem dX11_may_55 : decode cX11_may 55 = .ok (.ireturn, 1) := by decide +kernel
theorem dX11_content_0 : decode cX11_content 0 = .ok (.aload_n 0, 1) := by decide +kernel
theorem dX11_content_1 : decode cX11_content 1 = .ok (.getfield 57, 3) := by decide +kernel
theorem dX11_content_4 : decode cX11_content 4 = .ok (.getfield 196, 3) := by decide +kernel
theorem dX11_content_7 : decode cX11_content 7 = .ok (.ifCond .ne 9, 3) := by decide +kernel
theorem dX11_content_10 : decode cX11_content 10 = .ok (.aload_n 0, 1) := by decide +kernel
theorem dX11_content_11 : decode cX11_content 11 = .ok (.iconst 1, 1) := by decide +kernel
theorem dX11_content_12 : decode cX11_content 12 = .ok (.invokevirtual 75, 3) := by decide +kernel
theorem dX11_content_15 : decode cX11_content 15 = .ok (.ireturn, 1) := by decide +kernel
theorem dX11_content_16 : decode cX11_content 16 = .ok (.aload_n 0, 1) := by decide +kernel
theorem dX11_content_17 : decode cX11_content 17 = .ok (.aload_n 0, 1) := by decide +kernel
theorem dX11_content_18 : decode cX11_content 18 = .ok (.getfield 57, 3) := by decide +kernel
theorem dX11_content_21 : decode cX11_content 21 = .ok (.aload_n 0, 1) := by decide +kernel
theorem dX11_content_22 : decode cX11_content 22 = .ok (.getfield 19, 3) := by decide +kernel
theorem dX11_content_25 : decode cX11_content 25 = .ok (.aload_n 0, 1) := by decide +kernel
theorem dX11_content_26 : decode cX11_content 26 = .ok (.getfield 57, 3) := by decide +kernel
theorem dX11_content_29 : decode cX11_content 29 = .ok (.getfield 115, 3) := by decide +kernel
theorem dX11_content_32 : decode cX11_content 32 = .ok (.getfield 149, 3) := by decide +kernel
theorem dX11_content_35 : decode cX11_content 35 = .ok (.invokevirtual 200, 3) := by decide +kernel
theorem dX11_content_38 : decode cX11_content 38 = .ok (.invokevirtual 124, 3) := by decide +kernel
theorem dX11_content_41 : decode cX11_content 41 = .ok (.ireturn, 1) := by decide +kernel
theorem dX11_warmest_0 : decode cX11_warmest 0 = .ok (.aload_n 0, 1) := by decide +kernel
theorem dX11_warmest_1 : decode cX11_warmest 1 = .ok (.getfield 57, 3) := by decide +kernel
theorem dX11_warmest_4 : decode cX11_warmest 4 = .ok (.getfield 163, 3) := by decide +kernel
theorem dX11_warmest_7 : decode cX11_warmest 7 = .ok (.iload_n 1, 1) := by decide +kernel
theorem dX11_warmest_8 : decode cX11_warmest 8 = .ok (.invokevirtual 167, 3) := by decide +kernel
theorem dX11_warmest_11 : decode cX11_warmest 11 = .ok (.ifCond .ne 9, 3) := by decide +kernel
theorem dX11_warmest_14 : decode cX11_warmest 14 = .ok (.aload_n 0, 1) := by decide +kernel
theorem dX11_warmest_15 : decode cX11_warmest 15 = .ok (.iconst 1, 1) := by decide +kernel
theorem dX11_warmest_16 : decode cX11_warmest 16 = .ok (.invokevirtual 75, 3) := by decide +kernel
theorem dX11_warmest_19 : decode cX11_warmest 19 = .ok (.ireturn, 1) := by decide +kernel
theorem dX11_warmest_20 : decode cX11_warmest 20 = .ok (.aload_n 0, 1) := by decide +kernel
theorem dX11_warmest_21 : decode cX11_warmest 21 = .ok (.aload_n 0, 1) := by decide +kernel
theorem dX11_warmest_22 : decode cX11_warmest 22 = .ok (.getfield 57, 3) := by decide +kernel
theorem dX11_warmest_25 : decode cX11_warmest 25 = .ok (.aload_n 0, 1) := by decide +kernel
theorem dX11_warmest_26 : decode cX11_warmest 26 = .ok (.getfield 19, 3) := by decide +kernel
theorem dX11_warmest_29 : decode cX11_warmest 29 = .ok (.iload_n 1, 1) := by decide +kernel
theorem dX11_warmest_30 : decode cX11_warmest 30 = .ok (.invokevirtual 203, 3) := by decide +kernel
theorem dX11_warmest_33 : decode cX11_warmest 33 = .ok (.invokevirtual 124, 3) := by decide +kernel
theorem dX11_warmest_36 : decode cX11_warmest 36 = .ok (.ireturn, 1) := by decide +kernel
theorem dX11_rents_0 : decode cX11_rents 0 = .ok (.aload_n 0, 1) := by decide +kernel
theorem dX11_rents_1 : decode cX11_rents 1 = .ok (.getfield 57, 3) := by decide +kernel
theorem dX11_rents_4 : decode cX11_rents 4 = .ok (.getfield 196, 3) := by decide +kernel
theorem dX11_rents_7 : decode cX11_rents 7 = .ok (.ifCond .ne 9, 3) := by decide +kernel
theorem dX11_rents_10 : decode cX11_rents 10 = .ok (.aload_n 0, 1) := by decide +kernel
theorem dX11_rents_11 : decode cX11_rents 11 = .ok (.iconst 1, 1) := by decide +kernel
theorem dX11_rents_12 : decode cX11_rents 12 = .ok (.invokevirtual 75, 3) := by decide +kernel
theorem dX11_rents_15 : decode cX11_rents 15 = .ok (.ireturn, 1) := by decide +kernel
theorem dX11_rents_16 : decode cX11_rents 16 = .ok (.aload_n 0, 1) := by decide +kernel
theorem dX11_rents_17 : decode cX11_rents 17 = .ok (.aload_n 0, 1) := by decide +kernel
theorem dX11_rents_18 : decode cX11_rents 18 = .ok (.getfield 57, 3) := by decide +kernel
theorem dX11_rents_21 : decode cX11_rents 21 = .ok (.aload_n 0, 1) := by decide +kernel
theorem dX11_rents_22 : decode cX11_rents 22 = .ok (.getfield 19, 3) := by decide +kernel
theorem dX11_rents_25 : decode cX11_rents 25 = .ok (.invokevirtual 206, 3) := by decide +kernel
theorem dX11_rents_28 : decode cX11_rents 28 = .ok (.invokevirtual 124, 3) := by decide +kernel
theorem dX11_rents_31 : decode cX11_rents 31 = .ok (.ireturn, 1) := by decide +kernel
theorem dX11_heatFor_0 : decode cX11_heatFor 0 = .ok (.aload_n 0, 1) := by decide +kernel
theorem dX11_heatFor_1 : decode cX11_heatFor 1 = .ok (.getfield 57, 3) := by decide +kernel
theorem dX11_heatFor_4 : decode cX11_heatFor 4 = .ok (.getfield 196, 3) := by decide +kernel
theorem dX11_heatFor_7 : decode cX11_heatFor 7 = .ok (.ifCond .ne 9, 3) := by decide +kernel
theorem dX11_heatFor_10 : decode cX11_heatFor 10 = .ok (.aload_n 0, 1) := by decide +kernel
theorem dX11_heatFor_11 : decode cX11_heatFor 11 = .ok (.iconst 1, 1) := by decide +kernel
theorem dX11_heatFor_12 : decode cX11_heatFor 12 = .ok (.invokevirtual 75, 3) := by decide +kernel
theorem dX11_heatFor_15 : decode cX11_heatFor 15 = .ok (.ireturn, 1) := by decide +kernel
theorem dX11_heatFor_16 : decode cX11_heatFor 16 = .ok (.aload_n 0, 1) := by decide +kernel
theorem dX11_heatFor_17 : decode cX11_heatFor 17 = .ok (.aload_n 0, 1) := by decide +kernel
theorem dX11_heatFor_18 : decode cX11_heatFor 18 = .ok (.getfield 57, 3) := by decide +kernel
theorem dX11_heatFor_21 : decode cX11_heatFor 21 = .ok (.aload_n 0, 1) := by decide +kernel
theorem dX11_heatFor_22 : decode cX11_heatFor 22 = .ok (.getfield 19, 3) := by decide +kernel
theorem dX11_heatFor_25 : decode cX11_heatFor 25 = .ok (.invokevirtual 210, 3) := by decide +kernel
theorem dX11_heatFor_28 : decode cX11_heatFor 28 = .ok (.invokevirtual 124, 3) := by decide +kernel
theorem dX11_heatFor_31 : decode cX11_heatFor 31 = .ok (.ireturn, 1) := by decide +kernel
theorem dX11_packed_0 : decode cX11_packed 0 = .ok (.aload_n 0, 1) := by decide +kernel
theorem dX11_packed_1 : decode cX11_packed 1 = .ok (.getfield 57, 3) := by decide +kernel
theorem dX11_packed_4 : decode cX11_packed 4 = .ok (.getfield 196, 3) := by decide +kernel
theorem dX11_packed_7 : decode cX11_packed 7 = .ok (.ifCond .ne 9, 3) := by decide +kernel
theorem dX11_packed_10 : decode cX11_packed 10 = .ok (.aload_n 0, 1) := by decide +kernel
theorem dX11_packed_11 : decode cX11_packed 11 = .ok (.iconst 1, 1) := by decide +kernel
theorem dX11_packed_12 : decode cX11_packed 12 = .ok (.invokevirtual 75, 3) := by decide +kernel
theorem dX11_packed_15 : decode cX11_packed 15 = .ok (.ireturn, 1) := by decide +kernel
theorem dX11_packed_16 : decode cX11_packed 16 = .ok (.aload_n 0, 1) := by decide +kernel
theorem dX11_packed_17 : decode cX11_packed 17 = .ok (.getfield 36, 3) := by decide +kernel
theorem dX11_packed_20 : decode cX11_packed 20 = .ok (.aload_n 0, 1) := by decide +kernel
theorem dX11_packed_21 : decode cX11_packed 21 = .ok (.getfield 57, 3) := by decide +kernel
theorem dX11_packed_24 : decode cX11_packed 24 = .ok (.invokevirtual 213, 3) := by decide +kernel
theorem dX11_packed_27 : decode cX11_packed 27 = .ok (.aload_n 0, 1) := by decide +kernel
theorem dX11_packed_28 : decode cX11_packed 28 = .ok (.aload_n 0, 1) := by decide +kernel
theorem dX11_packed_29 : decode cX11_packed 29 = .ok (.getfield 36, 3) := by decide +kernel
theorem dX11_packed_32 : decode cX11_packed 32 = .ok (.aload_n 0, 1) := by decide +kernel
theorem dX11_packed_33 : decode cX11_packed 33 = .ok (.getfield 57, 3) := by decide +kernel
theorem dX11_packed_36 : decode cX11_packed 36 = .ok (.getfield 163, 3) := by decide +kernel
theorem dX11_packed_39 : decode cX11_packed 39 = .ok (.invokevirtual 217, 3) := by decide +kernel
theorem dX11_packed_42 : decode cX11_packed 42 = .ok (.invokevirtual 221, 3) := by decide +kernel
theorem dX11_packed_45 : decode cX11_packed 45 = .ok (.invokevirtual 124, 3) := by decide +kernel
theorem dX11_packed_48 : decode cX11_packed 48 = .ok (.ireturn, 1) := by decide +kernel
theorem dX11_packedAt_0 : decode cX11_packedAt 0 = .ok (.aload_n 0, 1) := by decide +kernel
theorem dX11_packedAt_1 : decode cX11_packedAt 1 = .ok (.getfield 57, 3) := by decide +kernel
theorem dX11_packedAt_4 : decode cX11_packedAt 4 = .ok (.getfield 163, 3) := by decide +kernel
theorem dX11_packedAt_7 : decode cX11_packedAt 7 = .ok (.iload_n 1, 1) := by decide +kernel
theorem dX11_packedAt_8 : decode cX11_packedAt 8 = .ok (.invokevirtual 167, 3) := by decide +kernel
theorem dX11_packedAt_11 : decode cX11_packedAt 11 = .ok (.ifCond .ne 9, 3) := by decide +kernel
theorem dX11_packedAt_14 : decode cX11_packedAt 14 = .ok (.aload_n 0, 1) := by decide +kernel
theorem dX11_packedAt_15 : decode cX11_packedAt 15 = .ok (.iconst 1, 1) := by decide +kernel
theorem dX11_packedAt_16 : decode cX11_packedAt 16 = .ok (.invokevirtual 75, 3) := by decide +kernel
theorem dX11_packedAt_19 : decode cX11_packedAt 19 = .ok (.ireturn, 1) := by decide +kernel
theorem dX11_packedAt_20 : decode cX11_packedAt 20 = .ok (.aload_n 0, 1) := by decide +kernel
theorem dX11_packedAt_21 : decode cX11_packedAt 21 = .ok (.aload_n 0, 1) := by decide +kernel
theorem dX11_packedAt_22 : decode cX11_packedAt 22 = .ok (.getfield 36, 3) := by decide +kernel
theorem dX11_packedAt_25 : decode cX11_packedAt 25 = .ok (.aload_n 0, 1) := by decide +kernel
theorem dX11_packedAt_26 : decode cX11_packedAt 26 = .ok (.getfield 57, 3) := by decide +kernel
theorem dX11_packedAt_29 : decode cX11_packedAt 29 = .ok (.iload_n 1, 1) := by decide +kernel
theorem dX11_packedAt_30 : decode cX11_packedAt 30 = .ok (.invokevirtual 224, 3) := by decide +kernel
theorem dX11_packedAt_33 : decode cX11_packedAt 33 = .ok (.invokevirtual 124, 3) := by decide +kernel
theorem dX11_packedAt_36 : decode cX11_packedAt 36 = .ok (.ireturn, 1) := by decide +kernel
theorem dX11_cheapest_0 : decode cX11_cheapest 0 = .ok (.aload_n 0, 1) := by decide +kernel
theorem dX11_cheapest_1 : decode cX11_cheapest 1 = .ok (.getfield 57, 3) := by decide +kernel
theorem dX11_cheapest_4 : decode cX11_cheapest 4 = .ok (.getfield 196, 3) := by decide +kernel
theorem dX11_cheapest_7 : decode cX11_cheapest 7 = .ok (.ifCond .ne 9, 3) := by decide +kernel
theorem dX11_cheapest_10 : decode cX11_cheapest 10 = .ok (.aload_n 0, 1) := by decide +kernel
theorem dX11_cheapest_11 : decode cX11_cheapest 11 = .ok (.iconst 1, 1) := by decide +kernel
theorem dX11_cheapest_12 : decode cX11_cheapest 12 = .ok (.invokevirtual 75, 3) := by decide +kernel
theorem dX11_cheapest_15 : decode cX11_cheapest 15 = .ok (.ireturn, 1) := by decide +kernel
theorem dX11_cheapest_16 : decode cX11_cheapest 16 = .ok (.aload_n 0, 1) := by decide +kernel
theorem dX11_cheapest_17 : decode cX11_cheapest 17 = .ok (.aload_n 0, 1) := by decide +kernel
theorem dX11_cheapest_18 : decode cX11_cheapest 18 = .ok (.getfield 36, 3) := by decide +kernel
theorem dX11_cheapest_21 : decode cX11_cheapest 21 = .ok (.aload_n 0, 1) := by decide +kernel
theorem dX11_cheapest_22 : decode cX11_cheapest 22 = .ok (.getfield 57, 3) := by decide +kernel
theorem dX11_cheapest_25 : decode cX11_cheapest 25 = .ok (.invokevirtual 228, 3) := by decide +kernel
theorem dX11_cheapest_28 : decode cX11_cheapest 28 = .ok (.invokevirtual 124, 3) := by decide +kernel
theorem dX11_cheapest_31 : decode cX11_cheapest 31 = .ok (.ireturn, 1) := by decide +kernel
theorem dX11_packedWithout_0 : decode cX11_packedWithout 0 = .ok (.aload_n 0, 1) := by decide +kernel
theorem dX11_packedWithout_1 : decode cX11_packedWithout 1 = .ok (.getfield 57, 3) := by decide +kernel
theorem dX11_packedWithout_4 : decode cX11_packedWithout 4 = .ok (.getfield 163, 3) := by decide +kernel
theorem dX11_packedWithout_7 : decode cX11_packedWithout 7 = .ok (.iload_n 1, 1) := by decide +kernel
theorem dX11_packedWithout_8 : decode cX11_packedWithout 8 = .ok (.invokevirtual 167, 3) := by decide +kernel
theorem dX11_packedWithout_11 : decode cX11_packedWithout 11 = .ok (.ifCond .ne 9, 3) := by decide +kernel
theorem dX11_packedWithout_14 : decode cX11_packedWithout 14 = .ok (.aload_n 0, 1) := by decide +kernel
theorem dX11_packedWithout_15 : decode cX11_packedWithout 15 = .ok (.iconst 1, 1) := by decide +kernel
theorem dX11_packedWithout_16 : decode cX11_packedWithout 16 = .ok (.invokevirtual 75, 3) := by decide +kernel
theorem dX11_packedWithout_19 : decode cX11_packedWithout 19 = .ok (.ireturn, 1) := by decide +kernel
theorem dX11_packedWithout_20 : decode cX11_packedWithout 20 = .ok (.aload_n 0, 1) := by decide +kernel
theorem dX11_packedWithout_21 : decode cX11_packedWithout 21 = .ok (.getfield 36, 3) := by decide +kernel
theorem dX11_packedWithout_24 : decode cX11_packedWithout 24 = .ok (.aload_n 0, 1) := by decide +kernel
theorem dX11_packedWithout_25 : decode cX11_packedWithout 25 = .ok (.getfield 57, 3) := by decide +kernel
theorem dX11_packedWithout_28 : decode cX11_packedWithout 28 = .ok (.invokevirtual 213, 3) := by decide +kernel
theorem dX11_packedWithout_31 : decode cX11_packedWithout 31 = .ok (.aload_n 0, 1) := by decide +kernel
theorem dX11_packedWithout_32 : decode cX11_packedWithout 32 = .ok (.aload_n 0, 1) := by decide +kernel
theorem dX11_packedWithout_33 : decode cX11_packedWithout 33 = .ok (.getfield 36, 3) := by decide +kernel
theorem dX11_packedWithout_36 : decode cX11_packedWithout 36 = .ok (.aload_n 0, 1) := by decide +kernel
theorem dX11_packedWithout_37 : decode cX11_packedWithout 37 = .ok (.getfield 57, 3) := by decide +kernel
theorem dX11_packedWithout_40 : decode cX11_packedWithout 40 = .ok (.getfield 163, 3) := by decide +kernel
theorem dX11_packedWithout_43 : decode cX11_packedWithout 43 = .ok (.invokevirtual 217, 3) := by decide +kernel
theorem dX11_packedWithout_46 : decode cX11_packedWithout 46 = .ok (.iconst 1, 1) := by decide +kernel
theorem dX11_packedWithout_47 : decode cX11_packedWithout 47 = .ok (.iload_n 1, 1) := by decide +kernel
theorem dX11_packedWithout_48 : decode cX11_packedWithout 48 = .ok (.ishl, 1) := by decide +kernel
theorem dX11_packedWithout_49 : decode cX11_packedWithout 49 = .ok (.iconst (-1), 1) := by decide +kernel
theorem dX11_packedWithout_50 : decode cX11_packedWithout 50 = .ok (.ixor, 1) := by decide +kernel
theorem dX11_packedWithout_51 : decode cX11_packedWithout 51 = .ok (.iand, 1) := by decide +kernel
theorem dX11_packedWithout_52 : decode cX11_packedWithout 52 = .ok (.invokevirtual 221, 3) := by decide +kernel
theorem dX11_packedWithout_55 : decode cX11_packedWithout 55 = .ok (.invokevirtual 124, 3) := by decide +kernel
theorem dX11_packedWithout_58 : decode cX11_packedWithout 58 = .ok (.ireturn, 1) := by decide +kernel
theorem dX11_bestSeat_0 : decode cX11_bestSeat 0 = .ok (.aload_n 0, 1) := by decide +kernel
theorem dX11_bestSeat_1 : decode cX11_bestSeat 1 = .ok (.getfield 57, 3) := by decide +kernel
theorem dX11_bestSeat_4 : decode cX11_bestSeat 4 = .ok (.getfield 196, 3) := by decide +kernel
theorem dX11_bestSeat_7 : decode cX11_bestSeat 7 = .ok (.ifCond .ne 9, 3) := by decide +kernel
theorem dX11_bestSeat_10 : decode cX11_bestSeat 10 = .ok (.aload_n 0, 1) := by decide +kernel
theorem dX11_bestSeat_11 : decode cX11_bestSeat 11 = .ok (.iconst 1, 1) := by decide +kernel
theorem dX11_bestSeat_12 : decode cX11_bestSeat 12 = .ok (.invokevirtual 75, 3) := by decide +kernel
theorem dX11_bestSeat_15 : decode cX11_bestSeat 15 = .ok (.ireturn, 1) := by decide +kernel
theorem dX11_bestSeat_16 : decode cX11_bestSeat 16 = .ok (.aload_n 0, 1) := by decide +kernel
theorem dX11_bestSeat_17 : decode cX11_bestSeat 17 = .ok (.aload_n 0, 1) := by decide +kernel
theorem dX11_bestSeat_18 : decode cX11_bestSeat 18 = .ok (.getfield 36, 3) := by decide +kernel
theorem dX11_bestSeat_21 : decode cX11_bestSeat 21 = .ok (.aload_n 0, 1) := by decide +kernel
theorem dX11_bestSeat_22 : decode cX11_bestSeat 22 = .ok (.getfield 57, 3) := by decide +kernel
theorem dX11_bestSeat_25 : decode cX11_bestSeat 25 = .ok (.invokevirtual 232, 3) := by decide +kernel
theorem dX11_bestSeat_28 : decode cX11_bestSeat 28 = .ok (.invokevirtual 124, 3) := by decide +kernel
theorem dX11_bestSeat_31 : decode cX11_bestSeat 31 = .ok (.ireturn, 1) := by decide +kernel
theorem dX11_coal_0 : decode cX11_coal 0 = .ok (.aload_n 0, 1) := by decide +kernel
theorem dX11_coal_1 : decode cX11_coal 1 = .ok (.getfield 57, 3) := by decide +kernel
theorem dX11_coal_4 : decode cX11_coal 4 = .ok (.getfield 115, 3) := by decide +kernel
theorem dX11_coal_7 : decode cX11_coal 7 = .ok (.iload_n 1, 1) := by decide +kernel
theorem dX11_coal_8 : decode cX11_coal 8 = .ok (.invokevirtual 130, 3) := by decide +kernel
theorem dX11_coal_11 : decode cX11_coal 11 = .ok (.ifCond .ne 9, 3) := by decide +kernel
theorem dX11_coal_14 : decode cX11_coal 14 = .ok (.aload_n 0, 1) := by decide +kernel
theorem dX11_coal_15 : decode cX11_coal 15 = .ok (.iconst 1, 1) := by decide +kernel
theorem dX11_coal_16 : decode cX11_coal 16 = .ok (.invokevirtual 75, 3) := by decide +kernel
theorem dX11_coal_19 : decode cX11_coal 19 = .ok (.ireturn, 1) := by decide +kernel
theorem dX11_coal_20 : decode cX11_coal 20 = .ok (.iload_n 2, 1) := by decide +kernel
theorem dX11_coal_21 : decode cX11_coal 21 = .ok (.ifCond .lt 10, 3) := by decide +kernel
theorem dX11_coal_24 : decode cX11_coal 24 = .ok (.iload_n 2, 1) := by decide +kernel
theorem dX11_coal_25 : decode cX11_coal 25 = .ok (.sipush 999, 3) := by decide +kernel
theorem dX11_coal_28 : decode cX11_coal 28 = .ok (.if_icmp .le 9, 3) := by decide +kernel
theorem dX11_coal_31 : decode cX11_coal 31 = .ok (.aload_n 0, 1) := by decide +kernel
theorem dX11_coal_32 : decode cX11_coal 32 = .ok (.iconst 2, 1) := by decide +kernel
theorem dX11_coal_33 : decode cX11_coal 33 = .ok (.invokevirtual 75, 3) := by decide +kernel
theorem dX11_coal_36 : decode cX11_coal 36 = .ok (.ireturn, 1) := by decide +kernel
theorem dX11_coal_37 : decode cX11_coal 37 = .ok (.aload_n 0, 1) := by decide +kernel
theorem dX11_coal_38 : decode cX11_coal 38 = .ok (.aload_n 0, 1) := by decide +kernel
theorem dX11_coal_39 : decode cX11_coal 39 = .ok (.getfield 57, 3) := by decide +kernel
theorem dX11_coal_42 : decode cX11_coal 42 = .ok (.aload_n 0, 1) := by decide +kernel
theorem dX11_coal_43 : decode cX11_coal 43 = .ok (.getfield 19, 3) := by decide +kernel
theorem dX11_coal_46 : decode cX11_coal 46 = .ok (.iload_n 1, 1) := by decide +kernel
theorem dX11_coal_47 : decode cX11_coal 47 = .ok (.iload_n 2, 1) := by decide +kernel
theorem dX11_coal_48 : decode cX11_coal 48 = .ok (.invokevirtual 235, 3) := by decide +kernel
theorem dX11_coal_51 : decode cX11_coal 51 = .ok (.invokevirtual 124, 3) := by decide +kernel
theorem dX11_coal_54 : decode cX11_coal 54 = .ok (.ireturn, 1) := by decide +kernel
theorem dX11_couples_0 : decode cX11_couples 0 = .ok (.aload_n 0, 1) := by decide +kernel
theorem dX11_couples_1 : decode cX11_couples 1 = .ok (.getfield 57, 3) := by decide +kernel
theorem dX11_couples_4 : decode cX11_couples 4 = .ok (.getfield 196, 3) := by decide +kernel
theorem dX11_couples_7 : decode cX11_couples 7 = .ok (.ifCond .ne 9, 3) := by decide +kernel
theorem dX11_couples_10 : decode cX11_couples 10 = .ok (.aload_n 0, 1) := by decide +kernel
theorem dX11_couples_11 : decode cX11_couples 11 = .ok (.iconst 1, 1) := by decide +kernel
theorem dX11_couples_12 : decode cX11_couples 12 = .ok (.invokevirtual 75, 3) := by decide +kernel
theorem dX11_couples_15 : decode cX11_couples 15 = .ok (.ireturn, 1) := by decide +kernel
theorem dX11_couples_16 : decode cX11_couples 16 = .ok (.aload_n 0, 1) := by decide +kernel
theorem dX11_couples_17 : decode cX11_couples 17 = .ok (.aload_n 0, 1) := by decide +kernel
theorem dX11_couples_18 : decode cX11_couples 18 = .ok (.getfield 43, 3) := by decide +kernel
theorem dX11_couples_21 : decode cX11_couples 21 = .ok (.aload_n 0, 1) := by decide +kernel
theorem dX11_couples_22 : decode cX11_couples 22 = .ok (.getfield 57, 3) := by decide +kernel
theorem dX11_couples_25 : decode cX11_couples 25 = .ok (.getfield 163, 3) := by decide +kernel
theorem dX11_couples_28 : decode cX11_couples 28 = .ok (.invokevirtual 239, 3) := by decide +kernel
theorem dX11_couples_31 : decode cX11_couples 31 = .ok (.invokevirtual 124, 3) := by decide +kernel
theorem dX11_couples_34 : decode cX11_couples 34 = .ok (.ireturn, 1) := by decide +kernel
theorem dX11_spouse_0 : decode cX11_spouse 0 = .ok (.aload_n 0, 1) := by decide +kernel
theorem dX11_spouse_1 : decode cX11_spouse 1 = .ok (.getfield 57, 3) := by decide +kernel
theorem dX11_spouse_4 : decode cX11_spouse 4 = .ok (.getfield 163, 3) := by decide +kernel
theorem dX11_spouse_7 : decode cX11_spouse 7 = .ok (.iload_n 1, 1) := by decide +kernel
theorem dX11_spouse_8 : decode cX11_spouse 8 = .ok (.invokevirtual 167, 3) := by decide +kernel
theorem dX11_spouse_11 : decode cX11_spouse 11 = .ok (.ifCond .ne 9, 3) := by decide +kernel
theorem dX11_spouse_14 : decode cX11_spouse 14 = .ok (.aload_n 0, 1) := by decide +kernel
theorem dX11_spouse_15 : decode cX11_spouse 15 = .ok (.iconst 1, 1) := by decide +kernel
theorem dX11_spouse_16 : decode cX11_spouse 16 = .ok (.invokevirtual 75, 3) := by decide +kernel
theorem dX11_spouse_19 : decode cX11_spouse 19 = .ok (.ireturn, 1) := by decide +kernel
theorem dX11_spouse_20 : decode cX11_spouse 20 = .ok (.aload_n 0, 1) := by decide +kernel
theorem dX11_spouse_21 : decode cX11_spouse 21 = .ok (.getfield 43, 3) := by decide +kernel
theorem dX11_spouse_24 : decode cX11_spouse 24 = .ok (.aload_n 0, 1) := by decide +kernel
theorem dX11_spouse_25 : decode cX11_spouse 25 = .ok (.getfield 57, 3) := by decide +kernel
theorem dX11_spouse_28 : decode cX11_spouse 28 = .ok (.getfield 163, 3) := by decide +kernel
theorem dX11_spouse_31 : decode cX11_spouse 31 = .ok (.invokevirtual 239, 3) := by decide +kernel
theorem dX11_spouse_34 : decode cX11_spouse 34 = .ok (.pop, 1) := by decide +kernel
theorem dX11_spouse_35 : decode cX11_spouse 35 = .ok (.aload_n 0, 1) := by decide +kernel
theorem dX11_spouse_36 : decode cX11_spouse 36 = .ok (.aload_n 0, 1) := by decide +kernel
theorem dX11_spouse_37 : decode cX11_spouse 37 = .ok (.getfield 43, 3) := by decide +kernel
theorem dX11_spouse_40 : decode cX11_spouse 40 = .ok (.getfield 243, 3) := by decide +kernel
theorem dX11_spouse_43 : decode cX11_spouse 43 = .ok (.iload_n 1, 1) := by decide +kernel
theorem dX11_spouse_44 : decode cX11_spouse 44 = .ok (.iaload, 1) := by decide +kernel
theorem dX11_spouse_45 : decode cX11_spouse 45 = .ok (.invokevirtual 124, 3) := by decide +kernel
theorem dX11_spouse_48 : decode cX11_spouse 48 = .ok (.ireturn, 1) := by decide +kernel
theorem dX11_mayMarry_0 : decode cX11_mayMarry 0 = .ok (.aload_n 0, 1) := by decide +kernel
theorem dX11_mayMarry_1 : decode cX11_mayMarry 1 = .ok (.getfield 57, 3) := by decide +kernel
theorem dX11_mayMarry_4 : decode cX11_mayMarry 4 = .ok (.getfield 163, 3) := by decide +kernel
theorem dX11_mayMarry_7 : decode cX11_mayMarry 7 = .ok (.iload_n 1, 1) := by decide +kernel
theorem dX11_mayMarry_8 : decode cX11_mayMarry 8 = .ok (.invokevirtual 167, 3) := by decide +kernel
theorem dX11_mayMarry_11 : decode cX11_mayMarry 11 = .ok (.ifCond .ne 9, 3) := by decide +kernel
theorem dX11_mayMarry_14 : decode cX11_mayMarry 14 = .ok (.aload_n 0, 1) := by decide +kernel
theorem dX11_mayMarry_15 : decode cX11_mayMarry 15 = .ok (.iconst 1, 1) := by decide +kernel
theorem dX11_mayMarry_16 : decode cX11_mayMarry 16 = .ok (.invokevirtual 75, 3) := by decide +kernel
theorem dX11_mayMarry_19 : decode cX11_mayMarry 19 = .ok (.ireturn, 1) := by decide +kernel
theorem dX11_mayMarry_20 : decode cX11_mayMarry 20 = .ok (.aload_n 0, 1) := by decide +kernel
theorem dX11_mayMarry_21 : decode cX11_mayMarry 21 = .ok (.aload_n 0, 1) := by decide +kernel
theorem dX11_mayMarry_22 : decode cX11_mayMarry 22 = .ok (.getfield 57, 3) := by decide +kernel
theorem dX11_mayMarry_25 : decode cX11_mayMarry 25 = .ok (.getfield 163, 3) := by decide +kernel
theorem dX11_mayMarry_28 : decode cX11_mayMarry 28 = .ok (.iload_n 1, 1) := by decide +kernel
theorem dX11_mayMarry_29 : decode cX11_mayMarry 29 = .ok (.invokevirtual 246, 3) := by decide +kernel
theorem dX11_mayMarry_32 : decode cX11_mayMarry 32 = .ok (.invokevirtual 124, 3) := by decide +kernel
theorem dX11_mayMarry_35 : decode cX11_mayMarry 35 = .ok (.ireturn, 1) := by decide +kernel
theorem dX11_fed_0 : decode cX11_fed 0 = .ok (.aload_n 0, 1) := by decide +kernel
theorem dX11_fed_1 : decode cX11_fed 1 = .ok (.getfield 57, 3) := by decide +kernel
theorem dX11_fed_4 : decode cX11_fed 4 = .ok (.getfield 196, 3) := by decide +kernel
theorem dX11_fed_7 : decode cX11_fed 7 = .ok (.ifCond .ne 9, 3) := by decide +kernel
theorem dX11_fed_10 : decode cX11_fed 10 = .ok (.aload_n 0, 1) := by decide +kernel
theorem dX11_fed_11 : decode cX11_fed 11 = .ok (.iconst 1, 1) := by decide +kernel
theorem dX11_fed_12 : decode cX11_fed 12 = .ok (.invokevirtual 75, 3) := by decide +kernel
theorem dX11_fed_15 : decode cX11_fed 15 = .ok (.ireturn, 1) := by decide +kernel
theorem dX11_fed_16 : decode cX11_fed 16 = .ok (.aload_n 0, 1) := by decide +kernel
theorem dX11_fed_17 : decode cX11_fed 17 = .ok (.getfield 57, 3) := by decide +kernel
theorem dX11_fed_20 : decode cX11_fed 20 = .ok (.getfield 163, 3) := by decide +kernel
theorem dX11_fed_23 : decode cX11_fed 23 = .ok (.getfield 249, 3) := by decide +kernel
theorem dX11_fed_26 : decode cX11_fed 26 = .ok (.istore_n 1, 1) := by decide +kernel
theorem dX11_fed_27 : decode cX11_fed 27 = .ok (.aload_n 0, 1) := by decide +kernel
theorem dX11_fed_28 : decode cX11_fed 28 = .ok (.iload_n 1, 1) := by decide +kernel
theorem dX11_fed_29 : decode cX11_fed 29 = .ok (.ifCond .le 15, 3) := by decide +kernel
theorem dX11_fed_32 : decode cX11_fed 32 = .ok (.aload_n 0, 1) := by decide +kernel
theorem dX11_fed_33 : decode cX11_fed 33 = .ok (.getfield 19, 3) := by decide +kernel
theorem dX11_fed_36 : decode cX11_fed 36 = .ok (.getfield 250, 3) := by decide +kernel
theorem dX11_fed_39 : decode cX11_fed 39 = .ok (.iload_n 1, 1) := by decide +kernel
theorem dX11_fed_40 : decode cX11_fed 40 = .ok (.idiv, 1) := by decide +kernel
theorem dX11_fed_41 : decode cX11_fed 41 = .ok (.goto 5, 3) := by decide +kernel
theorem dX11_fed_44 : decode cX11_fed 44 = .ok (.bipush (-2), 2) := by decide +kernel
theorem dX11_fed_46 : decode cX11_fed 46 = .ok (.invokevirtual 124, 3) := by decide +kernel
theorem dX11_fed_49 : decode cX11_fed 49 = .ok (.ireturn, 1) := by decide +kernel
theorem dX11_eats_0 : decode cX11_eats 0 = .ok (.aload_n 0, 1) := by decide +kernel
theorem dX11_eats_1 : decode cX11_eats 1 = .ok (.getfield 57, 3) := by decide +kernel
theorem dX11_eats_4 : decode cX11_eats 4 = .ok (.getfield 163, 3) := by decide +kernel
theorem dX11_eats_7 : decode cX11_eats 7 = .ok (.iload_n 1, 1) := by decide +kernel
theorem dX11_eats_8 : decode cX11_eats 8 = .ok (.invokevirtual 167, 3) := by decide +kernel
theorem dX11_eats_11 : decode cX11_eats 11 = .ok (.ifCond .ne 9, 3) := by decide +kernel
theorem dX11_eats_14 : decode cX11_eats 14 = .ok (.aload_n 0, 1) := by decide +kernel
theorem dX11_eats_15 : decode cX11_eats 15 = .ok (.iconst 1, 1) := by decide +kernel
theorem dX11_eats_16 : decode cX11_eats 16 = .ok (.invokevirtual 75, 3) := by decide +kernel
theorem dX11_eats_19 : decode cX11_eats 19 = .ok (.ireturn, 1) := by decide +kernel
theorem dX11_eats_20 : decode cX11_eats 20 = .ok (.iload_n 2, 1) := by decide +kernel
theorem dX11_eats_21 : decode cX11_eats 21 = .ok (.ifCond .lt 9, 3) := by decide +kernel
theorem dX11_eats_24 : decode cX11_eats 24 = .ok (.iload_n 2, 1) := by decide +kernel
theorem dX11_eats_25 : decode cX11_eats 25 = .ok (.bipush 99, 2) := by decide +kernel
theorem dX11_eats_27 : decode cX11_eats 27 = .ok (.if_icmp .le 9, 3) := by decide +kernel
theorem dX11_eats_30 : decode cX11_eats 30 = .ok (.aload_n 0, 1) := by decide +kernel
theorem dX11_eats_31 : decode cX11_eats 31 = .ok (.iconst 2, 1) := by decide +kernel
theorem dX11_eats_32 : decode cX11_eats 32 = .ok (.invokevirtual 75, 3) := by decide +kernel
theorem dX11_eats_35 : decode cX11_eats 35 = .ok (.ireturn, 1) := by decide +kernel
theorem dX11_eats_36 : decode cX11_eats 36 = .ok (.aload_n 0, 1) := by decide +kernel
theorem dX11_eats_37 : decode cX11_eats 37 = .ok (.getfield 57, 3) := by decide +kernel
theorem dX11_eats_40 : decode cX11_eats 40 = .ok (.getfield 163, 3) := by decide +kernel
theorem dX11_eats_43 : decode cX11_eats 43 = .ok (.iload_n 1, 1) := by decide +kernel
theorem dX11_eats_44 : decode cX11_eats 44 = .ok (.invokevirtual 253, 3) := by decide +kernel
theorem dX11_eats_47 : decode cX11_eats 47 = .ok (.istore_n 3, 1) := by decide +kernel
theorem dX11_eats_48 : decode cX11_eats 48 = .ok (.iconst 0, 1) := by decide +kernel
theorem dX11_eats_49 : decode cX11_eats 49 = .ok (.istore 4, 2) := by decide +kernel
theorem dX11_eats_51 : decode cX11_eats 51 = .ok (.iconst 0, 1) := by decide +kernel
theorem dX11_eats_52 : decode cX11_eats 52 = .ok (.istore 5, 2) := by decide +kernel
theorem dX11_eats_54 : decode cX11_eats 54 = .ok (.iload 5, 2) := by decide +kernel
theorem dX11_eats_56 : decode cX11_eats 56 = .ok (.iload_n 2, 1) := by decide +kernel
theorem dX11_eats_57 : decode cX11_eats 57 = .ok (.if_icmp .ge 22, 3) := by decide +kernel
theorem dX11_eats_60 : decode cX11_eats 60 = .ok (.aload_n 0, 1) := by decide +kernel
theorem dX11_eats_61 : decode cX11_eats 61 = .ok (.iload 5, 2) := by decide +kernel
theorem dX11_eats_63 : decode cX11_eats 63 = .ok (.invokevirtual 256, 3) := by decide +kernel
theorem dX11_eats_66 : decode cX11_eats 66 = .ok (.iload_n 3, 1) := by decide +kernel
theorem dX11_eats_67 : decode cX11_eats 67 = .ok (.if_icmp .le 6, 3) := by decide +kernel
theorem dX11_eats_70 : decode cX11_eats 70 = .ok (.iinc 4 1, 3) := by decide +kernel
theorem dX11_eats_73 : decode cX11_eats 73 = .ok (.iinc 5 1, 3) := by decide +kernel
theorem dX11_eats_76 : decode cX11_eats 76 = .ok (.goto (-22), 3) := by decide +kernel
theorem dX11_eats_79 : decode cX11_eats 79 = .ok (.aload_n 0, 1) := by decide +kernel
theorem dX11_eats_80 : decode cX11_eats 80 = .ok (.iload 4, 2) := by decide +kernel
theorem dX11_eats_82 : decode cX11_eats 82 = .ok (.invokevirtual 124, 3) := by decide +kernel
theorem dX11_eats_85 : decode cX11_eats 85 = .ok (.ireturn, 1) := by decide +kernel
theorem dX11_left_0 : decode cX11_left 0 = .ok (.aload_n 0, 1) := by decide +kernel
theorem dX11_left_1 : decode cX11_left 1 = .ok (.getfield 57, 3) := by decide +kernel
theorem dX11_left_4 : decode cX11_left 4 = .ok (.getfield 196, 3) := by decide +kernel
theorem dX11_left_7 : decode cX11_left 7 = .ok (.ifCond .ne 9, 3) := by decide +kernel
theorem dX11_left_10 : decode cX11_left 10 = .ok (.aload_n 0, 1) := by decide +kernel
theorem dX11_left_11 : decode cX11_left 11 = .ok (.iconst 1, 1) := by decide +kernel
theorem dX11_left_12 : decode cX11_left 12 = .ok (.invokevirtual 75, 3) := by decide +kernel
theorem dX11_left_15 : decode cX11_left 15 = .ok (.ireturn, 1) := by decide +kernel
theorem dX11_left_16 : decode cX11_left 16 = .ok (.iload_n 1, 1) := by decide +kernel
theorem dX11_left_17 : decode cX11_left 17 = .ok (.ifCond .lt 9, 3) := by decide +kernel
theorem dX11_left_20 : decode cX11_left 20 = .ok (.iload_n 1, 1) := by decide +kernel
theorem dX11_left_21 : decode cX11_left 21 = .ok (.bipush 99, 2) := by decide +kernel
theorem dX11_left_23 : decode cX11_left 23 = .ok (.if_icmp .le 9, 3) := by decide +kernel
theorem dX11_left_26 : decode cX11_left 26 = .ok (.aload_n 0, 1) := by decide +kernel
theorem dX11_left_27 : decode cX11_left 27 = .ok (.iconst 2, 1) := by decide +kernel
theorem dX11_left_28 : decode cX11_left 28 = .ok (.invokevirtual 75, 3) := by decide +kernel
theorem dX11_left_31 : decode cX11_left 31 = .ok (.ireturn, 1) := by decide +kernel
theorem dX11_left_32 : decode cX11_left 32 = .ok (.aload_n 0, 1) := by decide +kernel
theorem dX11_left_33 : decode cX11_left 33 = .ok (.aload_n 0, 1) := by decide +kernel
theorem dX11_left_34 : decode cX11_left 34 = .ok (.iload_n 1, 1) := by decide +kernel
theorem dX11_left_35 : decode cX11_left 35 = .ok (.invokevirtual 256, 3) := by decide +kernel
theorem dX11_left_38 : decode cX11_left 38 = .ok (.invokevirtual 124, 3) := by decide +kernel
theorem dX11_left_41 : decode cX11_left 41 = .ok (.ireturn, 1) := by decide +kernel
theorem dX11_trains_0 : decode cX11_trains 0 = .ok (.aload_n 0, 1) := by decide +kernel
theorem dX11_trains_1 : decode cX11_trains 1 = .ok (.getfield 57, 3) := by decide +kernel
theorem dX11_trains_4 : decode cX11_trains 4 = .ok (.getfield 196, 3) := by decide +kernel
theorem dX11_trains_7 : decode cX11_trains 7 = .ok (.ifCond .ne 9, 3) := by decide +kernel
theorem dX11_trains_10 : decode cX11_trains 10 = .ok (.aload_n 0, 1) := by decide +kernel
theorem dX11_trains_11 : decode cX11_trains 11 = .ok (.iconst 1, 1) := by decide +kernel
theorem dX11_trains_12 : decode cX11_trains 12 = .ok (.invokevirtual 75, 3) := by decide +kernel
theorem dX11_trains_15 : decode cX11_trains 15 = .ok (.ireturn, 1) := by decide +kernel
theorem dX11_trains_16 : decode cX11_trains 16 = .ok (.aload_n 0, 1) := by decide +kernel
theorem dX11_trains_17 : decode cX11_trains 17 = .ok (.aload_n 0, 1) := by decide +kernel
theorem dX11_trains_18 : decode cX11_trains 18 = .ok (.getfield 57, 3) := by decide +kernel
theorem dX11_trains_21 : decode cX11_trains 21 = .ok (.getfield 96, 3) := by decide +kernel
theorem dX11_trains_24 : decode cX11_trains 24 = .ok (.getfield 259, 3) := by decide +kernel
theorem dX11_trains_27 : decode cX11_trains 27 = .ok (.invokevirtual 124, 3) := by decide +kernel
theorem dX11_trains_30 : decode cX11_trains 30 = .ok (.ireturn, 1) := by decide +kernel
theorem dX11_trainAt_0 : decode cX11_trainAt 0 = .ok (.aload_n 0, 1) := by decide +kernel
theorem dX11_trainAt_1 : decode cX11_trainAt 1 = .ok (.getfield 57, 3) := by decide +kernel
theorem dX11_trainAt_4 : decode cX11_trainAt 4 = .ok (.getfield 96, 3) := by decide +kernel
theorem dX11_trainAt_7 : decode cX11_trainAt 7 = .ok (.astore_n 2, 1) := by decide +kernel
theorem dX11_trainAt_8 : decode cX11_trainAt 8 = .ok (.aload_n 0, 1) := by decide +kernel
theorem dX11_trainAt_9 : decode cX11_trainAt 9 = .ok (.getfield 57, 3) := by decide +kernel
theorem dX11_trainAt_12 : decode cX11_trainAt 12 = .ok (.getfield 196, 3) := by decide +kernel
theorem dX11_trainAt_15 : decode cX11_trainAt 15 = .ok (.ifCond .eq 15, 3) := by decide +kernel
theorem dX11_trainAt_18 : decode cX11_trainAt 18 = .ok (.iload_n 1, 1) := by decide +kernel
theorem dX11_trainAt_19 : decode cX11_trainAt 19 = .ok (.ifCond .lt 11, 3) := by decide +kernel
theorem dX11_trainAt_22 : decode cX11_trainAt 22 = .ok (.iload_n 1, 1) := by decide +kernel
theorem dX11_trainAt_23 : decode cX11_trainAt 23 = .ok (.aload_n 2, 1) := by decide +kernel
theorem dX11_trainAt_24 : decode cX11_trainAt 24 = .ok (.getfield 259, 3) := by decide +kernel
theorem dX11_trainAt_27 : decode cX11_trainAt 27 = .ok (.if_icmp .lt 9, 3) := by decide +kernel
theorem dX11_trainAt_30 : decode cX11_trainAt 30 = .ok (.aload_n 0, 1) := by decide +kernel
theorem dX11_trainAt_31 : decode cX11_trainAt 31 = .ok (.iconst 1, 1) := by decide +kernel
theorem dX11_trainAt_32 : decode cX11_trainAt 32 = .ok (.invokevirtual 75, 3) := by decide +kernel
theorem dX11_trainAt_35 : decode cX11_trainAt 35 = .ok (.ireturn, 1) := by decide +kernel
theorem dX11_trainAt_36 : decode cX11_trainAt 36 = .ok (.aload_n 0, 1) := by decide +kernel
theorem dX11_trainAt_37 : decode cX11_trainAt 37 = .ok (.aload_n 2, 1) := by decide +kernel
theorem dX11_trainAt_38 : decode cX11_trainAt 38 = .ok (.getfield 262, 3) := by decide +kernel
theorem dX11_trainAt_41 : decode cX11_trainAt 41 = .ok (.iload_n 1, 1) := by decide +kernel
theorem dX11_trainAt_42 : decode cX11_trainAt 42 = .ok (.iaload, 1) := by decide +kernel
theorem dX11_trainAt_43 : decode cX11_trainAt 43 = .ok (.invokevirtual 124, 3) := by decide +kernel
theorem dX11_trainAt_46 : decode cX11_trainAt 46 = .ok (.ireturn, 1) := by decide +kernel
theorem dX11_comes_0 : decode cX11_comes 0 = .ok (.aload_n 0, 1) := by decide +kernel
theorem dX11_comes_1 : decode cX11_comes 1 = .ok (.getfield 57, 3) := by decide +kernel
theorem dX11_comes_4 : decode cX11_comes 4 = .ok (.getfield 196, 3) := by decide +kernel
theorem dX11_comes_7 : decode cX11_comes 7 = .ok (.ifCond .ne 9, 3) := by decide +kernel
theorem dX11_comes_10 : decode cX11_comes 10 = .ok (.aload_n 0, 1) := by decide +kernel
theorem dX11_comes_11 : decode cX11_comes 11 = .ok (.iconst 1, 1) := by decide +kernel
theorem dX11_comes_12 : decode cX11_comes 12 = .ok (.invokevirtual 75, 3) := by decide +kernel
theorem dX11_comes_15 : decode cX11_comes 15 = .ok (.ireturn, 1) := by decide +kernel
theorem dX11_comes_16 : decode cX11_comes 16 = .ok (.iload_n 1, 1) := by decide +kernel
theorem dX11_comes_17 : decode cX11_comes 17 = .ok (.invokestatic 265, 3) := by decide +kernel
theorem dX11_comes_20 : decode cX11_comes 20 = .ok (.ifCond .ne 9, 3) := by decide +kernel
theorem dX11_comes_23 : decode cX11_comes 23 = .ok (.aload_n 0, 1) := by decide +kernel
theorem dX11_comes_24 : decode cX11_comes 24 = .ok (.iconst 2, 1) := by decide +kernel
theorem dX11_comes_25 : decode cX11_comes 25 = .ok (.invokevirtual 75, 3) := by decide +kernel
theorem dX11_comes_28 : decode cX11_comes 28 = .ok (.ireturn, 1) := by decide +kernel
theorem dX11_comes_29 : decode cX11_comes 29 = .ok (.aload_n 0, 1) := by decide +kernel
theorem dX11_comes_30 : decode cX11_comes 30 = .ok (.aload_n 0, 1) := by decide +kernel
theorem dX11_comes_31 : decode cX11_comes 31 = .ok (.getfield 57, 3) := by decide +kernel
theorem dX11_comes_34 : decode cX11_comes 34 = .ok (.getfield 96, 3) := by decide +kernel
theorem dX11_comes_37 : decode cX11_comes 37 = .ok (.getfield 268, 3) := by decide +kernel
theorem dX11_comes_40 : decode cX11_comes 40 = .ok (.iload_n 1, 1) := by decide +kernel
theorem dX11_comes_41 : decode cX11_comes 41 = .ok (.iaload, 1) := by decide +kernel
theorem dX11_comes_42 : decode cX11_comes 42 = .ok (.invokevirtual 124, 3) := by decide +kernel
theorem dX11_comes_45 : decode cX11_comes 45 = .ok (.ireturn, 1) := by decide +kernel
theorem dX11_surely_0 : decode cX11_surely 0 = .ok (.aload_n 0, 1) := by decide +kernel
theorem dX11_surely_1 : decode cX11_surely 1 = .ok (.getfield 57, 3) := by decide +kernel
theorem dX11_surely_4 : decode cX11_surely 4 = .ok (.getfield 196, 3) := by decide +kernel
theorem dX11_surely_7 : decode cX11_surely 7 = .ok (.ifCond .ne 9, 3) := by decide +kernel
theorem dX11_surely_10 : decode cX11_surely 10 = .ok (.aload_n 0, 1) := by decide +kernel
theorem dX11_surely_11 : decode cX11_surely 11 = .ok (.iconst 1, 1) := by decide +kernel
theorem dX11_surely_12 : decode cX11_surely 12 = .ok (.invokevirtual 75, 3) := by decide +kernel
theorem dX11_surely_15 : decode cX11_surely 15 = .ok (.ireturn, 1) := by decide +kernel
theorem dX11_surely_16 : decode cX11_surely 16 = .ok (.iload_n 1, 1) := by decide +kernel
theorem dX11_surely_17 : decode cX11_surely 17 = .ok (.invokestatic 265, 3) := by decide +kernel
theorem dX11_surely_20 : decode cX11_surely 20 = .ok (.ifCond .ne 9, 3) := by decide +kernel
theorem dX11_surely_23 : decode cX11_surely 23 = .ok (.aload_n 0, 1) := by decide +kernel
theorem dX11_surely_24 : decode cX11_surely 24 = .ok (.iconst 2, 1) := by decide +kernel
theorem dX11_surely_25 : decode cX11_surely 25 = .ok (.invokevirtual 75, 3) := by decide +kernel
theorem dX11_surely_28 : decode cX11_surely 28 = .ok (.ireturn, 1) := by decide +kernel
theorem dX11_surely_29 : decode cX11_surely 29 = .ok (.aload_n 0, 1) := by decide +kernel
theorem dX11_surely_30 : decode cX11_surely 30 = .ok (.aload_n 0, 1) := by decide +kernel
theorem dX11_surely_31 : decode cX11_surely 31 = .ok (.getfield 57, 3) := by decide +kernel
theorem dX11_surely_34 : decode cX11_surely 34 = .ok (.getfield 96, 3) := by decide +kernel
theorem dX11_surely_37 : decode cX11_surely 37 = .ok (.iload_n 1, 1) := by decide +kernel
theorem dX11_surely_38 : decode cX11_surely 38 = .ok (.invokevirtual 271, 3) := by decide +kernel
theorem dX11_surely_41 : decode cX11_surely 41 = .ok (.invokevirtual 124, 3) := by decide +kernel
theorem dX11_surely_44 : decode cX11_surely 44 = .ok (.ireturn, 1) := by decide +kernel
theorem dX11_listen_0 : decode cX11_listen 0 = .ok (.aload_n 0, 1) := by decide +kernel
theorem dX11_listen_1 : decode cX11_listen 1 = .ok (.getfield 57, 3) := by decide +kernel
theorem dX11_listen_4 : decode cX11_listen 4 = .ok (.getfield 196, 3) := by decide +kernel
theorem dX11_listen_7 : decode cX11_listen 7 = .ok (.ifCond .ne 9, 3) := by decide +kernel
theorem dX11_listen_10 : decode cX11_listen 10 = .ok (.aload_n 0, 1) := by decide +kernel
theorem dX11_listen_11 : decode cX11_listen 11 = .ok (.iconst 1, 1) := by decide +kernel
theorem dX11_listen_12 : decode cX11_listen 12 = .ok (.invokevirtual 75, 3) := by decide +kernel
theorem dX11_listen_15 : decode cX11_listen 15 = .ok (.ireturn, 1) := by decide +kernel
theorem dX11_listen_16 : decode cX11_listen 16 = .ok (.aload_n 0, 1) := by decide +kernel
theorem dX11_listen_17 : decode cX11_listen 17 = .ok (.aload_n 0, 1) := by decide +kernel
theorem dX11_listen_18 : decode cX11_listen 18 = .ok (.getfield 57, 3) := by decide +kernel
theorem dX11_listen_21 : decode cX11_listen 21 = .ok (.getfield 96, 3) := by decide +kernel
theorem dX11_listen_24 : decode cX11_listen 24 = .ok (.invokevirtual 274, 3) := by decide +kernel
theorem dX11_listen_27 : decode cX11_listen 27 = .ok (.invokevirtual 124, 3) := by decide +kernel
theorem dX11_listen_30 : decode cX11_listen 30 = .ok (.ireturn, 1) := by decide +kernel
theorem dX11_listenLeaves_0 : decode cX11_listenLeaves 0 = .ok (.aload_n 0, 1) := by decide +kernel
theorem dX11_listenLeaves_1 : decode cX11_listenLeaves 1 = .ok (.getfield 57, 3) := by decide +kernel
theorem dX11_listenLeaves_4 : decode cX11_listenLeaves 4 = .ok (.getfield 196, 3) := by decide +kernel
theorem dX11_listenLeaves_7 : decode cX11_listenLeaves 7 = .ok (.ifCond .ne 9, 3) := by decide +kernel
theorem dX11_listenLeaves_10 : decode cX11_listenLeaves 10 = .ok (.aload_n 0, 1) := by decide +kernel
theorem dX11_listenLeaves_11 : decode cX11_listenLeaves 11 = .ok (.iconst 1, 1) := by decide +kernel
theorem dX11_listenLeaves_12 : decode cX11_listenLeaves 12 = .ok (.invokevirtual 75, 3) := by decide +kernel
theorem dX11_listenLeaves_15 : decode cX11_listenLeaves 15 = .ok (.ireturn, 1) := by decide +kernel
theorem dX11_listenLeaves_16 : decode cX11_listenLeaves 16 = .ok (.aload_n 0, 1) := by decide +kernel
theorem dX11_listenLeaves_17 : decode cX11_listenLeaves 17 = .ok (.getfield 57, 3) := by decide +kernel
theorem dX11_listenLeaves_20 : decode cX11_listenLeaves 20 = .ok (.getfield 96, 3) := by decide +kernel
theorem dX11_listenLeaves_23 : decode cX11_listenLeaves 23 = .ok (.invokevirtual 274, 3) := by decide +kernel
theorem dX11_listenLeaves_26 : decode cX11_listenLeaves 26 = .ok (.istore_n 1, 1) := by decide +kernel
theorem dX11_listenLeaves_27 : decode cX11_listenLeaves 27 = .ok (.aload_n 0, 1) := by decide +kernel
theorem dX11_listenLeaves_28 : decode cX11_listenLeaves 28 = .ok (.iload_n 1, 1) := by decide +kernel
theorem dX11_listenLeaves_29 : decode cX11_listenLeaves 29 = .ok (.invokestatic 265, 3) := by decide +kernel
theorem dX11_listenLeaves_32 : decode cX11_listenLeaves 32 = .ok (.ifCond .eq 17, 3) := by decide +kernel
theorem dX11_listenLeaves_35 : decode cX11_listenLeaves 35 = .ok (.aload_n 0, 1) := by decide +kernel
theorem dX11_listenLeaves_36 : decode cX11_listenLeaves 36 = .ok (.getfield 57, 3) := by decide +kernel
theorem dX11_listenLeaves_39 : decode cX11_listenLeaves 39 = .ok (.getfield 96, 3) := by decide +kernel
theorem dX11_listenLeaves_42 : decode cX11_listenLeaves 42 = .ok (.iload_n 1, 1) := by decide +kernel
theorem dX11_listenLeaves_43 : decode cX11_listenLeaves 43 = .ok (.invokevirtual 277, 3) := by decide +kernel
theorem dX11_listenLeaves_46 : decode cX11_listenLeaves 46 = .ok (.goto 5, 3) := by decide +kernel
theorem dX11_listenLeaves_49 : decode cX11_listenLeaves 49 = .ok (.bipush (-2), 2) := by decide +kernel
theorem dX11_listenLeaves_51 : decode cX11_listenLeaves 51 = .ok (.invokevirtual 124, 3) := by decide +kernel
theorem dX11_listenLeaves_54 : decode cX11_listenLeaves 54 = .ok (.ireturn, 1) := by decide +kernel
theorem dX11_drawn_0 : decode cX11_drawn 0 = .ok (.aload_n 0, 1) := by decide +kernel
theorem dX11_drawn_1 : decode cX11_drawn 1 = .ok (.getfield 57, 3) := by decide +kernel
theorem dX11_drawn_4 : decode cX11_drawn 4 = .ok (.getfield 163, 3) := by decide +kernel
theorem dX11_drawn_7 : decode cX11_drawn 7 = .ok (.iload_n 1, 1) := by decide +kernel
theorem dX11_drawn_8 : decode cX11_drawn 8 = .ok (.invokevirtual 167, 3) := by decide +kernel
theorem dX11_drawn_11 : decode cX11_drawn 11 = .ok (.ifCond .ne 12, 3) := by decide +kernel
theorem dX11_drawn_14 : decode cX11_drawn 14 = .ok (.aload_n 0, 1) := by decide +kernel
theorem dX11_drawn_15 : decode cX11_drawn 15 = .ok (.iconst 1, 1) := by decide +kernel
theorem dX11_drawn_16 : decode cX11_drawn 16 = .ok (.sipush (-1000), 3) := by decide +kernel
theorem dX11_drawn_19 : decode cX11_drawn 19 = .ok (.invokevirtual 170, 3) := by decide +kernel
theorem dX11_drawn_22 : decode cX11_drawn 22 = .ok (.ireturn, 1) := by decide +kernel
theorem dX11_drawn_23 : decode cX11_drawn 23 = .ok (.aload_n 0, 1) := by decide +kernel
theorem dX11_drawn_24 : decode cX11_drawn 24 = .ok (.getfield 50, 3) := by decide +kernel
theorem dX11_drawn_27 : decode cX11_drawn 27 = .ok (.aload_n 0, 1) := by decide +kernel
theorem dX11_drawn_28 : decode cX11_drawn 28 = .ok (.getfield 19, 3) := by decide +kernel
theorem dX11_drawn_31 : decode cX11_drawn 31 = .ok (.invokevirtual 280, 3) := by decide +kernel
theorem dX11_drawn_34 : decode cX11_drawn 34 = .ok (.aload_n 0, 1) := by decide +kernel
theorem dX11_drawn_35 : decode cX11_drawn 35 = .ok (.getfield 50, 3) := by decide +kernel
theorem dX11_drawn_38 : decode cX11_drawn 38 = .ok (.aload_n 0, 1) := by decide +kernel
theorem dX11_drawn_39 : decode cX11_drawn 39 = .ok (.getfield 57, 3) := by decide +kernel
theorem dX11_drawn_42 : decode cX11_drawn 42 = .ok (.getfield 163, 3) := by decide +kernel
theorem dX11_drawn_45 : decode cX11_drawn 45 = .ok (.invokevirtual 282, 3) := by decide +kernel
theorem dX11_drawn_48 : decode cX11_drawn 48 = .ok (.aload_n 0, 1) := by decide +kernel
theorem dX11_drawn_49 : decode cX11_drawn 49 = .ok (.aload_n 0, 1) := by decide +kernel
theorem dX11_drawn_50 : decode cX11_drawn 50 = .ok (.getfield 50, 3) := by decide +kernel
theorem dX11_drawn_53 : decode cX11_drawn 53 = .ok (.getfield 286, 3) := by decide +kernel
theorem dX11_drawn_56 : decode cX11_drawn 56 = .ok (.iload_n 1, 1) := by decide +kernel
theorem dX11_drawn_57 : decode cX11_drawn 57 = .ok (.iaload, 1) := by decide +kernel
theorem dX11_drawn_58 : decode cX11_drawn 58 = .ok (.invokevirtual 124, 3) := by decide +kernel
theorem dX11_drawn_61 : decode cX11_drawn 61 = .ok (.ireturn, 1) := by decide +kernel
theorem dX11_believers_0 : decode cX11_believers 0 = .ok (.aload_n 0, 1) := by decide +kernel
theorem dX11_believers_1 : decode cX11_believers 1 = .ok (.getfield 57, 3) := by decide +kernel
theorem dX11_believers_4 : decode cX11_believers 4 = .ok (.getfield 196, 3) := by decide +kernel
theorem dX11_believers_7 : decode cX11_believers 7 = .ok (.ifCond .ne 9, 3) := by decide +kernel
theorem dX11_believers_10 : decode cX11_believers 10 = .ok (.aload_n 0, 1) := by decide +kernel
theorem dX11_believers_11 : decode cX11_believers 11 = .ok (.iconst 1, 1) := by decide +kernel
theorem dX11_believers_12 : decode cX11_believers 12 = .ok (.invokevirtual 75, 3) := by decide +kernel
theorem dX11_believers_15 : decode cX11_believers 15 = .ok (.ireturn, 1) := by decide +kernel
theorem dX11_believers_16 : decode cX11_believers 16 = .ok (.iload_n 1, 1) := by decide +kernel
theorem dX11_believers_17 : decode cX11_believers 17 = .ok (.ifCond .lt 9, 3) := by decide +kernel
theorem dX11_believers_20 : decode cX11_believers 20 = .ok (.iload_n 1, 1) := by decide +kernel
theorem dX11_believers_21 : decode cX11_believers 21 = .ok (.bipush 20, 2) := by decide +kernel
theorem dX11_believers_23 : decode cX11_believers 23 = .ok (.if_icmp .le 9, 3) := by decide +kernel
theorem dX11_believers_26 : decode cX11_believers 26 = .ok (.aload_n 0, 1) := by decide +kernel
theorem dX11_believers_27 : decode cX11_believers 27 = .ok (.iconst 2, 1) := by decide +kernel
theorem dX11_believers_28 : decode cX11_believers 28 = .ok (.invokevirtual 75, 3) := by decide +kernel
theorem dX11_believers_31 : decode cX11_believers 31 = .ok (.ireturn, 1) := by decide +kernel
theorem dX11_believers_32 : decode cX11_believers 32 = .ok (.aload_n 0, 1) := by decide +kernel
theorem dX11_believers_33 : decode cX11_believers 33 = .ok (.getfield 50, 3) := by decide +kernel
theorem dX11_believers_36 : decode cX11_believers 36 = .ok (.aload_n 0, 1) := by decide +kernel
theorem dX11_believers_37 : decode cX11_believers 37 = .ok (.getfield 19, 3) := by decide +kernel
theorem dX11_believers_40 : decode cX11_believers 40 = .ok (.invokevirtual 280, 3) := by decide +kernel
theorem dX11_believers_43 : decode cX11_believers 43 = .ok (.aload_n 0, 1) := by decide +kernel
theorem dX11_believers_44 : decode cX11_believers 44 = .ok (.getfield 50, 3) := by decide +kernel
theorem dX11_believers_47 : decode cX11_believers 47 = .ok (.aload_n 0, 1) := by decide +kernel
theorem dX11_believers_48 : decode cX11_believers 48 = .ok (.getfield 57, 3) := by decide +kernel
theorem dX11_believers_51 : decode cX11_believers 51 = .ok (.getfield 163, 3) := by decide +kernel
theorem dX11_believers_54 : decode cX11_believers 54 = .ok (.iload_n 1, 1) := by decide +kernel
theorem dX11_believers_55 : decode cX11_believers 55 = .ok (.invokevirtual 289, 3) := by decide +kernel
theorem dX11_believers_58 : decode cX11_believers 58 = .ok (.aload_n 0, 1) := by decide +kernel
theorem dX11_believers_59 : decode cX11_believers 59 = .ok (.aload_n 0, 1) := by decide +kernel
theorem dX11_believers_60 : decode cX11_believers 60 = .ok (.getfield 50, 3) := by decide +kernel
theorem dX11_believers_63 : decode cX11_believers 63 = .ok (.aload_n 0, 1) := by decide +kernel
theorem dX11_believers_64 : decode cX11_believers 64 = .ok (.getfield 57, 3) := by decide +kernel
theorem dX11_believers_67 : decode cX11_believers 67 = .ok (.getfield 163, 3) := by decide +kernel
theorem dX11_believers_70 : decode cX11_believers 70 = .ok (.invokevirtual 293, 3) := by decide +kernel
theorem dX11_believers_73 : decode cX11_believers 73 = .ok (.invokevirtual 124, 3) := by decide +kernel
theorem dX11_believers_76 : decode cX11_believers 76 = .ok (.ireturn, 1) := by decide +kernel
theorem dX11_settled_0 : decode cX11_settled 0 = .ok (.aload_n 0, 1) := by decide +kernel
theorem dX11_settled_1 : decode cX11_settled 1 = .ok (.getfield 57, 3) := by decide +kernel
theorem dX11_settled_4 : decode cX11_settled 4 = .ok (.getfield 196, 3) := by decide +kernel
theorem dX11_settled_7 : decode cX11_settled 7 = .ok (.ifCond .ne 9, 3) := by decide +kernel
theorem dX11_settled_10 : decode cX11_settled 10 = .ok (.aload_n 0, 1) := by decide +kernel
theorem dX11_settled_11 : decode cX11_settled 11 = .ok (.iconst 1, 1) := by decide +kernel
theorem dX11_settled_12 : decode cX11_settled 12 = .ok (.invokevirtual 75, 3) := by decide +kernel
theorem dX11_settled_15 : decode cX11_settled 15 = .ok (.ireturn, 1) := by decide +kernel
theorem dX11_settled_16 : decode cX11_settled 16 = .ok (.aload_n 0, 1) := by decide +kernel
theorem dX11_settled_17 : decode cX11_settled 17 = .ok (.getfield 50, 3) := by decide +kernel
theorem dX11_settled_20 : decode cX11_settled 20 = .ok (.aload_n 0, 1) := by decide +kernel
theorem dX11_settled_21 : decode cX11_settled 21 = .ok (.getfield 19, 3) := by decide +kernel
theorem dX11_settled_24 : decode cX11_settled 24 = .ok (.invokevirtual 280, 3) := by decide +kernel
theorem dX11_settled_27 : decode cX11_settled 27 = .ok (.aload_n 0, 1) := by decide +kernel
theorem dX11_settled_28 : decode cX11_settled 28 = .ok (.aload_n 0, 1) := by decide +kernel
theorem dX11_settled_29 : decode cX11_settled 29 = .ok (.getfield 50, 3) := by decide +kernel
theorem dX11_settled_32 : decode cX11_settled 32 = .ok (.aload_n 0, 1) := by decide +kernel
theorem dX11_settled_33 : decode cX11_settled 33 = .ok (.getfield 57, 3) := by decide +kernel
theorem dX11_settled_36 : decode cX11_settled 36 = .ok (.getfield 163, 3) := by decide +kernel
theorem dX11_settled_39 : decode cX11_settled 39 = .ok (.invokevirtual 296, 3) := by decide +kernel
theorem dX11_settled_42 : decode cX11_settled 42 = .ok (.invokevirtual 124, 3) := by decide +kernel
theorem dX11_settled_45 : decode cX11_settled 45 = .ok (.ireturn, 1) := by decide +kernel
theorem dX11_won_0 : decode cX11_won 0 = .ok (.aload_n 0, 1) := by decide +kernel
theorem dX11_won_1 : decode cX11_won 1 = .ok (.getfield 57, 3) := by decide +kernel
theorem dX11_won_4 : decode cX11_won 4 = .ok (.getfield 196, 3) := by decide +kernel
theorem dX11_won_7 : decode cX11_won 7 = .ok (.ifCond .ne 9, 3) := by decide +kernel
theorem dX11_won_10 : decode cX11_won 10 = .ok (.aload_n 0, 1) := by decide +kernel
theorem dX11_won_11 : decode cX11_won 11 = .ok (.iconst 1, 1) := by decide +kernel
theorem dX11_won_12 : decode cX11_won 12 = .ok (.invokevirtual 75, 3) := by decide +kernel
theorem dX11_won_15 : decode cX11_won 15 = .ok (.ireturn, 1) := by decide +kernel
theorem dX11_won_16 : decode cX11_won 16 = .ok (.aload_n 0, 1) := by decide +kernel
theorem dX11_won_17 : decode cX11_won 17 = .ok (.aload_n 0, 1) := by decide +kernel
theorem dX11_won_18 : decode cX11_won 18 = .ok (.getfield 50, 3) := by decide +kernel
theorem dX11_won_21 : decode cX11_won 21 = .ok (.aload_n 0, 1) := by decide +kernel
theorem dX11_won_22 : decode cX11_won 22 = .ok (.getfield 57, 3) := by decide +kernel
theorem dX11_won_25 : decode cX11_won 25 = .ok (.getfield 163, 3) := by decide +kernel
theorem dX11_won_28 : decode cX11_won 28 = .ok (.aload_n 0, 1) := by decide +kernel
theorem dX11_won_29 : decode cX11_won 29 = .ok (.getfield 19, 3) := by decide +kernel
theorem dX11_won_32 : decode cX11_won 32 = .ok (.invokevirtual 299, 3) := by decide +kernel
theorem dX11_won_35 : decode cX11_won 35 = .ok (.invokevirtual 124, 3) := by decide +kernel
theorem dX11_won_38 : decode cX11_won 38 = .ok (.ireturn, 1) := by decide +kernel
theorem dX11_prophet_0 : decode cX11_prophet 0 = .ok (.aload_n 0, 1) := by decide +kernel
theorem dX11_prophet_1 : decode cX11_prophet 1 = .ok (.getfield 57, 3) := by decide +kernel
theorem dX11_prophet_4 : decode cX11_prophet 4 = .ok (.getfield 196, 3) := by decide +kernel
theorem dX11_prophet_7 : decode cX11_prophet 7 = .ok (.ifCond .ne 9, 3) := by decide +kernel
theorem dX11_prophet_10 : decode cX11_prophet 10 = .ok (.aload_n 0, 1) := by decide +kernel
theorem dX11_prophet_11 : decode cX11_prophet 11 = .ok (.iconst 1, 1) := by decide +kernel
theorem dX11_prophet_12 : decode cX11_prophet 12 = .ok (.invokevirtual 75, 3) := by decide +kernel
theorem dX11_prophet_15 : decode cX11_prophet 15 = .ok (.ireturn, 1) := by decide +kernel
theorem dX11_prophet_16 : decode cX11_prophet 16 = .ok (.aload_n 0, 1) := by decide +kernel
theorem dX11_prophet_17 : decode cX11_prophet 17 = .ok (.aload_n 0, 1) := by decide +kernel
theorem dX11_prophet_18 : decode cX11_prophet 18 = .ok (.getfield 50, 3) := by decide +kernel
theorem dX11_prophet_21 : decode cX11_prophet 21 = .ok (.aload_n 0, 1) := by decide +kernel
theorem dX11_prophet_22 : decode cX11_prophet 22 = .ok (.getfield 57, 3) := by decide +kernel
theorem dX11_prophet_25 : decode cX11_prophet 25 = .ok (.getfield 163, 3) := by decide +kernel
theorem dX11_prophet_28 : decode cX11_prophet 28 = .ok (.aload_n 0, 1) := by decide +kernel
theorem dX11_prophet_29 : decode cX11_prophet 29 = .ok (.getfield 19, 3) := by decide +kernel
theorem dX11_prophet_32 : decode cX11_prophet 32 = .ok (.invokevirtual 303, 3) := by decide +kernel
theorem dX11_prophet_35 : decode cX11_prophet 35 = .ok (.invokevirtual 124, 3) := by decide +kernel
theorem dX11_prophet_38 : decode cX11_prophet 38 = .ok (.ireturn, 1) := by decide +kernel
theorem dX11_shout_0 : decode cX11_shout 0 = .ok (.aload_n 0, 1) := by decide +kernel
theorem dX11_shout_1 : decode cX11_shout 1 = .ok (.getfield 57, 3) := by decide +kernel
theorem dX11_shout_4 : decode cX11_shout 4 = .ok (.getfield 196, 3) := by decide +kernel
theorem dX11_shout_7 : decode cX11_shout 7 = .ok (.ifCond .ne 11, 3) := by decide +kernel
theorem dX11_shout_10 : decode cX11_shout 10 = .ok (.aload_n 0, 1) := by decide +kernel
theorem dX11_shout_11 : decode cX11_shout 11 = .ok (.iconst 1, 1) := by decide +kernel
theorem dX11_shout_12 : decode cX11_shout 12 = .ok (.bipush (-100), 2) := by decide +kernel
theorem dX11_shout_14 : decode cX11_shout 14 = .ok (.invokevirtual 170, 3) := by decide +kernel
theorem dX11_shout_17 : decode cX11_shout 17 = .ok (.ireturn, 1) := by decide +kernel
theorem dX11_shout_18 : decode cX11_shout 18 = .ok (.iload_n 1, 1) := by decide +kernel
theorem dX11_shout_19 : decode cX11_shout 19 = .ok (.invokestatic 306, 3) := by decide +kernel
theorem dX11_shout_22 : decode cX11_shout 22 = .ok (.ifCond .eq 17, 3) := by decide +kernel
theorem dX11_shout_25 : decode cX11_shout 25 = .ok (.iload_n 2, 1) := by decide +kernel
theorem dX11_shout_26 : decode cX11_shout 26 = .ok (.invokestatic 309, 3) := by decide +kernel
theorem dX11_shout_29 : decode cX11_shout 29 = .ok (.ifCond .eq 10, 3) := by decide +kernel
theorem dX11_shout_32 : decode cX11_shout 32 = .ok (.iload_n 3, 1) := by decide +kernel
theorem dX11_shout_33 : decode cX11_shout 33 = .ok (.invokestatic 309, 3) := by decide +kernel
theorem dX11_shout_36 : decode cX11_shout 36 = .ok (.ifCond .ne 11, 3) := by decide +kernel
theorem dX11_shout_39 : decode cX11_shout 39 = .ok (.aload_n 0, 1) := by decide +kernel
theorem dX11_shout_40 : decode cX11_shout 40 = .ok (.iconst 2, 1) := by decide +kernel
theorem dX11_shout_41 : decode cX11_shout 41 = .ok (.bipush (-100), 2) := by decide +kernel
theorem dX11_shout_43 : decode cX11_shout 43 = .ok (.invokevirtual 170, 3) := by decide +kernel
theorem dX11_shout_46 : decode cX11_shout 46 = .ok (.ireturn, 1) := by decide +kernel
theorem dX11_shout_47 : decode cX11_shout 47 = .ok (.aload_n 0, 1) := by decide +kernel
theorem dX11_shout_48 : decode cX11_shout 48 = .ok (.iload 4, 2) := by decide +kernel
theorem dX11_shout_50 : decode cX11_shout 50 = .ok (.ifCond .eq 12, 3) := by decide +kernel
theorem dX11_shout_53 : decode cX11_shout 53 = .ok (.iload_n 1, 1) := by decide +kernel
theorem dX11_shout_54 : decode cX11_shout 54 = .ok (.iload_n 3, 1) := by decide +kernel
theorem dX11_shout_55 : decode cX11_shout 55 = .ok (.iload_n 2, 1) := by decide +kernel
theorem dX11_shout_56 : decode cX11_shout 56 = .ok (.invokestatic 312, 3) := by decide +kernel
theorem dX11_shout_59 : decode cX11_shout 59 = .ok (.goto 9, 3) := by decide +kernel
theorem dX11_shout_62 : decode cX11_shout 62 = .ok (.iload_n 1, 1) := by decide +kernel
theorem dX11_shout_63 : decode cX11_shout 63 = .ok (.iload_n 2, 1) := by decide +kernel
theorem dX11_shout_64 : decode cX11_shout 64 = .ok (.iload_n 3, 1) := by decide +kernel
theorem dX11_shout_65 : decode cX11_shout 65 = .ok (.invokestatic 312, 3) := by decide +kernel
theorem dX11_shout_68 : decode cX11_shout 68 = .ok (.invokevirtual 124, 3) := by decide +kernel
theorem dX11_shout_71 : decode cX11_shout 71 = .ok (.ireturn, 1) := by decide +kernel
theorem dX11_rests_0 : decode cX11_rests 0 = .ok (.aload_n 0, 1) := by decide +kernel
theorem dX11_rests_1 : decode cX11_rests 1 = .ok (.getfield 57, 3) := by decide +kernel
theorem dX11_rests_4 : decode cX11_rests 4 = .ok (.getfield 196, 3) := by decide +kernel
theorem dX11_rests_7 : decode cX11_rests 7 = .ok (.ifCond .ne 9, 3) := by decide +kernel
theorem dX11_rests_10 : decode cX11_rests 10 = .ok (.aload_n 0, 1) := by decide +kernel
theorem dX11_rests_11 : decode cX11_rests 11 = .ok (.iconst 1, 1) := by decide +kernel
theorem dX11_rests_12 : decode cX11_rests 12 = .ok (.invokevirtual 75, 3) := by decide +kernel
theorem dX11_rests_15 : decode cX11_rests 15 = .ok (.ireturn, 1) := by decide +kernel
theorem dX11_rests_16 : decode cX11_rests 16 = .ok (.iload_n 1, 1) := by decide +kernel
theorem dX11_rests_17 : decode cX11_rests 17 = .ok (.invokestatic 306, 3) := by decide +kernel
theorem dX11_rests_20 : decode cX11_rests 20 = .ok (.ifCond .ne 9, 3) := by decide +kernel
theorem dX11_rests_23 : decode cX11_rests 23 = .ok (.aload_n 0, 1) := by decide +kernel
theorem dX11_rests_24 : decode cX11_rests 24 = .ok (.iconst 2, 1) := by decide +kernel
theorem dX11_rests_25 : decode cX11_rests 25 = .ok (.invokevirtual 75, 3) := by decide +kernel
theorem dX11_rests_28 : decode cX11_rests 28 = .ok (.ireturn, 1) := by decide +kernel
theorem dX11_rests_29 : decode cX11_rests 29 = .ok (.iconst 0, 1) := by decide +kernel
theorem dX11_rests_30 : decode cX11_rests 30 = .ok (.istore_n 2, 1) := by decide +kernel
theorem dX11_rests_31 : decode cX11_rests 31 = .ok (.iconst 0, 1) := by decide +kernel
theorem dX11_rests_32 : decode cX11_rests 32 = .ok (.istore_n 3, 1) := by decide +kernel
theorem dX11_rests_33 : decode cX11_rests 33 = .ok (.iload_n 3, 1) := by decide +kernel
theorem dX11_rests_34 : decode cX11_rests 34 = .ok (.bipush 6, 2) := by decide +kernel
theorem dX11_rests_36 : decode cX11_rests 36 = .ok (.if_icmp .gt 38, 3) := by decide +kernel
theorem dX11_rests_39 : decode cX11_rests 39 = .ok (.iconst 0, 1) := by decide +kernel
theorem dX11_rests_40 : decode cX11_rests 40 = .ok (.istore 4, 2) := by decide +kernel
theorem dX11_rests_42 : decode cX11_rests 42 = .ok (.iload 4, 2) := by decide +kernel
theorem dX11_rests_44 : decode cX11_rests 44 = .ok (.bipush 6, 2) := by decide +kernel
theorem dX11_rests_46 : decode cX11_rests 46 = .ok (.if_icmp .gt 22, 3) := by decide +kernel
theorem dX11_rests_49 : decode cX11_rests 49 = .ok (.iload_n 1, 1) := by decide +kernel
theorem dX11_rests_50 : decode cX11_rests 50 = .ok (.iload_n 3, 1) := by decide +kernel
theorem dX11_rests_51 : decode cX11_rests 51 = .ok (.iload 4, 2) := by decide +kernel
theorem dX11_rests_53 : decode cX11_rests 53 = .ok (.invokestatic 316, 3) := by decide +kernel
theorem dX11_rests_56 : decode cX11_rests 56 = .ok (.ifCond .eq 6, 3) := by decide +kernel
theorem dX11_rests_59 : decode cX11_rests 59 = .ok (.iinc 2 1, 3) := by decide +kernel
theorem dX11_rests_62 : decode cX11_rests 62 = .ok (.iinc 4 1, 3) := by decide +kernel
theorem dX11_rests_65 : decode cX11_rests 65 = .ok (.goto (-23), 3) := by decide +kernel
theorem dX11_rests_68 : decode cX11_rests 68 = .ok (.iinc 3 1, 3) := by decide +kernel
theorem dX11_rests_71 : decode cX11_rests 71 = .ok (.goto (-38), 3) := by decide +kernel
theorem dX11_rests_74 : decode cX11_rests 74 = .ok (.aload_n 0, 1) := by decide +kernel
theorem dX11_rests_75 : decode cX11_rests 75 = .ok (.iload_n 2, 1) := by decide +kernel
theorem dX11_rests_76 : decode cX11_rests 76 = .ok (.invokevirtual 124, 3) := by decide +kernel
theorem dX11_rests_79 : decode cX11_rests 79 = .ok (.ireturn, 1) := by decide +kernel
theorem dX11_rest_0 : decode cX11_rest 0 = .ok (.aload_n 0, 1) := by decide +kernel
theorem dX11_rest_1 : decode cX11_rest 1 = .ok (.getfield 57, 3) := by decide +kernel
theorem dX11_rest_4 : decode cX11_rest 4 = .ok (.getfield 196, 3) := by decide +kernel
theorem dX11_rest_7 : decode cX11_rest 7 = .ok (.ifCond .ne 9, 3) := by decide +kernel
theorem dX11_rest_10 : decode cX11_rest 10 = .ok (.aload_n 0, 1) := by decide +kernel
theorem dX11_rest_11 : decode cX11_rest 11 = .ok (.iconst 1, 1) := by decide +kernel
theorem dX11_rest_12 : decode cX11_rest 12 = .ok (.invokevirtual 75, 3) := by decide +kernel
theorem dX11_rest_15 : decode cX11_rest 15 = .ok (.ireturn, 1) := by decide +kernel
theorem dX11_rest_16 : decode cX11_rest 16 = .ok (.iload_n 1, 1) := by decide +kernel
theorem dX11_rest_17 : decode cX11_rest 17 = .ok (.invokestatic 306, 3) := by decide +kernel
theorem dX11_rest_20 : decode cX11_rest 20 = .ok (.ifCond .ne 9, 3) := by decide +kernel
theorem dX11_rest_23 : decode cX11_rest 23 = .ok (.aload_n 0, 1) := by decide +kernel
theorem dX11_rest_24 : decode cX11_rest 24 = .ok (.iconst 2, 1) := by decide +kernel
theorem dX11_rest_25 : decode cX11_rest 25 = .ok (.invokevirtual 75, 3) := by decide +kernel
theorem dX11_rest_28 : decode cX11_rest 28 = .ok (.ireturn, 1) := by decide +kernel
theorem dX11_rest_29 : decode cX11_rest 29 = .ok (.iconst 0, 1) := by decide +kernel
theorem dX11_rest_30 : decode cX11_rest 30 = .ok (.istore_n 2, 1) := by decide +kernel
theorem dX11_rest_31 : decode cX11_rest 31 = .ok (.iload_n 2, 1) := by decide +kernel
theorem dX11_rest_32 : decode cX11_rest 32 = .ok (.bipush 6, 2) := by decide +kernel
theorem dX11_rest_34 : decode cX11_rest 34 = .ok (.if_icmp .gt 43, 3) := by decide +kernel
theorem dX11_rest_37 : decode cX11_rest 37 = .ok (.iconst 0, 1) := by decide +kernel
theorem dX11_rest_38 : decode cX11_rest 38 = .ok (.istore_n 3, 1) := by decide +kernel
theorem dX11_rest_39 : decode cX11_rest 39 = .ok (.iload_n 3, 1) := by decide +kernel
theorem dX11_rest_40 : decode cX11_rest 40 = .ok (.bipush 6, 2) := by decide +kernel
theorem dX11_rest_42 : decode cX11_rest 42 = .ok (.if_icmp .gt 29, 3) := by decide +kernel
theorem dX11_rest_45 : decode cX11_rest 45 = .ok (.iload_n 1, 1) := by decide +kernel
theorem dX11_rest_46 : decode cX11_rest 46 = .ok (.iload_n 2, 1) := by decide +kernel
theorem dX11_rest_47 : decode cX11_rest 47 = .ok (.iload_n 3, 1) := by decide +kernel
theorem dX11_rest_48 : decode cX11_rest 48 = .ok (.invokestatic 316, 3) := by decide +kernel
theorem dX11_rest_51 : decode cX11_rest 51 = .ok (.ifCond .eq 14, 3) := by decide +kernel
theorem dX11_rest_54 : decode cX11_rest 54 = .ok (.aload_n 0, 1) := by decide +kernel
theorem dX11_rest_55 : decode cX11_rest 55 = .ok (.bipush 10, 2) := by decide +kernel
theorem dX11_rest_57 : decode cX11_rest 57 = .ok (.iload_n 2, 1) := by decide +kernel
theorem dX11_rest_58 : decode cX11_rest 58 = .ok (.imul, 1) := by decide +kernel
theorem dX11_rest_59 : decode cX11_rest 59 = .ok (.iload_n 3, 1) := by decide +kernel
theorem dX11_rest_60 : decode cX11_rest 60 = .ok (.iadd, 1) := by decide +kernel
theorem dX11_rest_61 : decode cX11_rest 61 = .ok (.invokevirtual 124, 3) := by decide +kernel
theorem dX11_rest_64 : decode cX11_rest 64 = .ok (.ireturn, 1) := by decide +kernel
theorem dX11_rest_65 : decode cX11_rest 65 = .ok (.iinc 3 1, 3) := by decide +kernel
theorem dX11_rest_68 : decode cX11_rest 68 = .ok (.goto (-29), 3) := by decide +kernel
theorem dX11_rest_71 : decode cX11_rest 71 = .ok (.iinc 2 1, 3) := by decide +kernel
theorem dX11_rest_74 : decode cX11_rest 74 = .ok (.goto (-43), 3) := by decide +kernel
theorem dX11_rest_77 : decode cX11_rest 77 = .ok (.aload_n 0, 1) := by decide +kernel
theorem dX11_rest_78 : decode cX11_rest 78 = .ok (.bipush (-2), 2) := by decide +kernel
theorem dX11_rest_80 : decode cX11_rest 80 = .ok (.invokevirtual 124, 3) := by decide +kernel
theorem dX11_rest_83 : decode cX11_rest 83 = .ok (.ireturn, 1) := by decide +kernel
theorem dX11_years_0 : decode cX11_years 0 = .ok (.aload_n 0, 1) := by decide +kernel
theorem dX11_years_1 : decode cX11_years 1 = .ok (.getfield 57, 3) := by decide +kernel
theorem dX11_years_4 : decode cX11_years 4 = .ok (.getfield 163, 3) := by decide +kernel
theorem dX11_years_7 : decode cX11_years 7 = .ok (.iconst 0, 1) := by decide +kernel
theorem dX11_years_8 : decode cX11_years 8 = .ok (.invokevirtual 167, 3) := by decide +kernel
theorem dX11_years_11 : decode cX11_years 11 = .ok (.ifCond .ne 9, 3) := by decide +kernel
theorem dX11_years_14 : decode cX11_years 14 = .ok (.aload_n 0, 1) := by decide +kernel
theorem dX11_years_15 : decode cX11_years 15 = .ok (.iconst 1, 1) := by decide +kernel
theorem dX11_years_16 : decode cX11_years 16 = .ok (.invokevirtual 75, 3) := by decide +kernel
theorem dX11_years_19 : decode cX11_years 19 = .ok (.ireturn, 1) := by decide +kernel
theorem dX11_years_20 : decode cX11_years 20 = .ok (.iload_n 1, 1) := by decide +kernel
theorem dX11_years_21 : decode cX11_years 21 = .ok (.iload_n 2, 1) := by decide +kernel
theorem dX11_years_22 : decode cX11_years 22 = .ok (.invokestatic 320, 3) := by decide +kernel
theorem dX11_years_25 : decode cX11_years 25 = .ok (.ifCond .ne 9, 3) := by decide +kernel
theorem dX11_years_28 : decode cX11_years 28 = .ok (.aload_n 0, 1) := by decide +kernel
theorem dX11_years_29 : decode cX11_years 29 = .ok (.iconst 2, 1) := by decide +kernel
theorem dX11_years_30 : decode cX11_years 30 = .ok (.invokevirtual 75, 3) := by decide +kernel
theorem dX11_years_33 : decode cX11_years 33 = .ok (.ireturn, 1) := by decide +kernel
theorem dX11_years_34 : decode cX11_years 34 = .ok (.aload_n 0, 1) := by decide +kernel
theorem dX11_years_35 : decode cX11_years 35 = .ok (.iconst 0, 1) := by decide +kernel
theorem dX11_years_36 : decode cX11_years 36 = .ok (.iload_n 1, 1) := by decide +kernel
theorem dX11_years_37 : decode cX11_years 37 = .ok (.iload_n 2, 1) := by decide +kernel
theorem dX11_years_38 : decode cX11_years 38 = .ok (.invokevirtual 323, 3) := by decide +kernel
theorem dX11_years_41 : decode cX11_years 41 = .ok (.pop, 1) := by decide +kernel
theorem dX11_years_42 : decode cX11_years 42 = .ok (.aload_n 0, 1) := by decide +kernel
theorem dX11_years_43 : decode cX11_years 43 = .ok (.aload_n 0, 1) := by decide +kernel
theorem dX11_years_44 : decode cX11_years 44 = .ok (.getfield 57, 3) := by decide +kernel
theorem dX11_years_47 : decode cX11_years 47 = .ok (.aload_n 0, 1) := by decide +kernel
theorem dX11_years_48 : decode cX11_years 48 = .ok (.getfield 23, 3) := by decide +kernel
theorem dX11_years_51 : decode cX11_years 51 = .ok (.aload_n 0, 1) := by decide +kernel
theorem dX11_years_52 : decode cX11_years 52 = .ok (.getfield 57, 3) := by decide +kernel
theorem dX11_years_55 : decode cX11_years 55 = .ok (.getfield 115, 3) := by decide +kernel
theorem dX11_years_58 : decode cX11_years 58 = .ok (.getfield 149, 3) := by decide +kernel
theorem dX11_years_61 : decode cX11_years 61 = .ok (.invokevirtual 200, 3) := by decide +kernel
theorem dX11_years_64 : decode cX11_years 64 = .ok (.invokestatic 326, 3) := by decide +kernel
theorem dX11_years_67 : decode cX11_years 67 = .ok (.invokevirtual 124, 3) := by decide +kernel
theorem dX11_years_70 : decode cX11_years 70 = .ok (.ireturn, 1) := by decide +kernel
theorem dX11_yearsAt_0 : decode cX11_yearsAt 0 = .ok (.aload_n 0, 1) := by decide +kernel
theorem dX11_yearsAt_1 : decode cX11_yearsAt 1 = .ok (.getfield 57, 3) := by decide +kernel
theorem dX11_yearsAt_4 : decode cX11_yearsAt 4 = .ok (.getfield 163, 3) := by decide +kernel
theorem dX11_yearsAt_7 : decode cX11_yearsAt 7 = .ok (.iload_n 1, 1) := by decide +kernel
theorem dX11_yearsAt_8 : decode cX11_yearsAt 8 = .ok (.invokevirtual 167, 3) := by decide +kernel
theorem dX11_yearsAt_11 : decode cX11_yearsAt 11 = .ok (.ifCond .ne 9, 3) := by decide +kernel
theorem dX11_yearsAt_14 : decode cX11_yearsAt 14 = .ok (.aload_n 0, 1) := by decide +kernel
theorem dX11_yearsAt_15 : decode cX11_yearsAt 15 = .ok (.iconst 1, 1) := by decide +kernel
theorem dX11_yearsAt_16 : decode cX11_yearsAt 16 = .ok (.invokevirtual 75, 3) := by decide +kernel
theorem dX11_yearsAt_19 : decode cX11_yearsAt 19 = .ok (.ireturn, 1) := by decide +kernel
theorem dX11_yearsAt_20 : decode cX11_yearsAt 20 = .ok (.iload_n 2, 1) := by decide +kernel
theorem dX11_yearsAt_21 : decode cX11_yearsAt 21 = .ok (.iload_n 3, 1) := by decide +kernel
theorem dX11_yearsAt_22 : decode cX11_yearsAt 22 = .ok (.invokestatic 320, 3) := by decide +kernel
theorem dX11_yearsAt_25 : decode cX11_yearsAt 25 = .ok (.ifCond .ne 9, 3) := by decide +kernel
theorem dX11_yearsAt_28 : decode cX11_yearsAt 28 = .ok (.aload_n 0, 1) := by decide +kernel
theorem dX11_yearsAt_29 : decode cX11_yearsAt 29 = .ok (.iconst 2, 1) := by decide +kernel
theorem dX11_yearsAt_30 : decode cX11_yearsAt 30 = .ok (.invokevirtual 75, 3) := by decide +kernel
theorem dX11_yearsAt_33 : decode cX11_yearsAt 33 = .ok (.ireturn, 1) := by decide +kernel
theorem dX11_yearsAt_34 : decode cX11_yearsAt 34 = .ok (.aload_n 0, 1) := by decide +kernel
theorem dX11_yearsAt_35 : decode cX11_yearsAt 35 = .ok (.iload_n 1, 1) := by decide +kernel
theorem dX11_yearsAt_36 : decode cX11_yearsAt 36 = .ok (.iload_n 2, 1) := by decide +kernel
theorem dX11_yearsAt_37 : decode cX11_yearsAt 37 = .ok (.iload_n 3, 1) := by decide +kernel
theorem dX11_yearsAt_38 : decode cX11_yearsAt 38 = .ok (.invokevirtual 323, 3) := by decide +kernel
theorem dX11_yearsAt_41 : decode cX11_yearsAt 41 = .ok (.pop, 1) := by decide +kernel
theorem dX11_yearsAt_42 : decode cX11_yearsAt 42 = .ok (.aload_n 0, 1) := by decide +kernel
theorem dX11_yearsAt_43 : decode cX11_yearsAt 43 = .ok (.aload_n 0, 1) := by decide +kernel
theorem dX11_yearsAt_44 : decode cX11_yearsAt 44 = .ok (.getfield 23, 3) := by decide +kernel
theorem dX11_yearsAt_47 : decode cX11_yearsAt 47 = .ok (.getfield 179, 3) := by decide +kernel
theorem dX11_yearsAt_50 : decode cX11_yearsAt 50 = .ok (.iload_n 1, 1) := by decide +kernel
theorem dX11_yearsAt_51 : decode cX11_yearsAt 51 = .ok (.iaload, 1) := by decide +kernel
theorem dX11_yearsAt_52 : decode cX11_yearsAt 52 = .ok (.invokevirtual 124, 3) := by decide +kernel
theorem dX11_yearsAt_55 : decode cX11_yearsAt 55 = .ok (.ireturn, 1) := by decide +kernel
theorem dX11_happy_0 : decode cX11_happy 0 = .ok (.aload_n 0, 1) := by decide +kernel
theorem dX11_happy_1 : decode cX11_happy 1 = .ok (.getfield 57, 3) := by decide +kernel
theorem dX11_happy_4 : decode cX11_happy 4 = .ok (.getfield 163, 3) := by decide +kernel
theorem dX11_happy_7 : decode cX11_happy 7 = .ok (.iload_n 1, 1) := by decide +kernel
theorem dX11_happy_8 : decode cX11_happy 8 = .ok (.invokevirtual 167, 3) := by decide +kernel
theorem dX11_happy_11 : decode cX11_happy 11 = .ok (.ifCond .ne 9, 3) := by decide +kernel
theorem dX11_happy_14 : decode cX11_happy 14 = .ok (.aload_n 0, 1) := by decide +kernel
theorem dX11_happy_15 : decode cX11_happy 15 = .ok (.iconst 1, 1) := by decide +kernel
theorem dX11_happy_16 : decode cX11_happy 16 = .ok (.invokevirtual 75, 3) := by decide +kernel
theorem dX11_happy_19 : decode cX11_happy 19 = .ok (.ireturn, 1) := by decide +kernel
theorem dX11_happy_20 : decode cX11_happy 20 = .ok (.iload_n 2, 1) := by decide +kernel
theorem dX11_happy_21 : decode cX11_happy 21 = .ok (.iload_n 3, 1) := by decide +kernel
theorem dX11_happy_22 : decode cX11_happy 22 = .ok (.invokestatic 320, 3) := by decide +kernel
theorem dX11_happy_25 : decode cX11_happy 25 = .ok (.ifCond .ne 9, 3) := by decide +kernel
theorem dX11_happy_28 : decode cX11_happy 28 = .ok (.aload_n 0, 1) := by decide +kernel
theorem dX11_happy_29 : decode cX11_happy 29 = .ok (.iconst 2, 1) := by decide +kernel
theorem dX11_happy_30 : decode cX11_happy 30 = .ok (.invokevirtual 75, 3) := by decide +kernel
theorem dX11_happy_33 : decode cX11_happy 33 = .ok (.ireturn, 1) := by decide +kernel
theorem dX11_happy_34 : decode cX11_happy 34 = .ok (.aload_n 0, 1) := by decide +kernel
theorem dX11_happy_35 : decode cX11_happy 35 = .ok (.aload_n 0, 1) := by decide +kernel
theorem dX11_happy_36 : decode cX11_happy 36 = .ok (.iload_n 1, 1) := by decide +kernel
theorem dX11_happy_37 : decode cX11_happy 37 = .ok (.iload_n 2, 1) := by decide +kernel
theorem dX11_happy_38 : decode cX11_happy 38 = .ok (.iload_n 3, 1) := by decide +kernel
theorem dX11_happy_39 : decode cX11_happy 39 = .ok (.invokevirtual 323, 3) := by decide +kernel
theorem dX11_happy_42 : decode cX11_happy 42 = .ok (.invokevirtual 124, 3) := by decide +kernel
theorem dX11_happy_45 : decode cX11_happy 45 = .ok (.ireturn, 1) := by decide +kernel
theorem dX11_sit_0 : decode cX11_sit 0 = .ok (.aload_n 0, 1) := by decide +kernel
theorem dX11_sit_1 : decode cX11_sit 1 = .ok (.getfield 57, 3) := by decide +kernel
theorem dX11_sit_4 : decode cX11_sit 4 = .ok (.getfield 163, 3) := by decide +kernel
theorem dX11_sit_7 : decode cX11_sit 7 = .ok (.iload_n 1, 1) := by decide +kernel
theorem dX11_sit_8 : decode cX11_sit 8 = .ok (.invokevirtual 167, 3) := by decide +kernel
theorem dX11_sit_11 : decode cX11_sit 11 = .ok (.ifCond .eq 17, 3) := by decide +kernel
theorem dX11_sit_14 : decode cX11_sit 14 = .ok (.aload_n 0, 1) := by decide +kernel
theorem dX11_sit_15 : decode cX11_sit 15 = .ok (.getfield 57, 3) := by decide +kernel
theorem dX11_sit_18 : decode cX11_sit 18 = .ok (.getfield 115, 3) := by decide +kernel
theorem dX11_sit_21 : decode cX11_sit 21 = .ok (.iload_n 2, 1) := by decide +kernel
theorem dX11_sit_22 : decode cX11_sit 22 = .ok (.invokevirtual 130, 3) := by decide +kernel
theorem dX11_sit_25 : decode cX11_sit 25 = .ok (.ifCond .ne 9, 3) := by decide +kernel
theorem dX11_sit_28 : decode cX11_sit 28 = .ok (.aload_n 0, 1) := by decide +kernel
theorem dX11_sit_29 : decode cX11_sit 29 = .ok (.iconst 1, 1) := by decide +kernel
theorem dX11_sit_30 : decode cX11_sit 30 = .ok (.invokevirtual 331, 3) := by decide +kernel
theorem dX11_sit_33 : decode cX11_sit 33 = .ok (.ireturn, 1) := by decide +kernel
theorem dX11_sit_34 : decode cX11_sit 34 = .ok (.aload_n 0, 1) := by decide +kernel
theorem dX11_sit_35 : decode cX11_sit 35 = .ok (.getfield 19, 3) := by decide +kernel
theorem dX11_sit_38 : decode cX11_sit 38 = .ok (.getfield 179, 3) := by decide +kernel
theorem dX11_sit_41 : decode cX11_sit 41 = .ok (.iload_n 1, 1) := by decide +kernel
theorem dX11_sit_42 : decode cX11_sit 42 = .ok (.iaload, 1) := by decide +kernel
theorem dX11_sit_43 : decode cX11_sit 43 = .ok (.iload_n 2, 1) := by decide +kernel
theorem dX11_sit_44 : decode cX11_sit 44 = .ok (.if_icmp .eq 15, 3) := by decide +kernel
theorem dX11_sit_47 : decode cX11_sit 47 = .ok (.aload_n 0, 1) := by decide +kernel
theorem dX11_sit_48 : decode cX11_sit 48 = .ok (.getfield 57, 3) := by decide +kernel
theorem dX11_sit_51 : decode cX11_sit 51 = .ok (.iload_n 1, 1) := by decide +kernel
theorem dX11_sit_52 : decode cX11_sit 52 = .ok (.iload_n 2, 1) := by decide +kernel
theorem dX11_sit_53 : decode cX11_sit 53 = .ok (.invokevirtual 192, 3) := by decide +kernel
theorem dX11_sit_56 : decode cX11_sit 56 = .ok (.ifCond .ne 9, 3) := by decide +kernel
theorem dX11_sit_59 : decode cX11_sit 59 = .ok (.aload_n 0, 1) := by decide +kernel
theorem dX11_sit_60 : decode cX11_sit 60 = .ok (.iconst 5, 1) := by decide +kernel
theorem dX11_sit_61 : decode cX11_sit 61 = .ok (.invokevirtual 331, 3) := by decide +kernel
theorem dX11_sit_64 : decode cX11_sit 64 = .ok (.ireturn, 1) := by decide +kernel
theorem dX11_sit_65 : decode cX11_sit 65 = .ok (.aload_n 0, 1) := by decide +kernel
theorem dX11_sit_66 : decode cX11_sit 66 = .ok (.getfield 57, 3) := by decide +kernel
theorem dX11_sit_69 : decode cX11_sit 69 = .ok (.aload_n 0, 1) := by decide +kernel
theorem dX11_sit_70 : decode cX11_sit 70 = .ok (.getfield 19, 3) := by decide +kernel
theorem dX11_sit_73 : decode cX11_sit 73 = .ok (.iload_n 2, 1) := by decide +kernel
theorem dX11_sit_74 : decode cX11_sit 74 = .ok (.invokevirtual 334, 3) := by decide +kernel
theorem dX11_sit_77 : decode cX11_sit 77 = .ok (.ifCond .ne 9, 3) := by decide +kernel
theorem dX11_sit_80 : decode cX11_sit 80 = .ok (.aload_n 0, 1) := by decide +kernel
theorem dX11_sit_81 : decode cX11_sit 81 = .ok (.iconst 3, 1) := by decide +kernel
theorem dX11_sit_82 : decode cX11_sit 82 = .ok (.invokevirtual 331, 3) := by decide +kernel
theorem dX11_sit_85 : decode cX11_sit 85 = .ok (.ireturn, 1) := by decide +kernel
theorem dX11_sit_86 : decode cX11_sit 86 = .ok (.aload_n 0, 1) := by decide +kernel
theorem dX11_sit_87 : decode cX11_sit 87 = .ok (.getfield 29, 3) := by decide +kernel
theorem dX11_sit_90 : decode cX11_sit 90 = .ok (.aload_n 0, 1) := by decide +kernel
theorem dX11_sit_91 : decode cX11_sit 91 = .ok (.getfield 19, 3) := by decide +kernel
theorem dX11_sit_94 : decode cX11_sit 94 = .ok (.invokevirtual 338, 3) := by decide +kernel
theorem dX11_sit_97 : decode cX11_sit 97 = .ok (.aload_n 0, 1) := by decide +kernel
theorem dX11_sit_98 : decode cX11_sit 98 = .ok (.getfield 19, 3) := by decide +kernel
theorem dX11_sit_101 : decode cX11_sit 101 = .ok (.getfield 179, 3) := by decide +kernel
theorem dX11_sit_104 : decode cX11_sit 104 = .ok (.iload_n 1, 1) := by decide +kernel
theorem dX11_sit_105 : decode cX11_sit 105 = .ok (.iload_n 2, 1) := by decide +kernel
theorem dX11_sit_106 : decode cX11_sit 106 = .ok (.iastore, 1) := by decide +kernel
theorem dX11_sit_107 : decode cX11_sit 107 = .ok (.aload_n 0, 1) := by decide +kernel
theorem dX11_sit_108 : decode cX11_sit 108 = .ok (.invokevirtual 341, 3) := by decide +kernel
theorem dX11_sit_111 : decode cX11_sit 111 = .ok (.ireturn, 1) := by decide +kernel
theorem dX11_stand_0 : decode cX11_stand 0 = .ok (.aload_n 0, 1) := by decide +kernel
theorem dX11_stand_1 : decode cX11_stand 1 = .ok (.getfield 57, 3) := by decide +kernel
theorem dX11_stand_4 : decode cX11_stand 4 = .ok (.getfield 163, 3) := by decide +kernel
theorem dX11_stand_7 : decode cX11_stand 7 = .ok (.iload_n 1, 1) := by decide +kernel
theorem dX11_stand_8 : decode cX11_stand 8 = .ok (.invokevirtual 167, 3) := by decide +kernel
theorem dX11_stand_11 : decode cX11_stand 11 = .ok (.ifCond .ne 9, 3) := by decide +kernel
theorem dX11_stand_14 : decode cX11_stand 14 = .ok (.aload_n 0, 1) := by decide +kernel
theorem dX11_stand_15 : decode cX11_stand 15 = .ok (.iconst 1, 1) := by decide +kernel
theorem dX11_stand_16 : decode cX11_stand 16 = .ok (.invokevirtual 331, 3) := by decide +kernel
theorem dX11_stand_19 : decode cX11_stand 19 = .ok (.ireturn, 1) := by decide +kernel
theorem dX11_stand_20 : decode cX11_stand 20 = .ok (.aload_n 0, 1) := by decide +kernel
theorem dX11_stand_21 : decode cX11_stand 21 = .ok (.getfield 19, 3) := by decide +kernel
theorem dX11_stand_24 : decode cX11_stand 24 = .ok (.getfield 179, 3) := by decide +kernel
theorem dX11_stand_27 : decode cX11_stand 27 = .ok (.iload_n 1, 1) := by decide +kernel
theorem dX11_stand_28 : decode cX11_stand 28 = .ok (.iaload, 1) := by decide +kernel
theorem dX11_stand_29 : decode cX11_stand 29 = .ok (.bipush (-2), 2) := by decide +kernel
theorem dX11_stand_31 : decode cX11_stand 31 = .ok (.if_icmp .ne 9, 3) := by decide +kernel
theorem dX11_stand_34 : decode cX11_stand 34 = .ok (.aload_n 0, 1) := by decide +kernel
theorem dX11_stand_35 : decode cX11_stand 35 = .ok (.iconst 5, 1) := by decide +kernel
theorem dX11_stand_36 : decode cX11_stand 36 = .ok (.invokevirtual 331, 3) := by decide +kernel
theorem dX11_stand_39 : decode cX11_stand 39 = .ok (.ireturn, 1) := by decide +kernel
theorem dX11_stand_40 : decode cX11_stand 40 = .ok (.aload_n 0, 1) := by decide +kernel
theorem dX11_stand_41 : decode cX11_stand 41 = .ok (.getfield 29, 3) := by decide +kernel
theorem dX11_stand_44 : decode cX11_stand 44 = .ok (.aload_n 0, 1) := by decide +kernel
theorem dX11_stand_45 : decode cX11_stand 45 = .ok (.getfield 19, 3) := by decide +kernel
theorem dX11_stand_48 : decode cX11_stand 48 = .ok (.invokevirtual 338, 3) := by decide +kernel
theorem dX11_stand_51 : decode cX11_stand 51 = .ok (.aload_n 0, 1) := by decide +kernel
theorem dX11_stand_52 : decode cX11_stand 52 = .ok (.getfield 19, 3) := by decide +kernel
theorem dX11_stand_55 : decode cX11_stand 55 = .ok (.getfield 179, 3) := by decide +kernel
theorem dX11_stand_58 : decode cX11_stand 58 = .ok (.iload_n 1, 1) := by decide +kernel
theorem dX11_stand_59 : decode cX11_stand 59 = .ok (.bipush (-2), 2) := by decide +kernel
theorem dX11_stand_61 : decode cX11_stand 61 = .ok (.iastore, 1) := by decide +kernel
theorem dX11_stand_62 : decode cX11_stand 62 = .ok (.aload_n 0, 1) := by decide +kernel
theorem dX11_stand_63 : decode cX11_stand 63 = .ok (.invokevirtual 341, 3) := by decide +kernel
theorem dX11_stand_66 : decode cX11_stand 66 = .ok (.ireturn, 1) := by decide +kernel
theorem dX11_preach_0 : decode cX11_preach 0 = .ok (.aload_n 0, 1) := by decide +kernel
theorem dX11_preach_1 : decode cX11_preach 1 = .ok (.getfield 57, 3) := by decide +kernel
theorem dX11_preach_4 : decode cX11_preach 4 = .ok (.getfield 163, 3) := by decide +kernel
theorem dX11_preach_7 : decode cX11_preach 7 = .ok (.iload_n 1, 1) := by decide +kernel
theorem dX11_preach_8 : decode cX11_preach 8 = .ok (.invokevirtual 167, 3) := by decide +kernel
theorem dX11_preach_11 : decode cX11_preach 11 = .ok (.ifCond .ne 9, 3) := by decide +kernel
theorem dX11_preach_14 : decode cX11_preach 14 = .ok (.aload_n 0, 1) := by decide +kernel
theorem dX11_preach_15 : decode cX11_preach 15 = .ok (.iconst 1, 1) := by decide +kernel
theorem dX11_preach_16 : decode cX11_preach 16 = .ok (.invokevirtual 331, 3) := by decide +kernel
theorem dX11_preach_19 : decode cX11_preach 19 = .ok (.ireturn, 1) := by decide +kernel
theorem dX11_preach_20 : decode cX11_preach 20 = .ok (.iload_n 2, 1) := by decide +kernel
theorem dX11_preach_21 : decode cX11_preach 21 = .ok (.iconst (-1), 1) := by decide +kernel
theorem dX11_preach_22 : decode cX11_preach 22 = .ok (.if_icmp .lt 8, 3) := by decide +kernel
theorem dX11_preach_25 : decode cX11_preach 25 = .ok (.iload_n 2, 1) := by decide +kernel
theorem dX11_preach_26 : decode cX11_preach 26 = .ok (.iconst 1, 1) := by decide +kernel
theorem dX11_preach_27 : decode cX11_preach 27 = .ok (.if_icmp .le 9, 3) := by decide +kernel
theorem dX11_preach_30 : decode cX11_preach 30 = .ok (.aload_n 0, 1) := by decide +kernel
theorem dX11_preach_31 : decode cX11_preach 31 = .ok (.iconst 2, 1) := by decide +kernel
theorem dX11_preach_32 : decode cX11_preach 32 = .ok (.invokevirtual 331, 3) := by decide +kernel
theorem dX11_preach_35 : decode cX11_preach 35 = .ok (.ireturn, 1) := by decide +kernel
theorem dX11_preach_36 : decode cX11_preach 36 = .ok (.aload_n 0, 1) := by decide +kernel
theorem dX11_preach_37 : decode cX11_preach 37 = .ok (.getfield 19, 3) := by decide +kernel
theorem dX11_preach_40 : decode cX11_preach 40 = .ok (.getfield 186, 3) := by decide +kernel
theorem dX11_preach_43 : decode cX11_preach 43 = .ok (.iload_n 1, 1) := by decide +kernel
theorem dX11_preach_44 : decode cX11_preach 44 = .ok (.iaload, 1) := by decide +kernel
theorem dX11_preach_45 : decode cX11_preach 45 = .ok (.iload_n 2, 1) := by decide +kernel
theorem dX11_preach_46 : decode cX11_preach 46 = .ok (.if_icmp .ne 9, 3) := by decide +kernel
theorem dX11_preach_49 : decode cX11_preach 49 = .ok (.aload_n 0, 1) := by decide +kernel
theorem dX11_preach_50 : decode cX11_preach 50 = .ok (.iconst 5, 1) := by decide +kernel
theorem dX11_preach_51 : decode cX11_preach 51 = .ok (.invokevirtual 331, 3) := by decide +kernel
theorem dX11_preach_54 : decode cX11_preach 54 = .ok (.ireturn, 1) := by decide +kernel
theorem dX11_preach_55 : decode cX11_preach 55 = .ok (.aload_n 0, 1) := by decide +kernel
theorem dX11_preach_56 : decode cX11_preach 56 = .ok (.getfield 29, 3) := by decide +kernel
theorem dX11_preach_59 : decode cX11_preach 59 = .ok (.aload_n 0, 1) := by decide +kernel
theorem dX11_preach_60 : decode cX11_preach 60 = .ok (.getfield 19, 3) := by decide +kernel
theorem dX11_preach_63 : decode cX11_preach 63 = .ok (.invokevirtual 338, 3) := by decide +kernel
theorem dX11_preach_66 : decode cX11_preach 66 = .ok (.aload_n 0, 1) := by decide +kernel
theorem dX11_preach_67 : decode cX11_preach 67 = .ok (.getfield 19, 3) := by decide +kernel
theorem dX11_preach_70 : decode cX11_preach 70 = .ok (.getfield 186, 3) := by decide +kernel
theorem dX11_preach_73 : decode cX11_preach 73 = .ok (.iload_n 1, 1) := by decide +kernel
theorem dX11_preach_74 : decode cX11_preach 74 = .ok (.iload_n 2, 1) := by decide +kernel
theorem dX11_preach_75 : decode cX11_preach 75 = .ok (.iastore, 1) := by decide +kernel
theorem dX11_preach_76 : decode cX11_preach 76 = .ok (.aload_n 0, 1) := by decide +kernel
theorem dX11_preach_77 : decode cX11_preach 77 = .ok (.invokevirtual 341, 3) := by decide +kernel
theorem dX11_preach_80 : decode cX11_preach 80 = .ok (.ireturn, 1) := by decide +kernel
theorem dX11_round_0 : decode cX11_round 0 = .ok (.aload_n 0, 1) := by decide +kernel
theorem dX11_round_1 : decode cX11_round 1 = .ok (.getfield 57, 3) := by decide +kernel
theorem dX11_round_4 : decode cX11_round 4 = .ok (.getfield 196, 3) := by decide +kernel
theorem dX11_round_7 : decode cX11_round 7 = .ok (.ifCond .ne 9, 3) := by decide +kernel
theorem dX11_round_10 : decode cX11_round 10 = .ok (.aload_n 0, 1) := by decide +kernel
theorem dX11_round_11 : decode cX11_round 11 = .ok (.iconst 1, 1) := by decide +kernel
theorem dX11_round_12 : decode cX11_round 12 = .ok (.invokevirtual 75, 3) := by decide +kernel
theorem dX11_round_15 : decode cX11_round 15 = .ok (.ireturn, 1) := by decide +kernel
theorem dX11_round_16 : decode cX11_round 16 = .ok (.aload_n 0, 1) := by decide +kernel
theorem dX11_round_17 : decode cX11_round 17 = .ok (.getfield 29, 3) := by decide +kernel
theorem dX11_round_20 : decode cX11_round 20 = .ok (.aload_n 0, 1) := by decide +kernel
theorem dX11_round_21 : decode cX11_round 21 = .ok (.getfield 19, 3) := by decide +kernel
theorem dX11_round_24 : decode cX11_round 24 = .ok (.invokevirtual 338, 3) := by decide +kernel
theorem dX11_round_27 : decode cX11_round 27 = .ok (.aload_n 0, 1) := by decide +kernel
theorem dX11_round_28 : decode cX11_round 28 = .ok (.getfield 50, 3) := by decide +kernel
theorem dX11_round_31 : decode cX11_round 31 = .ok (.aload_n 0, 1) := by decide +kernel
theorem dX11_round_32 : decode cX11_round 32 = .ok (.getfield 19, 3) := by decide +kernel
theorem dX11_round_35 : decode cX11_round 35 = .ok (.invokevirtual 280, 3) := by decide +kernel
theorem dX11_round_38 : decode cX11_round 38 = .ok (.aload_n 0, 1) := by decide +kernel
theorem dX11_round_39 : decode cX11_round 39 = .ok (.getfield 50, 3) := by decide +kernel
theorem dX11_round_42 : decode cX11_round 42 = .ok (.aload_n 0, 1) := by decide +kernel
theorem dX11_round_43 : decode cX11_round 43 = .ok (.getfield 57, 3) := by decide +kernel
theorem dX11_round_46 : decode cX11_round 46 = .ok (.getfield 163, 3) := by decide +kernel
theorem dX11_round_49 : decode cX11_round 49 = .ok (.invokevirtual 345, 3) := by decide +kernel
theorem dX11_round_52 : decode cX11_round 52 = .ok (.istore_n 1, 1) := by decide +kernel
theorem dX11_round_53 : decode cX11_round 53 = .ok (.aload_n 0, 1) := by decide +kernel
theorem dX11_round_54 : decode cX11_round 54 = .ok (.getfield 50, 3) := by decide +kernel
theorem dX11_round_57 : decode cX11_round 57 = .ok (.aload_n 0, 1) := by decide +kernel
theorem dX11_round_58 : decode cX11_round 58 = .ok (.getfield 19, 3) := by decide +kernel
theorem dX11_round_61 : decode cX11_round 61 = .ok (.invokevirtual 348, 3) := by decide +kernel
theorem dX11_round_64 : decode cX11_round 64 = .ok (.aload_n 0, 1) := by decide +kernel
theorem dX11_round_65 : decode cX11_round 65 = .ok (.iload_n 1, 1) := by decide +kernel
theorem dX11_round_66 : decode cX11_round 66 = .ok (.invokevirtual 124, 3) := by decide +kernel
theorem dX11_round_69 : decode cX11_round 69 = .ok (.ireturn, 1) := by decide +kernel
theorem dX11_day_0 : decode cX11_day 0 = .ok (.aload_n 0, 1) := by decide +kernel
theorem dX11_day_1 : decode cX11_day 1 = .ok (.getfield 57, 3) := by decide +kernel
theorem dX11_day_4 : decode cX11_day 4 = .ok (.getfield 196, 3) := by decide +kernel
theorem dX11_day_7 : decode cX11_day 7 = .ok (.ifCond .ne 9, 3) := by decide +kernel
theorem dX11_day_10 : decode cX11_day 10 = .ok (.aload_n 0, 1) := by decide +kernel
theorem dX11_day_11 : decode cX11_day 11 = .ok (.iconst 1, 1) := by decide +kernel
theorem dX11_day_12 : decode cX11_day 12 = .ok (.invokevirtual 75, 3) := by decide +kernel
theorem dX11_day_15 : decode cX11_day 15 = .ok (.ireturn, 1) := by decide +kernel
theorem dX11_day_16 : decode cX11_day 16 = .ok (.aload_n 0, 1) := by decide +kernel
theorem dX11_day_17 : decode cX11_day 17 = .ok (.getfield 19, 3) := by decide +kernel
theorem dX11_day_20 : decode cX11_day 20 = .ok (.getfield 351, 3) := by decide +kernel
theorem dX11_day_23 : decode cX11_day 23 = .ok (.bipush 99, 2) := by decide +kernel
theorem dX11_day_25 : decode cX11_day 25 = .ok (.if_icmp .lt 9, 3) := by decide +kernel
theorem dX11_day_28 : decode cX11_day 28 = .ok (.aload_n 0, 1) := by decide +kernel
theorem dX11_day_29 : decode cX11_day 29 = .ok (.iconst 3, 1) := by decide +kernel
theorem dX11_day_30 : decode cX11_day 30 = .ok (.invokevirtual 75, 3) := by decide +kernel
theorem dX11_day_33 : decode cX11_day 33 = .ok (.ireturn, 1) := by decide +kernel
theorem dX11_day_34 : decode cX11_day 34 = .ok (.aload_n 0, 1) := by decide +kernel
theorem dX11_day_35 : decode cX11_day 35 = .ok (.getfield 29, 3) := by decide +kernel
theorem dX11_day_38 : decode cX11_day 38 = .ok (.aload_n 0, 1) := by decide +kernel
theorem dX11_day_39 : decode cX11_day 39 = .ok (.getfield 19, 3) := by decide +kernel
theorem dX11_day_42 : decode cX11_day 42 = .ok (.invokevirtual 338, 3) := by decide +kernel
theorem dX11_day_45 : decode cX11_day 45 = .ok (.aload_n 0, 1) := by decide +kernel
theorem dX11_day_46 : decode cX11_day 46 = .ok (.getfield 57, 3) := by decide +kernel
theorem dX11_day_49 : decode cX11_day 49 = .ok (.getfield 163, 3) := by decide +kernel
theorem dX11_day_52 : decode cX11_day 52 = .ok (.aload_n 0, 1) := by decide +kernel
theorem dX11_day_53 : decode cX11_day 53 = .ok (.getfield 19, 3) := by decide +kernel
theorem dX11_day_56 : decode cX11_day 56 = .ok (.getfield 250, 3) := by decide +kernel
theorem dX11_day_59 : decode cX11_day 59 = .ok (.invokevirtual 354, 3) := by decide +kernel
theorem dX11_day_62 : decode cX11_day 62 = .ok (.istore_n 1, 1) := by decide +kernel
theorem dX11_day_63 : decode cX11_day 63 = .ok (.aload_n 0, 1) := by decide +kernel
theorem dX11_day_64 : decode cX11_day 64 = .ok (.getfield 19, 3) := by decide +kernel
theorem dX11_day_67 : decode cX11_day 67 = .ok (.dup, 1) := by decide +kernel
theorem dX11_day_68 : decode cX11_day 68 = .ok (.getfield 250, 3) := by decide +kernel
theorem dX11_day_71 : decode cX11_day 71 = .ok (.iload_n 1, 1) := by decide +kernel
theorem dX11_day_72 : decode cX11_day 72 = .ok (.invokestatic 326, 3) := by decide +kernel
theorem dX11_day_75 : decode cX11_day 75 = .ok (.isub, 1) := by decide +kernel
theorem dX11_day_76 : decode cX11_day 76 = .ok (.putfield 250, 3) := by decide +kernel
theorem dX11_day_79 : decode cX11_day 79 = .ok (.aload_n 0, 1) := by decide +kernel
theorem dX11_day_80 : decode cX11_day 80 = .ok (.getfield 19, 3) := by decide +kernel
theorem dX11_day_83 : decode cX11_day 83 = .ok (.dup, 1) := by decide +kernel
theorem dX11_day_84 : decode cX11_day 84 = .ok (.getfield 351, 3) := by decide +kernel
theorem dX11_day_87 : decode cX11_day 87 = .ok (.iconst 1, 1) := by decide +kernel
theorem dX11_day_88 : decode cX11_day 88 = .ok (.iadd, 1) := by decide +kernel
theorem dX11_day_89 : decode cX11_day 89 = .ok (.putfield 351, 3) := by decide +kernel
theorem dX11_day_92 : decode cX11_day 92 = .ok (.aload_n 0, 1) := by decide +kernel
theorem dX11_day_93 : decode cX11_day 93 = .ok (.iload_n 1, 1) := by decide +kernel
theorem dX11_day_94 : decode cX11_day 94 = .ok (.invokevirtual 124, 3) := by decide +kernel
theorem dX11_day_97 : decode cX11_day 97 = .ok (.ireturn, 1) := by decide +kernel
theorem dX11_undo_0 : decode cX11_undo 0 = .ok (.aload_n 0, 1) := by decide +kernel
theorem dX11_undo_1 : decode cX11_undo 1 = .ok (.getfield 29, 3) := by decide +kernel
theorem dX11_undo_4 : decode cX11_undo 4 = .ok (.getfield 357, 3) := by decide +kernel
theorem dX11_undo_7 : decode cX11_undo 7 = .ok (.ifCond .ne 10, 3) := by decide +kernel
theorem dX11_undo_10 : decode cX11_undo 10 = .ok (.aload_n 0, 1) := by decide +kernel
theorem dX11_undo_11 : decode cX11_undo 11 = .ok (.bipush 6, 2) := by decide +kernel
theorem dX11_undo_13 : decode cX11_undo 13 = .ok (.invokevirtual 331, 3) := by decide +kernel
theorem dX11_undo_16 : decode cX11_undo 16 = .ok (.ireturn, 1) := by decide +kernel
theorem dX11_undo_17 : decode cX11_undo 17 = .ok (.aload_n 0, 1) := by decide +kernel
theorem dX11_undo_18 : decode cX11_undo 18 = .ok (.getfield 29, 3) := by decide +kernel
theorem dX11_undo_21 : decode cX11_undo 21 = .ok (.aload_n 0, 1) := by decide +kernel
theorem dX11_undo_22 : decode cX11_undo 22 = .ok (.getfield 19, 3) := by decide +kernel
theorem dX11_undo_25 : decode cX11_undo 25 = .ok (.invokevirtual 360, 3) := by decide +kernel
theorem dX11_undo_28 : decode cX11_undo 28 = .ok (.aload_n 0, 1) := by decide +kernel
theorem dX11_undo_29 : decode cX11_undo 29 = .ok (.invokevirtual 341, 3) := by decide +kernel
theorem dX11_undo_32 : decode cX11_undo 32 = .ok (.ireturn, 1) := by decide +kernel
theorem dX11_image_0 : decode cX11_image 0 = .ok (.aload_n 0, 1) := by decide +kernel
theorem dX11_image_1 : decode cX11_image 1 = .ok (.getfield 57, 3) := by decide +kernel
theorem dX11_image_4 : decode cX11_image 4 = .ok (.getfield 196, 3) := by decide +kernel
theorem dX11_image_7 : decode cX11_image 7 = .ok (.ifCond .ne 9, 3) := by decide +kernel
theorem dX11_image_10 : decode cX11_image 10 = .ok (.aload_n 0, 1) := by decide +kernel
theorem dX11_image_11 : decode cX11_image 11 = .ok (.iconst 1, 1) := by decide +kernel
theorem dX11_image_12 : decode cX11_image 12 = .ok (.invokevirtual 75, 3) := by decide +kernel
theorem dX11_image_15 : decode cX11_image 15 = .ok (.ireturn, 1) := by decide +kernel
theorem dX11_image_16 : decode cX11_image 16 = .ok (.aload_n 0, 1) := by decide +kernel
theorem dX11_image_17 : decode cX11_image 17 = .ok (.getfield 29, 3) := by decide +kernel
theorem dX11_image_20 : decode cX11_image 20 = .ok (.getfield 363, 3) := by decide +kernel
theorem dX11_image_23 : decode cX11_image 23 = .ok (.iconst 3, 1) := by decide +kernel
theorem dX11_image_24 : decode cX11_image 24 = .ok (.if_icmp .lt 9, 3) := by decide +kernel
theorem dX11_image_27 : decode cX11_image 27 = .ok (.aload_n 0, 1) := by decide +kernel
theorem dX11_image_28 : decode cX11_image 28 = .ok (.iconst 3, 1) := by decide +kernel
theorem dX11_image_29 : decode cX11_image 29 = .ok (.invokevirtual 75, 3) := by decide +kernel
theorem dX11_image_32 : decode cX11_image 32 = .ok (.ireturn, 1) := by decide +kernel
theorem dX11_image_33 : decode cX11_image 33 = .ok (.aload_n 0, 1) := by decide +kernel
theorem dX11_image_34 : decode cX11_image 34 = .ok (.aload_n 0, 1) := by decide +kernel
theorem dX11_image_35 : decode cX11_image 35 = .ok (.getfield 29, 3) := by decide +kernel
theorem dX11_image_38 : decode cX11_image 38 = .ok (.aload_n 0, 1) := by decide +kernel
theorem dX11_image_39 : decode cX11_image 39 = .ok (.getfield 19, 3) := by decide +kernel
theorem dX11_image_42 : decode cX11_image 42 = .ok (.invokevirtual 366, 3) := by decide +kernel
theorem dX11_image_45 : decode cX11_image 45 = .ok (.invokevirtual 124, 3) := by decide +kernel
theorem dX11_image_48 : decode cX11_image 48 = .ok (.ireturn, 1) := by decide +kernel
theorem dX11_back_0 : decode cX11_back 0 = .ok (.iload_n 1, 1) := by decide +kernel
theorem dX11_back_1 : decode cX11_back 1 = .ok (.ifCond .lt 14, 3) := by decide +kernel
theorem dX11_back_4 : decode cX11_back 4 = .ok (.iload_n 1, 1) := by decide +kernel
theorem dX11_back_5 : decode cX11_back 5 = .ok (.aload_n 0, 1) := by decide +kernel
theorem dX11_back_6 : decode cX11_back 6 = .ok (.getfield 29, 3) := by decide +kernel
theorem dX11_back_9 : decode cX11_back 9 = .ok (.getfield 363, 3) := by decide +kernel
theorem dX11_back_12 : decode cX11_back 12 = .ok (.if_icmp .lt 9, 3) := by decide +kernel
theorem dX11_back_15 : decode cX11_back 15 = .ok (.aload_n 0, 1) := by decide +kernel
theorem dX11_back_16 : decode cX11_back 16 = .ok (.iconst 1, 1) := by decide +kernel
theorem dX11_back_17 : decode cX11_back 17 = .ok (.invokevirtual 331, 3) := by decide +kernel
theorem dX11_back_20 : decode cX11_back 20 = .ok (.ireturn, 1) := by decide +kernel
theorem dX11_back_21 : decode cX11_back 21 = .ok (.aload_n 0, 1) := by decide +kernel
theorem dX11_back_22 : decode cX11_back 22 = .ok (.getfield 29, 3) := by decide +kernel
theorem dX11_back_25 : decode cX11_back 25 = .ok (.iload_n 1, 1) := by decide +kernel
theorem dX11_back_26 : decode cX11_back 26 = .ok (.aload_n 0, 1) := by decide +kernel
theorem dX11_back_27 : decode cX11_back 27 = .ok (.getfield 19, 3) := by decide +kernel
theorem dX11_back_30 : decode cX11_back 30 = .ok (.invokevirtual 369, 3) := by decide +kernel
theorem dX11_back_33 : decode cX11_back 33 = .ok (.aload_n 0, 1) := by decide +kernel
theorem dX11_back_34 : decode cX11_back 34 = .ok (.invokevirtual 341, 3) := by decide +kernel
theorem dX11_back_37 : decode cX11_back 37 = .ok (.ireturn, 1) := by decide +kernel
theorem dX11_led_0 : decode cX11_led 0 = .ok (.iconst 0, 1) := by decide +kernel
theorem dX11_led_1 : decode cX11_led 1 = .ok (.istore_n 2, 1) := by decide +kernel
theorem dX11_led_2 : decode cX11_led 2 = .ok (.iconst 0, 1) := by decide +kernel
theorem dX11_led_3 : decode cX11_led 3 = .ok (.istore_n 3, 1) := by decide +kernel
theorem dX11_led_4 : decode cX11_led 4 = .ok (.iload_n 3, 1) := by decide +kernel
theorem dX11_led_5 : decode cX11_led 5 = .ok (.aload_n 0, 1) := by decide +kernel
theorem dX11_led_6 : decode cX11_led 6 = .ok (.getfield 57, 3) := by decide +kernel
theorem dX11_led_9 : decode cX11_led 9 = .ok (.getfield 163, 3) := by decide +kernel
theorem dX11_led_12 : decode cX11_led 12 = .ok (.getfield 249, 3) := by decide +kernel
theorem dX11_led_15 : decode cX11_led 15 = .ok (.if_icmp .ge 33, 3) := by decide +kernel
theorem dX11_led_18 : decode cX11_led 18 = .ok (.aload_n 0, 1) := by decide +kernel
theorem dX11_led_19 : decode cX11_led 19 = .ok (.getfield 19, 3) := by decide +kernel
theorem dX11_led_22 : decode cX11_led 22 = .ok (.getfield 179, 3) := by decide +kernel
theorem dX11_led_25 : decode cX11_led 25 = .ok (.iload_n 3, 1) := by decide +kernel
theorem dX11_led_26 : decode cX11_led 26 = .ok (.iaload, 1) := by decide +kernel
theorem dX11_led_27 : decode cX11_led 27 = .ok (.bipush (-2), 2) := by decide +kernel
theorem dX11_led_29 : decode cX11_led 29 = .ok (.if_icmp .ne 13, 3) := by decide +kernel
theorem dX11_led_32 : decode cX11_led 32 = .ok (.iload_n 2, 1) := by decide +kernel
theorem dX11_led_33 : decode cX11_led 33 = .ok (.iload_n 1, 1) := by decide +kernel
theorem dX11_led_34 : decode cX11_led 34 = .ok (.if_icmp .ne 5, 3) := by decide +kernel
theorem dX11_led_37 : decode cX11_led 37 = .ok (.iload_n 3, 1) := by decide +kernel
theorem dX11_led_38 : decode cX11_led 38 = .ok (.ireturn, 1) := by decide +kernel
theorem dX11_led_39 : decode cX11_led 39 = .ok (.iinc 2 1, 3) := by decide +kernel
theorem dX11_led_42 : decode cX11_led 42 = .ok (.iinc 3 1, 3) := by decide +kernel
theorem dX11_led_45 : decode cX11_led 45 = .ok (.goto (-41), 3) := by decide +kernel
theorem dX11_led_48 : decode cX11_led 48 = .ok (.new 373, 3) := by decide +kernel
theorem dX11_led_51 : decode cX11_led 51 = .ok (.dup, 1) := by decide +kernel
theorem dX11_led_52 : decode cX11_led 52 = .ok (.invokespecial 375, 3) := by decide +kernel
theorem dX11_led_55 : decode cX11_led 55 = .ok (.athrow, 1) := by decide +kernel
theorem dX11_size_0 : decode cX11_size 0 = .ok (.iload_n 1, 1) := by decide +kernel
theorem dX11_size_1 : decode cX11_size 1 = .ok (.tableswitch 213 0 13 #[71, 82, 93, 104, 115, 126, 137, 148, 159, 170, 178, 186, 194, 202], 71) := by decide +kernel
theorem dX11_size_72 : decode cX11_size 72 = .ok (.aload_n 0, 1) := by decide +kernel
theorem dX11_size_73 : decode cX11_size 73 = .ok (.getfield 57, 3) := by decide +kernel
theorem dX11_size_76 : decode cX11_size 76 = .ok (.getfield 115, 3) := by decide +kernel
theorem dX11_size_79 : decode cX11_size 79 = .ok (.getfield 376, 3) := by decide +kernel
theorem dX11_size_82 : decode cX11_size 82 = .ok (.ireturn, 1) := by decide +kernel
theorem dX11_size_83 : decode cX11_size 83 = .ok (.aload_n 0, 1) := by decide +kernel
theorem dX11_size_84 : decode cX11_size 84 = .ok (.getfield 57, 3) := by decide +kernel
theorem dX11_size_87 : decode cX11_size 87 = .ok (.getfield 115, 3) := by decide +kernel
theorem dX11_size_90 : decode cX11_size 90 = .ok (.getfield 379, 3) := by decide +kernel
theorem dX11_size_93 : decode cX11_size 93 = .ok (.ireturn, 1) := by decide +kernel
theorem dX11_size_94 : decode cX11_size 94 = .ok (.aload_n 0, 1) := by decide +kernel
theorem dX11_size_95 : decode cX11_size 95 = .ok (.getfield 57, 3) := by decide +kernel
theorem dX11_size_98 : decode cX11_size 98 = .ok (.getfield 115, 3) := by decide +kernel
theorem dX11_size_101 : decode cX11_size 101 = .ok (.getfield 149, 3) := by decide +kernel
theorem dX11_size_104 : decode cX11_size 104 = .ok (.ireturn, 1) := by decide +kernel
theorem dX11_size_105 : decode cX11_size 105 = .ok (.aload_n 0, 1) := by decide +kernel
theorem dX11_size_106 : decode cX11_size 106 = .ok (.getfield 57, 3) := by decide +kernel
theorem dX11_size_109 : decode cX11_size 109 = .ok (.getfield 115, 3) := by decide +kernel
theorem dX11_size_112 : decode cX11_size 112 = .ok (.getfield 119, 3) := by decide +kernel
theorem dX11_size_115 : decode cX11_size 115 = .ok (.ireturn, 1) := by decide +kernel
theorem dX11_size_116 : decode cX11_size 116 = .ok (.aload_n 0, 1) := by decide +kernel
theorem dX11_size_117 : decode cX11_size 117 = .ok (.getfield 57, 3) := by decide +kernel
theorem dX11_size_120 : decode cX11_size 120 = .ok (.getfield 163, 3) := by decide +kernel
theorem dX11_size_123 : decode cX11_size 123 = .ok (.getfield 249, 3) := by decide +kernel
theorem dX11_size_126 : decode cX11_size 126 = .ok (.ireturn, 1) := by decide +kernel
theorem dX11_size_127 : decode cX11_size 127 = .ok (.aload_n 0, 1) := by decide +kernel
theorem dX11_size_128 : decode cX11_size 128 = .ok (.getfield 57, 3) := by decide +kernel
theorem dX11_size_131 : decode cX11_size 131 = .ok (.getfield 163, 3) := by decide +kernel
theorem dX11_size_134 : decode cX11_size 134 = .ok (.getfield 382, 3) := by decide +kernel
theorem dX11_size_137 : decode cX11_size 137 = .ok (.ireturn, 1) := by decide +kernel
theorem dX11_size_138 : decode cX11_size 138 = .ok (.aload_n 0, 1) := by decide +kernel
theorem dX11_size_139 : decode cX11_size 139 = .ok (.getfield 57, 3) := by decide +kernel
theorem dX11_size_142 : decode cX11_size 142 = .ok (.getfield 163, 3) := by decide +kernel
theorem dX11_size_145 : decode cX11_size 145 = .ok (.getfield 385, 3) := by decide +kernel
theorem dX11_size_148 : decode cX11_size 148 = .ok (.ireturn, 1) := by decide +kernel
theorem dX11_size_149 : decode cX11_size 149 = .ok (.aload_n 0, 1) := by decide +kernel
theorem dX11_size_150 : decode cX11_size 150 = .ok (.getfield 57, 3) := by decide +kernel
theorem dX11_size_153 : decode cX11_size 153 = .ok (.getfield 96, 3) := by decide +kernel
theorem dX11_size_156 : decode cX11_size 156 = .ok (.getfield 388, 3) := by decide +kernel
theorem dX11_size_159 : decode cX11_size 159 = .ok (.ireturn, 1) := by decide +kernel
theorem dX11_size_160 : decode cX11_size 160 = .ok (.aload_n 0, 1) := by decide +kernel
theorem dX11_size_161 : decode cX11_size 161 = .ok (.getfield 57, 3) := by decide +kernel
theorem dX11_size_164 : decode cX11_size 164 = .ok (.getfield 96, 3) := by decide +kernel
theorem dX11_size_167 : decode cX11_size 167 = .ok (.invokevirtual 391, 3) := by decide +kernel
theorem dX11_size_170 : decode cX11_size 170 = .ok (.ireturn, 1) := by decide +kernel
theorem dX11_size_171 : decode cX11_size 171 = .ok (.aload_n 0, 1) := by decide +kernel
theorem dX11_size_172 : decode cX11_size 172 = .ok (.getfield 19, 3) := by decide +kernel
theorem dX11_size_175 : decode cX11_size 175 = .ok (.getfield 250, 3) := by decide +kernel
theorem dX11_size_178 : decode cX11_size 178 = .ok (.ireturn, 1) := by decide +kernel
theorem dX11_size_179 : decode cX11_size 179 = .ok (.aload_n 0, 1) := by decide +kernel
theorem dX11_size_180 : decode cX11_size 180 = .ok (.getfield 19, 3) := by decide +kernel
theorem dX11_size_183 : decode cX11_size 183 = .ok (.getfield 351, 3) := by decide +kernel
theorem dX11_size_186 : decode cX11_size 186 = .ok (.ireturn, 1) := by decide +kernel
theorem dX11_size_187 : decode cX11_size 187 = .ok (.aload_n 0, 1) := by decide +kernel
theorem dX11_size_188 : decode cX11_size 188 = .ok (.getfield 29, 3) := by decide +kernel
theorem dX11_size_191 : decode cX11_size 191 = .ok (.getfield 357, 3) := by decide +kernel
theorem dX11_size_194 : decode cX11_size 194 = .ok (.ireturn, 1) := by decide +kernel
theorem dX11_size_195 : decode cX11_size 195 = .ok (.aload_n 0, 1) := by decide +kernel
theorem dX11_size_196 : decode cX11_size 196 = .ok (.getfield 29, 3) := by decide +kernel
theorem dX11_size_199 : decode cX11_size 199 = .ok (.getfield 363, 3) := by decide +kernel
theorem dX11_size_202 : decode cX11_size 202 = .ok (.ireturn, 1) := by decide +kernel
theorem dX11_size_203 : decode cX11_size 203 = .ok (.aload_n 0, 1) := by decide +kernel
theorem dX11_size_204 : decode cX11_size 204 = .ok (.getfield 10, 3) := by decide +kernel
theorem dX11_size_207 : decode cX11_size 207 = .ok (.getfield 61, 3) := by decide +kernel
theorem dX11_size_210 : decode cX11_size 210 = .ok (.getfield 65, 3) := by decide +kernel
theorem dX11_size_213 : decode cX11_size 213 = .ok (.ireturn, 1) := by decide +kernel
theorem dX11_size_214 : decode cX11_size 214 = .ok (.iconst (-1), 1) := by decide +kernel
theorem dX11_size_215 : decode cX11_size 215 = .ok (.ireturn, 1) := by decide +kernel
theorem dX11_trouble_0 : decode cX11_trouble 0 = .ok (.aload_n 0, 1) := by decide +kernel
theorem dX11_trouble_1 : decode cX11_trouble 1 = .ok (.getfield 127, 3) := by decide +kernel
theorem dX11_trouble_4 : decode cX11_trouble 4 = .ok (.ireturn, 1) := by decide +kernel
theorem dX11_answered_0 : decode cX11_answered 0 = .ok (.aload_n 0, 1) := by decide +kernel
theorem dX11_answered_1 : decode cX11_answered 1 = .ok (.iconst 0, 1) := by decide +kernel
theorem dX11_answered_2 : decode cX11_answered 2 = .ok (.putfield 127, 3) := by decide +kernel
theorem dX11_answered_5 : decode cX11_answered 5 = .ok (.iload_n 1, 1) := by decide +kernel
theorem dX11_answered_6 : decode cX11_answered 6 = .ok (.ireturn, 1) := by decide +kernel
theorem dX11_refused_0 : decode cX11_refused 0 = .ok (.aload_n 0, 1) := by decide +kernel
theorem dX11_refused_1 : decode cX11_refused 1 = .ok (.iload_n 1, 1) := by decide +kernel
theorem dX11_refused_2 : decode cX11_refused 2 = .ok (.iconst (-1), 1) := by decide +kernel
theorem dX11_refused_3 : decode cX11_refused 3 = .ok (.invokevirtual 170, 3) := by decide +kernel
theorem dX11_refused_6 : decode cX11_refused 6 = .ok (.ireturn, 1) := by decide +kernel
theorem dX11_refusedWith_0 : decode cX11_refusedWith 0 = .ok (.aload_n 0, 1) := by decide +kernel
theorem dX11_refusedWith_1 : decode cX11_refusedWith 1 = .ok (.iload_n 1, 1) := by decide +kernel
theorem dX11_refusedWith_2 : decode cX11_refusedWith 2 = .ok (.putfield 127, 3) := by decide +kernel
theorem dX11_refusedWith_5 : decode cX11_refusedWith 5 = .ok (.iload_n 2, 1) := by decide +kernel
theorem dX11_refusedWith_6 : decode cX11_refusedWith 6 = .ok (.ireturn, 1) := by decide +kernel
theorem dX11_done_0 : decode cX11_done 0 = .ok (.aload_n 0, 1) := by decide +kernel
theorem dX11_done_1 : decode cX11_done 1 = .ok (.iconst 0, 1) := by decide +kernel
theorem dX11_done_2 : decode cX11_done 2 = .ok (.putfield 127, 3) := by decide +kernel
theorem dX11_done_5 : decode cX11_done 5 = .ok (.iconst 1, 1) := by decide +kernel
theorem dX11_done_6 : decode cX11_done 6 = .ok (.ireturn, 1) := by decide +kernel
theorem dX11_notDone_0 : decode cX11_notDone 0 = .ok (.aload_n 0, 1) := by decide +kernel
theorem dX11_notDone_1 : decode cX11_notDone 1 = .ok (.iload_n 1, 1) := by decide +kernel
theorem dX11_notDone_2 : decode cX11_notDone 2 = .ok (.putfield 127, 3) := by decide +kernel
theorem dX11_notDone_5 : decode cX11_notDone 5 = .ok (.iconst 0, 1) := by decide +kernel
theorem dX11_notDone_6 : decode cX11_notDone 6 = .ok (.ireturn, 1) := by decide +kernel
theorem dX11_leftBehind_0 : decode cX11_leftBehind 0 = .ok (.iconst 0, 1) := by decide +kernel
theorem dX11_leftBehind_1 : decode cX11_leftBehind 1 = .ok (.aload_n 0, 1) := by decide +kernel
theorem dX11_leftBehind_2 : decode cX11_leftBehind 2 = .ok (.getfield 19, 3) := by decide +kernel
theorem dX11_leftBehind_5 : decode cX11_leftBehind 5 = .ok (.getfield 250, 3) := by decide +kernel
theorem dX11_leftBehind_8 : decode cX11_leftBehind 8 = .ok (.iload_n 1, 1) := by decide +kernel
theorem dX11_leftBehind_9 : decode cX11_leftBehind 9 = .ok (.aload_n 0, 1) := by decide +kernel
theorem dX11_leftBehind_10 : decode cX11_leftBehind 10 = .ok (.getfield 57, 3) := by decide +kernel
theorem dX11_leftBehind_13 : decode cX11_leftBehind 13 = .ok (.getfield 163, 3) := by decide +kernel
theorem dX11_leftBehind_16 : decode cX11_leftBehind 16 = .ok (.getfield 249, 3) := by decide +kernel
theorem dX11_leftBehind_19 : decode cX11_leftBehind 19 = .ok (.imul, 1) := by decide +kernel
theorem dX11_leftBehind_20 : decode cX11_leftBehind 20 = .ok (.isub, 1) := by decide +kernel
theorem dX11_leftBehind_21 : decode cX11_leftBehind 21 = .ok (.invokestatic 394, 3) := by decide +kernel
theorem dX11_leftBehind_24 : decode cX11_leftBehind 24 = .ok (.ireturn, 1) := by decide +kernel
theorem dX11_liveYears_0 : decode cX11_liveYears 0 = .ok (.aload_n 0, 1) := by decide +kernel
theorem dX11_liveYears_1 : decode cX11_liveYears 1 = .ok (.getfield 23, 3) := by decide +kernel
theorem dX11_liveYears_4 : decode cX11_liveYears 4 = .ok (.aload_n 0, 1) := by decide +kernel
theorem dX11_liveYears_5 : decode cX11_liveYears 5 = .ok (.getfield 19, 3) := by decide +kernel
theorem dX11_liveYears_8 : decode cX11_liveYears 8 = .ok (.invokevirtual 108, 3) := by decide +kernel
theorem dX11_liveYears_11 : decode cX11_liveYears 11 = .ok (.iload_n 2, 1) := by decide +kernel
theorem dX11_liveYears_12 : decode cX11_liveYears 12 = .ok (.istore 4, 2) := by decide +kernel
theorem dX11_liveYears_14 : decode cX11_liveYears 14 = .ok (.iconst 0, 1) := by decide +kernel
theorem dX11_liveYears_15 : decode cX11_liveYears 15 = .ok (.istore 5, 2) := by decide +kernel
theorem dX11_liveYears_17 : decode cX11_liveYears 17 = .ok (.iconst 0, 1) := by decide +kernel
theorem dX11_liveYears_18 : decode cX11_liveYears 18 = .ok (.istore 6, 2) := by decide +kernel
theorem dX11_liveYears_20 : decode cX11_liveYears 20 = .ok (.iload 6, 2) := by decide +kernel
theorem dX11_liveYears_22 : decode cX11_liveYears 22 = .ok (.iload_n 3, 1) := by decide +kernel
theorem dX11_liveYears_23 : decode cX11_liveYears 23 = .ok (.if_icmp .ge 66, 3) := by decide +kernel
theorem dX11_liveYears_26 : decode cX11_liveYears 26 = .ok (.iload 4, 2) := by decide +kernel
theorem dX11_liveYears_28 : decode cX11_liveYears 28 = .ok (.invokestatic 399, 3) := by decide +kernel
theorem dX11_liveYears_31 : decode cX11_liveYears 31 = .ok (.istore 7, 2) := by decide +kernel
theorem dX11_liveYears_33 : decode cX11_liveYears 33 = .ok (.iload 7, 2) := by decide +kernel
theorem dX11_liveYears_35 : decode cX11_liveYears 35 = .ok (.invokestatic 399, 3) := by decide +kernel
theorem dX11_liveYears_38 : decode cX11_liveYears 38 = .ok (.istore 4, 2) := by decide +kernel
theorem dX11_liveYears_40 : decode cX11_liveYears 40 = .ok (.aload_n 0, 1) := by decide +kernel
theorem dX11_liveYears_41 : decode cX11_liveYears 41 = .ok (.getfield 57, 3) := by decide +kernel
theorem dX11_liveYears_44 : decode cX11_liveYears 44 = .ok (.aload_n 0, 1) := by decide +kernel
theorem dX11_liveYears_45 : decode cX11_liveYears 45 = .ok (.getfield 23, 3) := by decide +kernel
theorem dX11_liveYears_48 : decode cX11_liveYears 48 = .ok (.iload 7, 2) := by decide +kernel
theorem dX11_liveYears_50 : decode cX11_liveYears 50 = .ok (.iload 4, 2) := by decide +kernel
theorem dX11_liveYears_52 : decode cX11_liveYears 52 = .ok (.invokevirtual 402, 3) := by decide +kernel
theorem dX11_liveYears_55 : decode cX11_liveYears 55 = .ok (.aload_n 0, 1) := by decide +kernel
theorem dX11_liveYears_56 : decode cX11_liveYears 56 = .ok (.getfield 57, 3) := by decide +kernel
theorem dX11_liveYears_59 : decode cX11_liveYears 59 = .ok (.aload_n 0, 1) := by decide +kernel
theorem dX11_liveYears_60 : decode cX11_liveYears 60 = .ok (.getfield 23, 3) := by decide +kernel
theorem dX11_liveYears_63 : decode cX11_liveYears 63 = .ok (.iload_n 1, 1) := by decide +kernel
theorem dX11_liveYears_64 : decode cX11_liveYears 64 = .ok (.aload_n 0, 1) := by decide +kernel
theorem dX11_liveYears_65 : decode cX11_liveYears 65 = .ok (.getfield 57, 3) := by decide +kernel
theorem dX11_liveYears_68 : decode cX11_liveYears 68 = .ok (.getfield 115, 3) := by decide +kernel
theorem dX11_liveYears_71 : decode cX11_liveYears 71 = .ok (.getfield 149, 3) := by decide +kernel
theorem dX11_liveYears_74 : decode cX11_liveYears 74 = .ok (.invokevirtual 182, 3) := by decide +kernel
theorem dX11_liveYears_77 : decode cX11_liveYears 77 = .ok (.ifCond .eq 6, 3) := by decide +kernel
theorem dX11_liveYears_80 : decode cX11_liveYears 80 = .ok (.iinc 5 1, 3) := by decide +kernel
theorem dX11_liveYears_83 : decode cX11_liveYears 83 = .ok (.iinc 6 1, 3) := by decide +kernel
theorem dX11_liveYears_86 : decode cX11_liveYears 86 = .ok (.goto (-66), 3) := by decide +kernel
theorem dX11_liveYears_89 : decode cX11_liveYears 89 = .ok (.iload 5, 2) := by decide +kernel
theorem dX11_liveYears_91 : decode cX11_liveYears 91 = .ok (.ireturn, 1) := by decide +kernel
theorem dX11_nextDraw_0 : decode cX11_nextDraw 0 = .ok (.bipush 75, 2) := by decide +kernel
theorem dX11_nextDraw_2 : decode cX11_nextDraw 2 = .ok (.iload_n 0, 1) := by decide +kernel
theorem dX11_nextDraw_3 : decode cX11_nextDraw 3 = .ok (.imul, 1) := by decide +kernel
theorem dX11_nextDraw_4 : decode cX11_nextDraw 4 = .ok (.bipush 74, 2) := by decide +kernel
theorem dX11_nextDraw_6 : decode cX11_nextDraw 6 = .ok (.iadd, 1) := by decide +kernel
theorem dX11_nextDraw_7 : decode cX11_nextDraw 7 = .ok (.ldc_w 406, 3) := by decide +kernel
theorem dX11_nextDraw_10 : decode cX11_nextDraw 10 = .ok (.irem, 1) := by decide +kernel
theorem dX11_nextDraw_11 : decode cX11_nextDraw 11 = .ok (.ireturn, 1) := by decide +kernel
theorem dX11_areYears_0 : decode cX11_areYears 0 = .ok (.iload_n 0, 1) := by decide +kernel
theorem dX11_areYears_1 : decode cX11_areYears 1 = .ok (.ifCond .lt 24, 3) := by decide +kernel
theorem dX11_areYears_4 : decode cX11_areYears 4 = .ok (.iload_n 0, 1) := by decide +kernel
theorem dX11_areYears_5 : decode cX11_areYears 5 = .ok (.ldc_w 406, 3) := by decide +kernel
theorem dX11_areYears_8 : decode cX11_areYears 8 = .ok (.if_icmp .ge 17, 3) := by decide +kernel
theorem dX11_areYears_11 : decode cX11_areYears 11 = .ok (.iload_n 1, 1) := by decide +kernel
theorem dX11_areYears_12 : decode cX11_areYears 12 = .ok (.ifCond .lt 13, 3) := by decide +kernel
theorem dX11_areYears_15 : decode cX11_areYears 15 = .ok (.iload_n 1, 1) := by decide +kernel
theorem dX11_areYears_16 : decode cX11_areYears 16 = .ok (.bipush 90, 2) := by decide +kernel
theorem dX11_areYears_18 : decode cX11_areYears 18 = .ok (.if_icmp .gt 7, 3) := by decide +kernel
theorem dX11_areYears_21 : decode cX11_areYears 21 = .ok (.iconst 1, 1) := by decide +kernel
theorem dX11_areYears_22 : decode cX11_areYears 22 = .ok (.goto 4, 3) := by decide +kernel
theorem dX11_areYears_25 : decode cX11_areYears 25 = .ok (.iconst 0, 1) := by decide +kernel
theorem dX11_areYears_26 : decode cX11_areYears 26 = .ok (.ireturn, 1) := by decide +kernel
theorem dX11_isHour_0 : decode cX11_isHour 0 = .ok (.iload_n 0, 1) := by decide +kernel
theorem dX11_isHour_1 : decode cX11_isHour 1 = .ok (.ifCond .lt 13, 3) := by decide +kernel
theorem dX11_isHour_4 : decode cX11_isHour 4 = .ok (.iload_n 0, 1) := by decide +kernel
theorem dX11_isHour_5 : decode cX11_isHour 5 = .ok (.bipush 100, 2) := by decide +kernel
theorem dX11_isHour_7 : decode cX11_isHour 7 = .ok (.if_icmp .ge 7, 3) := by decide +kernel
theorem dX11_isHour_10 : decode cX11_isHour 10 = .ok (.iconst 1, 1) := by decide +kernel
theorem dX11_isHour_11 : decode cX11_isHour 11 = .ok (.goto 4, 3) := by decide +kernel
theorem dX11_isHour_14 : decode cX11_isHour 14 = .ok (.iconst 0, 1) := by decide +kernel
theorem dX11_isHour_15 : decode cX11_isHour 15 = .ok (.ireturn, 1) := by decide +kernel
theorem dX11_isCrowd_0 : decode cX11_isCrowd 0 = .ok (.iload_n 0, 1) := by decide +kernel
theorem dX11_isCrowd_1 : decode cX11_isCrowd 1 = .ok (.ifCond .lt 13, 3) := by decide +kernel
theorem dX11_isCrowd_4 : decode cX11_isCrowd 4 = .ok (.iload_n 0, 1) := by decide +kernel
theorem dX11_isCrowd_5 : decode cX11_isCrowd 5 = .ok (.bipush 99, 2) := by decide +kernel
theorem dX11_isCrowd_7 : decode cX11_isCrowd 7 = .ok (.if_icmp .gt 7, 3) := by decide +kernel
theorem dX11_isCrowd_10 : decode cX11_isCrowd 10 = .ok (.iconst 1, 1) := by decide +kernel
theorem dX11_isCrowd_11 : decode cX11_isCrowd 11 = .ok (.goto 4, 3) := by decide +kernel
theorem dX11_isCrowd_14 : decode cX11_isCrowd 14 = .ok (.iconst 0, 1) := by decide +kernel
theorem dX11_isCrowd_15 : decode cX11_isCrowd 15 = .ok (.ireturn, 1) := by decide +kernel
theorem dX11_isLoudness_0 : decode cX11_isLoudness 0 = .ok (.iload_n 0, 1) := by decide +kernel
theorem dX11_isLoudness_1 : decode cX11_isLoudness 1 = .ok (.ifCond .lt 13, 3) := by decide +kernel
theorem dX11_isLoudness_4 : decode cX11_isLoudness 4 = .ok (.iload_n 0, 1) := by decide +kernel
theorem dX11_isLoudness_5 : decode cX11_isLoudness 5 = .ok (.bipush 6, 2) := by decide +kernel
theorem dX11_isLoudness_7 : decode cX11_isLoudness 7 = .ok (.if_icmp .gt 7, 3) := by decide +kernel
theorem dX11_isLoudness_10 : decode cX11_isLoudness 10 = .ok (.iconst 1, 1) := by decide +kernel
theorem dX11_isLoudness_11 : decode cX11_isLoudness 11 = .ok (.goto 4, 3) := by decide +kernel
theorem dX11_isLoudness_14 : decode cX11_isLoudness 14 = .ok (.iconst 0, 1) := by decide +kernel
theorem dX11_isLoudness_15 : decode cX11_isLoudness 15 = .ok (.ireturn, 1) := by decide +kernel
theorem dX11_share_0 : decode cX11_share 0 = .ok (.iload_n 1, 1) := by decide +kernel
theorem dX11_share_1 : decode cX11_share 1 = .ok (.iload_n 2, 1) := by decide +kernel
theorem dX11_share_2 : decode cX11_share 2 = .ok (.if_icmp .ne 9, 3) := by decide +kernel
theorem dX11_share_5 : decode cX11_share 5 = .ok (.iload_n 0, 1) := by decide +kernel
theorem dX11_share_6 : decode cX11_share 6 = .ok (.iconst 2, 1) := by decide +kernel
theorem dX11_share_7 : decode cX11_share 7 = .ok (.idiv, 1) := by decide +kernel
theorem dX11_share_8 : decode cX11_share 8 = .ok (.goto 13, 3) := by decide +kernel
theorem dX11_share_11 : decode cX11_share 11 = .ok (.iload_n 1, 1) := by decide +kernel
theorem dX11_share_12 : decode cX11_share 12 = .ok (.iload_n 2, 1) := by decide +kernel
theorem dX11_share_13 : decode cX11_share 13 = .ok (.if_icmp .le 7, 3) := by decide +kernel
theorem dX11_share_16 : decode cX11_share 16 = .ok (.iload_n 0, 1) := by decide +kernel
theorem dX11_share_17 : decode cX11_share 17 = .ok (.goto 4, 3) := by decide +kernel
theorem dX11_share_20 : decode cX11_share 20 = .ok (.iconst 0, 1) := by decide +kernel
theorem dX11_share_21 : decode cX11_share 21 = .ok (.istore_n 3, 1) := by decide +kernel
theorem dX11_share_22 : decode cX11_share 22 = .ok (.iload_n 3, 1) := by decide +kernel
theorem dX11_share_23 : decode cX11_share 23 = .ok (.iconst 2, 1) := by decide +kernel
theorem dX11_share_24 : decode cX11_share 24 = .ok (.iload_n 1, 1) := by decide +kernel
theorem dX11_share_25 : decode cX11_share 25 = .ok (.imul, 1) := by decide +kernel
theorem dX11_share_26 : decode cX11_share 26 = .ok (.isub, 1) := by decide +kernel
theorem dX11_share_27 : decode cX11_share 27 = .ok (.ireturn, 1) := by decide +kernel
theorem dX11_isRest_0 : decode cX11_isRest 0 = .ok (.iconst 0, 1) := by decide +kernel
theorem dX11_isRest_1 : decode cX11_isRest 1 = .ok (.istore_n 3, 1) := by decide +kernel
theorem dX11_isRest_2 : decode cX11_isRest 2 = .ok (.iload_n 3, 1) := by decide +kernel
theorem dX11_isRest_3 : decode cX11_isRest 3 = .ok (.bipush 6, 2) := by decide +kernel
theorem dX11_isRest_5 : decode cX11_isRest 5 = .ok (.if_icmp .gt 41, 3) := by decide +kernel
theorem dX11_isRest_8 : decode cX11_isRest 8 = .ok (.iload_n 0, 1) := by decide +kernel
theorem dX11_isRest_9 : decode cX11_isRest 9 = .ok (.iload_n 3, 1) := by decide +kernel
theorem dX11_isRest_10 : decode cX11_isRest 10 = .ok (.iload_n 2, 1) := by decide +kernel
theorem dX11_isRest_11 : decode cX11_isRest 11 = .ok (.invokestatic 312, 3) := by decide +kernel
theorem dX11_isRest_14 : decode cX11_isRest 14 = .ok (.iload_n 0, 1) := by decide +kernel
theorem dX11_isRest_15 : decode cX11_isRest 15 = .ok (.iload_n 1, 1) := by decide +kernel
theorem dX11_isRest_16 : decode cX11_isRest 16 = .ok (.iload_n 2, 1) := by decide +kernel
theorem dX11_isRest_17 : decode cX11_isRest 17 = .ok (.invokestatic 312, 3) := by decide +kernel
theorem dX11_isRest_20 : decode cX11_isRest 20 = .ok (.if_icmp .gt 18, 3) := by decide +kernel
theorem dX11_isRest_23 : decode cX11_isRest 23 = .ok (.iload_n 0, 1) := by decide +kernel
theorem dX11_isRest_24 : decode cX11_isRest 24 = .ok (.iload_n 3, 1) := by decide +kernel
theorem dX11_isRest_25 : decode cX11_isRest 25 = .ok (.iload_n 1, 1) := by decide +kernel
theorem dX11_isRest_26 : decode cX11_isRest 26 = .ok (.invokestatic 312, 3) := by decide +kernel
theorem dX11_isRest_29 : decode cX11_isRest 29 = .ok (.iload_n 0, 1) := by decide +kernel
theorem dX11_isRest_30 : decode cX11_isRest 30 = .ok (.iload_n 2, 1) := by decide +kernel
theorem dX11_isRest_31 : decode cX11_isRest 31 = .ok (.iload_n 1, 1) := by decide +kernel
theorem dX11_isRest_32 : decode cX11_isRest 32 = .ok (.invokestatic 312, 3) := by decide +kernel
theorem dX11_isRest_35 : decode cX11_isRest 35 = .ok (.if_icmp .le 5, 3) := by decide +kernel
theorem dX11_isRest_38 : decode cX11_isRest 38 = .ok (.iconst 0, 1) := by decide +kernel
theorem dX11_isRest_39 : decode cX11_isRest 39 = .ok (.ireturn, 1) := by decide +kernel
theorem dX11_isRest_40 : decode cX11_isRest 40 = .ok (.iinc 3 1, 3) := by decide +kernel
theorem dX11_isRest_43 : decode cX11_isRest 43 = .ok (.goto (-41), 3) := by decide +kernel
theorem dX11_isRest_46 : decode cX11_isRest 46 = .ok (.iconst 1, 1) := by decide +kernel
theorem dX11_isRest_47 : decode cX11_isRest 47 = .ok (.ireturn, 1) := by decide +kernel
