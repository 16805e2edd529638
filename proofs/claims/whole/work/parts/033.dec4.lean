theorem dX12_rents_13 : decode cX12_rents 13 = .ok (.invokevirtual 184, 3) := by decide +kernel
theorem dX12_rents_16 : decode cX12_rents 16 = .ok (.ireturn, 1) := by decide +kernel
theorem dX12_rents_17 : decode cX12_rents 17 = .ok (.iconst 0, 1) := by decide +kernel
theorem dX12_rents_18 : decode cX12_rents 18 = .ok (.istore_n 1, 1) := by decide +kernel
theorem dX12_rents_19 : decode cX12_rents 19 = .ok (.iconst 0, 1) := by decide +kernel
theorem dX12_rents_20 : decode cX12_rents 20 = .ok (.istore_n 2, 1) := by decide +kernel
theorem dX12_rents_21 : decode cX12_rents 21 = .ok (.iload_n 2, 1) := by decide +kernel
theorem dX12_rents_22 : decode cX12_rents 22 = .ok (.aload_n 0, 1) := by decide +kernel
theorem dX12_rents_23 : decode cX12_rents 23 = .ok (.getfield 20, 3) := by decide +kernel
theorem dX12_rents_26 : decode cX12_rents 26 = .ok (.iconst 4, 1) := by decide +kernel
theorem dX12_rents_27 : decode cX12_rents 27 = .ok (.iaload, 1) := by decide +kernel
theorem dX12_rents_28 : decode cX12_rents 28 = .ok (.if_icmp .ge 37, 3) := by decide +kernel
theorem dX12_rents_31 : decode cX12_rents 31 = .ok (.iload_n 1, 1) := by decide +kernel
theorem dX12_rents_32 : decode cX12_rents 32 = .ok (.aload_n 0, 1) := by decide +kernel
theorem dX12_rents_33 : decode cX12_rents 33 = .ok (.getfield 26, 3) := by decide +kernel
theorem dX12_rents_36 : decode cX12_rents 36 = .ok (.iload_n 2, 1) := by decide +kernel
theorem dX12_rents_37 : decode cX12_rents 37 = .ok (.iaload, 1) := by decide +kernel
theorem dX12_rents_38 : decode cX12_rents 38 = .ok (.ifCond .ne 7, 3) := by decide +kernel
theorem dX12_rents_41 : decode cX12_rents 41 = .ok (.iconst 0, 1) := by decide +kernel
theorem dX12_rents_42 : decode cX12_rents 42 = .ok (.goto 15, 3) := by decide +kernel
theorem dX12_rents_45 : decode cX12_rents 45 = .ok (.aload_n 0, 1) := by decide +kernel
theorem dX12_rents_46 : decode cX12_rents 46 = .ok (.aload_n 0, 1) := by decide +kernel
theorem dX12_rents_47 : decode cX12_rents 47 = .ok (.getfield 26, 3) := by decide +kernel
theorem dX12_rents_50 : decode cX12_rents 50 = .ok (.iload_n 2, 1) := by decide +kernel
theorem dX12_rents_51 : decode cX12_rents 51 = .ok (.iaload, 1) := by decide +kernel
theorem dX12_rents_52 : decode cX12_rents 52 = .ok (.iconst 1, 1) := by decide +kernel
theorem dX12_rents_53 : decode cX12_rents 53 = .ok (.isub, 1) := by decide +kernel
theorem dX12_rents_54 : decode cX12_rents 54 = .ok (.invokevirtual 340, 3) := by decide +kernel
theorem dX12_rents_57 : decode cX12_rents 57 = .ok (.iadd, 1) := by decide +kernel
theorem dX12_rents_58 : decode cX12_rents 58 = .ok (.istore_n 1, 1) := by decide +kernel
theorem dX12_rents_59 : decode cX12_rents 59 = .ok (.iinc 2 1, 3) := by decide +kernel
theorem dX12_rents_62 : decode cX12_rents 62 = .ok (.goto (-41), 3) := by decide +kernel
theorem dX12_rents_65 : decode cX12_rents 65 = .ok (.iload_n 1, 1) := by decide +kernel
theorem dX12_rents_66 : decode cX12_rents 66 = .ok (.ireturn, 1) := by decide +kernel
theorem dX12_heatFor_0 : decode cX12_heatFor 0 = .ok (.aload_n 0, 1) := by decide +kernel
theorem dX12_heatFor_1 : decode cX12_heatFor 1 = .ok (.invokevirtual 181, 3) := by decide +kernel
theorem dX12_heatFor_4 : decode cX12_heatFor 4 = .ok (.aload_n 0, 1) := by decide +kernel
theorem dX12_heatFor_5 : decode cX12_heatFor 5 = .ok (.getfield 194, 3) := by decide +kernel
theorem dX12_heatFor_8 : decode cX12_heatFor 8 = .ok (.ifCond .ne 9, 3) := by decide +kernel
theorem dX12_heatFor_11 : decode cX12_heatFor 11 = .ok (.aload_n 0, 1) := by decide +kernel
theorem dX12_heatFor_12 : decode cX12_heatFor 12 = .ok (.iconst 1, 1) := by decide +kernel
theorem dX12_heatFor_13 : decode cX12_heatFor 13 = .ok (.invokevirtual 184, 3) := by decide +kernel
theorem dX12_heatFor_16 : decode cX12_heatFor 16 = .ok (.ireturn, 1) := by decide +kernel
theorem dX12_heatFor_17 : decode cX12_heatFor 17 = .ok (.aload_n 0, 1) := by decide +kernel
theorem dX12_heatFor_18 : decode cX12_heatFor 18 = .ok (.aload_n 0, 1) := by decide +kernel
theorem dX12_heatFor_19 : decode cX12_heatFor 19 = .ok (.getfield 26, 3) := by decide +kernel
theorem dX12_heatFor_22 : decode cX12_heatFor 22 = .ok (.bipush 60, 2) := by decide +kernel
theorem dX12_heatFor_24 : decode cX12_heatFor 24 = .ok (.invokevirtual 330, 3) := by decide +kernel
theorem dX12_heatFor_27 : decode cX12_heatFor 27 = .ok (.invokestatic 299, 3) := by decide +kernel
theorem dX12_heatFor_30 : decode cX12_heatFor 30 = .ok (.istore_n 1, 1) := by decide +kernel
theorem dX12_heatFor_31 : decode cX12_heatFor 31 = .ok (.iconst 1, 1) := by decide +kernel
theorem dX12_heatFor_32 : decode cX12_heatFor 32 = .ok (.istore_n 2, 1) := by decide +kernel
theorem dX12_heatFor_33 : decode cX12_heatFor 33 = .ok (.aload_n 0, 1) := by decide +kernel
theorem dX12_heatFor_34 : decode cX12_heatFor 34 = .ok (.aload_n 0, 1) := by decide +kernel
theorem dX12_heatFor_35 : decode cX12_heatFor 35 = .ok (.getfield 26, 3) := by decide +kernel
theorem dX12_heatFor_38 : decode cX12_heatFor 38 = .ok (.iload_n 2, 1) := by decide +kernel
theorem dX12_heatFor_39 : decode cX12_heatFor 39 = .ok (.invokevirtual 330, 3) := by decide +kernel
theorem dX12_heatFor_42 : decode cX12_heatFor 42 = .ok (.invokestatic 299, 3) := by decide +kernel
theorem dX12_heatFor_45 : decode cX12_heatFor 45 = .ok (.iload_n 1, 1) := by decide +kernel
theorem dX12_heatFor_46 : decode cX12_heatFor 46 = .ok (.if_icmp .ge 9, 3) := by decide +kernel
theorem dX12_heatFor_49 : decode cX12_heatFor 49 = .ok (.iinc 2 1, 3) := by decide +kernel
theorem dX12_heatFor_52 : decode cX12_heatFor 52 = .ok (.goto (-19), 3) := by decide +kernel
theorem dX12_heatFor_55 : decode cX12_heatFor 55 = .ok (.iload_n 2, 1) := by decide +kernel
theorem dX12_heatFor_56 : decode cX12_heatFor 56 = .ok (.ireturn, 1) := by decide +kernel
theorem dX12_trySits_0 : decode cX12_trySits 0 = .ok (.iload_n 2, 1) := by decide +kernel
theorem dX12_trySits_1 : decode cX12_trySits 1 = .ok (.aload_n 0, 1) := by decide +kernel
theorem dX12_trySits_2 : decode cX12_trySits 2 = .ok (.getfield 20, 3) := by decide +kernel
theorem dX12_trySits_5 : decode cX12_trySits 5 = .ok (.iconst 4, 1) := by decide +kernel
theorem dX12_trySits_6 : decode cX12_trySits 6 = .ok (.iaload, 1) := by decide +kernel
theorem dX12_trySits_7 : decode cX12_trySits 7 = .ok (.iadd, 1) := by decide +kernel
theorem dX12_trySits_8 : decode cX12_trySits 8 = .ok (.iload_n 1, 1) := by decide +kernel
theorem dX12_trySits_9 : decode cX12_trySits 9 = .ok (.isub, 1) := by decide +kernel
theorem dX12_trySits_10 : decode cX12_trySits 10 = .ok (.aload_n 0, 1) := by decide +kernel
theorem dX12_trySits_11 : decode cX12_trySits 11 = .ok (.getfield 343, 3) := by decide +kernel
theorem dX12_trySits_14 : decode cX12_trySits 14 = .ok (.if_icmp .ge 4, 3) := by decide +kernel
theorem dX12_trySits_17 : decode cX12_trySits 17 = .ok (.return_, 1) := by decide +kernel
theorem dX12_trySits_18 : decode cX12_trySits 18 = .ok (.iload_n 1, 1) := by decide +kernel
theorem dX12_trySits_19 : decode cX12_trySits 19 = .ok (.aload_n 0, 1) := by decide +kernel
theorem dX12_trySits_20 : decode cX12_trySits 20 = .ok (.getfield 20, 3) := by decide +kernel
theorem dX12_trySits_23 : decode cX12_trySits 23 = .ok (.iconst 4, 1) := by decide +kernel
theorem dX12_trySits_24 : decode cX12_trySits 24 = .ok (.iaload, 1) := by decide +kernel
theorem dX12_trySits_25 : decode cX12_trySits 25 = .ok (.if_icmp .ne 57, 3) := by decide +kernel
theorem dX12_trySits_28 : decode cX12_trySits 28 = .ok (.iload_n 2, 1) := by decide +kernel
theorem dX12_trySits_29 : decode cX12_trySits 29 = .ok (.aload_n 0, 1) := by decide +kernel
theorem dX12_trySits_30 : decode cX12_trySits 30 = .ok (.getfield 343, 3) := by decide +kernel
theorem dX12_trySits_33 : decode cX12_trySits 33 = .ok (.if_icmp .le 28, 3) := by decide +kernel
theorem dX12_trySits_36 : decode cX12_trySits 36 = .ok (.aload_n 0, 1) := by decide +kernel
theorem dX12_trySits_37 : decode cX12_trySits 37 = .ok (.iload_n 2, 1) := by decide +kernel
theorem dX12_trySits_38 : decode cX12_trySits 38 = .ok (.putfield 343, 3) := by decide +kernel
theorem dX12_trySits_41 : decode cX12_trySits 41 = .ok (.aload_n 0, 1) := by decide +kernel
theorem dX12_trySits_42 : decode cX12_trySits 42 = .ok (.iload_n 3, 1) := by decide +kernel
theorem dX12_trySits_43 : decode cX12_trySits 43 = .ok (.putfield 346, 3) := by decide +kernel
theorem dX12_trySits_46 : decode cX12_trySits 46 = .ok (.aload_n 0, 1) := by decide +kernel
theorem dX12_trySits_47 : decode cX12_trySits 47 = .ok (.getfield 35, 3) := by decide +kernel
theorem dX12_trySits_50 : decode cX12_trySits 50 = .ok (.iconst 0, 1) := by decide +kernel
theorem dX12_trySits_51 : decode cX12_trySits 51 = .ok (.aload_n 0, 1) := by decide +kernel
theorem dX12_trySits_52 : decode cX12_trySits 52 = .ok (.getfield 38, 3) := by decide +kernel
theorem dX12_trySits_55 : decode cX12_trySits 55 = .ok (.iconst 0, 1) := by decide +kernel
theorem dX12_trySits_56 : decode cX12_trySits 56 = .ok (.bipush 7, 2) := by decide +kernel
theorem dX12_trySits_58 : decode cX12_trySits 58 = .ok (.invokestatic 190, 3) := by decide +kernel
theorem dX12_trySits_61 : decode cX12_trySits 61 = .ok (.aload_n 0, 1) := by decide +kernel
theorem dX12_trySits_62 : decode cX12_trySits 62 = .ok (.iload_n 3, 1) := by decide +kernel
theorem dX12_trySits_63 : decode cX12_trySits 63 = .ok (.aload_n 0, 1) := by decide +kernel
theorem dX12_trySits_64 : decode cX12_trySits 64 = .ok (.getfield 346, 3) := by decide +kernel
theorem dX12_trySits_67 : decode cX12_trySits 67 = .ok (.if_icmp .ge 7, 3) := by decide +kernel
theorem dX12_trySits_70 : decode cX12_trySits 70 = .ok (.iload_n 3, 1) := by decide +kernel
theorem dX12_trySits_71 : decode cX12_trySits 71 = .ok (.goto 7, 3) := by decide +kernel
theorem dX12_trySits_74 : decode cX12_trySits 74 = .ok (.aload_n 0, 1) := by decide +kernel
theorem dX12_trySits_75 : decode cX12_trySits 75 = .ok (.getfield 346, 3) := by decide +kernel
theorem dX12_trySits_78 : decode cX12_trySits 78 = .ok (.putfield 346, 3) := by decide +kernel
theorem dX12_trySits_81 : decode cX12_trySits 81 = .ok (.return_, 1) := by decide +kernel
theorem dX12_trySits_82 : decode cX12_trySits 82 = .ok (.iconst 0, 1) := by decide +kernel
theorem dX12_trySits_83 : decode cX12_trySits 83 = .ok (.istore 5, 2) := by decide +kernel
theorem dX12_trySits_85 : decode cX12_trySits 85 = .ok (.iload 5, 2) := by decide +kernel
theorem dX12_trySits_87 : decode cX12_trySits 87 = .ok (.aload_n 0, 1) := by decide +kernel
theorem dX12_trySits_88 : decode cX12_trySits 88 = .ok (.getfield 20, 3) := by decide +kernel
theorem dX12_trySits_91 : decode cX12_trySits 91 = .ok (.iconst 3, 1) := by decide +kernel
theorem dX12_trySits_92 : decode cX12_trySits 92 = .ok (.iaload, 1) := by decide +kernel
theorem dX12_trySits_93 : decode cX12_trySits 93 = .ok (.if_icmp .ge 104, 3) := by decide +kernel
theorem dX12_trySits_96 : decode cX12_trySits 96 = .ok (.iload_n 1, 1) := by decide +kernel
theorem dX12_trySits_97 : decode cX12_trySits 97 = .ok (.iload 4, 2) := by decide +kernel
theorem dX12_trySits_99 : decode cX12_trySits 99 = .ok (.if_icmp .eq 98, 3) := by decide +kernel
theorem dX12_trySits_102 : decode cX12_trySits 102 = .ok (.aload_n 0, 1) := by decide +kernel
theorem dX12_trySits_103 : decode cX12_trySits 103 = .ok (.getfield 41, 3) := by decide +kernel
theorem dX12_trySits_106 : decode cX12_trySits 106 = .ok (.iload 5, 2) := by decide +kernel
theorem dX12_trySits_108 : decode cX12_trySits 108 = .ok (.iaload, 1) := by decide +kernel
theorem dX12_trySits_109 : decode cX12_trySits 109 = .ok (.ifCond .eq 82, 3) := by decide +kernel
theorem dX12_trySits_112 : decode cX12_trySits 112 = .ok (.aload_n 0, 1) := by decide +kernel
theorem dX12_trySits_113 : decode cX12_trySits 113 = .ok (.iload_n 1, 1) := by decide +kernel
theorem dX12_trySits_114 : decode cX12_trySits 114 = .ok (.iload 5, 2) := by decide +kernel
theorem dX12_trySits_116 : decode cX12_trySits 116 = .ok (.invokevirtual 327, 3) := by decide +kernel
theorem dX12_trySits_119 : decode cX12_trySits 119 = .ok (.ifCond .eq 72, 3) := by decide +kernel
theorem dX12_trySits_122 : decode cX12_trySits 122 = .ok (.aload_n 0, 1) := by decide +kernel
theorem dX12_trySits_123 : decode cX12_trySits 123 = .ok (.iload 5, 2) := by decide +kernel
theorem dX12_trySits_125 : decode cX12_trySits 125 = .ok (.invokevirtual 292, 3) := by decide +kernel
theorem dX12_trySits_128 : decode cX12_trySits 128 = .ok (.aload_n 0, 1) := by decide +kernel
theorem dX12_trySits_129 : decode cX12_trySits 129 = .ok (.iload_n 1, 1) := by decide +kernel
theorem dX12_trySits_130 : decode cX12_trySits 130 = .ok (.invokevirtual 305, 3) := by decide +kernel
theorem dX12_trySits_133 : decode cX12_trySits 133 = .ok (.if_icmp .ge 6, 3) := by decide +kernel
theorem dX12_trySits_136 : decode cX12_trySits 136 = .ok (.goto 55, 3) := by decide +kernel
theorem dX12_trySits_139 : decode cX12_trySits 139 = .ok (.aload_n 0, 1) := by decide +kernel
theorem dX12_trySits_140 : decode cX12_trySits 140 = .ok (.getfield 41, 3) := by decide +kernel
theorem dX12_trySits_143 : decode cX12_trySits 143 = .ok (.iload 5, 2) := by decide +kernel
theorem dX12_trySits_145 : decode cX12_trySits 145 = .ok (.dup2, 1) := by decide +kernel
theorem dX12_trySits_146 : decode cX12_trySits 146 = .ok (.iaload, 1) := by decide +kernel
theorem dX12_trySits_147 : decode cX12_trySits 147 = .ok (.iconst 1, 1) := by decide +kernel
theorem dX12_trySits_148 : decode cX12_trySits 148 = .ok (.isub, 1) := by decide +kernel
theorem dX12_trySits_149 : decode cX12_trySits 149 = .ok (.iastore, 1) := by decide +kernel
theorem dX12_trySits_150 : decode cX12_trySits 150 = .ok (.aload_n 0, 1) := by decide +kernel
theorem dX12_trySits_151 : decode cX12_trySits 151 = .ok (.getfield 35, 3) := by decide +kernel
theorem dX12_trySits_154 : decode cX12_trySits 154 = .ok (.iload_n 1, 1) := by decide +kernel
theorem dX12_trySits_155 : decode cX12_trySits 155 = .ok (.iload 5, 2) := by decide +kernel
theorem dX12_trySits_157 : decode cX12_trySits 157 = .ok (.iconst 1, 1) := by decide +kernel
theorem dX12_trySits_158 : decode cX12_trySits 158 = .ok (.iadd, 1) := by decide +kernel
theorem dX12_trySits_159 : decode cX12_trySits 159 = .ok (.iastore, 1) := by decide +kernel
theorem dX12_trySits_160 : decode cX12_trySits 160 = .ok (.aload_n 0, 1) := by decide +kernel
theorem dX12_trySits_161 : decode cX12_trySits 161 = .ok (.iload_n 1, 1) := by decide +kernel
theorem dX12_trySits_162 : decode cX12_trySits 162 = .ok (.iconst 1, 1) := by decide +kernel
theorem dX12_trySits_163 : decode cX12_trySits 163 = .ok (.iadd, 1) := by decide +kernel
theorem dX12_trySits_164 : decode cX12_trySits 164 = .ok (.iload_n 2, 1) := by decide +kernel
theorem dX12_trySits_165 : decode cX12_trySits 165 = .ok (.iconst 1, 1) := by decide +kernel
theorem dX12_trySits_166 : decode cX12_trySits 166 = .ok (.iadd, 1) := by decide +kernel
theorem dX12_trySits_167 : decode cX12_trySits 167 = .ok (.iload_n 3, 1) := by decide +kernel
theorem dX12_trySits_168 : decode cX12_trySits 168 = .ok (.aload_n 0, 1) := by decide +kernel
theorem dX12_trySits_169 : decode cX12_trySits 169 = .ok (.iload 5, 2) := by decide +kernel
theorem dX12_trySits_171 : decode cX12_trySits 171 = .ok (.invokevirtual 340, 3) := by decide +kernel
theorem dX12_trySits_174 : decode cX12_trySits 174 = .ok (.iadd, 1) := by decide +kernel
theorem dX12_trySits_175 : decode cX12_trySits 175 = .ok (.iload 4, 2) := by decide +kernel
theorem dX12_trySits_177 : decode cX12_trySits 177 = .ok (.invokevirtual 349, 3) := by decide +kernel
theorem dX12_trySits_180 : decode cX12_trySits 180 = .ok (.aload_n 0, 1) := by decide +kernel
theorem dX12_trySits_181 : decode cX12_trySits 181 = .ok (.getfield 41, 3) := by decide +kernel
theorem dX12_trySits_184 : decode cX12_trySits 184 = .ok (.iload 5, 2) := by decide +kernel
theorem dX12_trySits_186 : decode cX12_trySits 186 = .ok (.dup2, 1) := by decide +kernel
theorem dX12_trySits_187 : decode cX12_trySits 187 = .ok (.iaload, 1) := by decide +kernel
theorem dX12_trySits_188 : decode cX12_trySits 188 = .ok (.iconst 1, 1) := by decide +kernel
theorem dX12_trySits_189 : decode cX12_trySits 189 = .ok (.iadd, 1) := by decide +kernel
theorem dX12_trySits_190 : decode cX12_trySits 190 = .ok (.iastore, 1) := by decide +kernel
theorem dX12_trySits_191 : decode cX12_trySits 191 = .ok (.iinc 5 1, 3) := by decide +kernel
theorem dX12_trySits_194 : decode cX12_trySits 194 = .ok (.goto (-109), 3) := by decide +kernel
theorem dX12_trySits_197 : decode cX12_trySits 197 = .ok (.aload_n 0, 1) := by decide +kernel
theorem dX12_trySits_198 : decode cX12_trySits 198 = .ok (.getfield 35, 3) := by decide +kernel
theorem dX12_trySits_201 : decode cX12_trySits 201 = .ok (.iload_n 1, 1) := by decide +kernel
theorem dX12_trySits_202 : decode cX12_trySits 202 = .ok (.iconst 0, 1) := by decide +kernel
theorem dX12_trySits_203 : decode cX12_trySits 203 = .ok (.iastore, 1) := by decide +kernel
theorem dX12_trySits_204 : decode cX12_trySits 204 = .ok (.aload_n 0, 1) := by decide +kernel
theorem dX12_trySits_205 : decode cX12_trySits 205 = .ok (.iload_n 1, 1) := by decide +kernel
theorem dX12_trySits_206 : decode cX12_trySits 206 = .ok (.iconst 1, 1) := by decide +kernel
theorem dX12_trySits_207 : decode cX12_trySits 207 = .ok (.iadd, 1) := by decide +kernel
theorem dX12_trySits_208 : decode cX12_trySits 208 = .ok (.iload_n 2, 1) := by decide +kernel
theorem dX12_trySits_209 : decode cX12_trySits 209 = .ok (.iload_n 3, 1) := by decide +kernel
theorem dX12_trySits_210 : decode cX12_trySits 210 = .ok (.iload 4, 2) := by decide +kernel
theorem dX12_trySits_212 : decode cX12_trySits 212 = .ok (.invokevirtual 349, 3) := by decide +kernel
theorem dX12_trySits_215 : decode cX12_trySits 215 = .ok (.return_, 1) := by decide +kernel
theorem dX12_seekSits_0 : decode cX12_seekSits 0 = .ok (.iconst 0, 1) := by decide +kernel
theorem dX12_seekSits_1 : decode cX12_seekSits 1 = .ok (.istore_n 3, 1) := by decide +kernel
theorem dX12_seekSits_2 : decode cX12_seekSits 2 = .ok (.iload_n 3, 1) := by decide +kernel
theorem dX12_seekSits_3 : decode cX12_seekSits 3 = .ok (.aload_n 0, 1) := by decide +kernel
theorem dX12_seekSits_4 : decode cX12_seekSits 4 = .ok (.getfield 20, 3) := by decide +kernel
theorem dX12_seekSits_7 : decode cX12_seekSits 7 = .ok (.iconst 3, 1) := by decide +kernel
theorem dX12_seekSits_8 : decode cX12_seekSits 8 = .ok (.iaload, 1) := by decide +kernel
theorem dX12_seekSits_9 : decode cX12_seekSits 9 = .ok (.if_icmp .ge 31, 3) := by decide +kernel
theorem dX12_seekSits_12 : decode cX12_seekSits 12 = .ok (.aload_n 0, 1) := by decide +kernel
theorem dX12_seekSits_13 : decode cX12_seekSits 13 = .ok (.getfield 41, 3) := by decide +kernel
theorem dX12_seekSits_16 : decode cX12_seekSits 16 = .ok (.iload_n 3, 1) := by decide +kernel
theorem dX12_seekSits_17 : decode cX12_seekSits 17 = .ok (.aload_n 0, 1) := by decide +kernel
theorem dX12_seekSits_18 : decode cX12_seekSits 18 = .ok (.iload_n 3, 1) := by decide +kernel
theorem dX12_seekSits_19 : decode cX12_seekSits 19 = .ok (.invokevirtual 333, 3) := by decide +kernel
theorem dX12_seekSits_22 : decode cX12_seekSits 22 = .ok (.iload_n 3, 1) := by decide +kernel
theorem dX12_seekSits_23 : decode cX12_seekSits 23 = .ok (.iload_n 2, 1) := by decide +kernel
theorem dX12_seekSits_24 : decode cX12_seekSits 24 = .ok (.if_icmp .ne 7, 3) := by decide +kernel
theorem dX12_seekSits_27 : decode cX12_seekSits 27 = .ok (.iconst 1, 1) := by decide +kernel
theorem dX12_seekSits_28 : decode cX12_seekSits 28 = .ok (.goto 4, 3) := by decide +kernel
theorem dX12_seekSits_31 : decode cX12_seekSits 31 = .ok (.iconst 0, 1) := by decide +kernel
theorem dX12_seekSits_32 : decode cX12_seekSits 32 = .ok (.iadd, 1) := by decide +kernel
theorem dX12_seekSits_33 : decode cX12_seekSits 33 = .ok (.iastore, 1) := by decide +kernel
theorem dX12_seekSits_34 : decode cX12_seekSits 34 = .ok (.iinc 3 1, 3) := by decide +kernel
theorem dX12_seekSits_37 : decode cX12_seekSits 37 = .ok (.goto (-35), 3) := by decide +kernel
theorem dX12_seekSits_40 : decode cX12_seekSits 40 = .ok (.aload_n 0, 1) := by decide +kernel
theorem dX12_seekSits_41 : decode cX12_seekSits 41 = .ok (.iconst (-1), 1) := by decide +kernel
theorem dX12_seekSits_42 : decode cX12_seekSits 42 = .ok (.putfield 343, 3) := by decide +kernel
theorem dX12_seekSits_45 : decode cX12_seekSits 45 = .ok (.aload_n 0, 1) := by decide +kernel
theorem dX12_seekSits_46 : decode cX12_seekSits 46 = .ok (.ldc_w 353, 3) := by decide +kernel
theorem dX12_seekSits_49 : decode cX12_seekSits 49 = .ok (.putfield 346, 3) := by decide +kernel
theorem dX12_seekSits_52 : decode cX12_seekSits 52 = .ok (.aload_n 0, 1) := by decide +kernel
theorem dX12_seekSits_53 : decode cX12_seekSits 53 = .ok (.iconst 0, 1) := by decide +kernel
theorem dX12_seekSits_54 : decode cX12_seekSits 54 = .ok (.iconst 0, 1) := by decide +kernel
theorem dX12_seekSits_55 : decode cX12_seekSits 55 = .ok (.iconst 0, 1) := by decide +kernel
theorem dX12_seekSits_56 : decode cX12_seekSits 56 = .ok (.iload_n 1, 1) := by decide +kernel
theorem dX12_seekSits_57 : decode cX12_seekSits 57 = .ok (.invokevirtual 349, 3) := by decide +kernel
theorem dX12_seekSits_60 : decode cX12_seekSits 60 = .ok (.aload_n 0, 1) := by decide +kernel
theorem dX12_seekSits_61 : decode cX12_seekSits 61 = .ok (.getfield 343, 3) := by decide +kernel
theorem dX12_seekSits_64 : decode cX12_seekSits 64 = .ok (.ireturn, 1) := by decide +kernel
theorem dX12_packed_0 : decode cX12_packed 0 = .ok (.aload_n 0, 1) := by decide +kernel
theorem dX12_packed_1 : decode cX12_packed 1 = .ok (.invokevirtual 181, 3) := by decide +kernel
theorem dX12_packed_4 : decode cX12_packed 4 = .ok (.aload_n 0, 1) := by decide +kernel
theorem dX12_packed_5 : decode cX12_packed 5 = .ok (.getfield 194, 3) := by decide +kernel
theorem dX12_packed_8 : decode cX12_packed 8 = .ok (.ifCond .eq 12, 3) := by decide +kernel
theorem dX12_packed_11 : decode cX12_packed 11 = .ok (.aload_n 0, 1) := by decide +kernel
theorem dX12_packed_12 : decode cX12_packed 12 = .ok (.iconst (-1), 1) := by decide +kernel
theorem dX12_packed_13 : decode cX12_packed 13 = .ok (.iconst (-1), 1) := by decide +kernel
theorem dX12_packed_14 : decode cX12_packed 14 = .ok (.invokevirtual 354, 3) := by decide +kernel
theorem dX12_packed_17 : decode cX12_packed 17 = .ok (.goto 8, 3) := by decide +kernel
theorem dX12_packed_20 : decode cX12_packed 20 = .ok (.aload_n 0, 1) := by decide +kernel
theorem dX12_packed_21 : decode cX12_packed 21 = .ok (.iconst 1, 1) := by decide +kernel
theorem dX12_packed_22 : decode cX12_packed 22 = .ok (.invokevirtual 184, 3) := by decide +kernel
theorem dX12_packed_25 : decode cX12_packed 25 = .ok (.ireturn, 1) := by decide +kernel
theorem dX12_packedAt_0 : decode cX12_packedAt 0 = .ok (.aload_n 0, 1) := by decide +kernel
theorem dX12_packedAt_1 : decode cX12_packedAt 1 = .ok (.invokevirtual 181, 3) := by decide +kernel
theorem dX12_packedAt_4 : decode cX12_packedAt 4 = .ok (.aload_n 0, 1) := by decide +kernel
theorem dX12_packedAt_5 : decode cX12_packedAt 5 = .ok (.iload_n 1, 1) := by decide +kernel
theorem dX12_packedAt_6 : decode cX12_packedAt 6 = .ok (.invokevirtual 318, 3) := by decide +kernel
theorem dX12_packedAt_9 : decode cX12_packedAt 9 = .ok (.ifCond .ne 9, 3) := by decide +kernel
theorem dX12_packedAt_12 : decode cX12_packedAt 12 = .ok (.aload_n 0, 1) := by decide +kernel
theorem dX12_packedAt_13 : decode cX12_packedAt 13 = .ok (.iconst 1, 1) := by decide +kernel
theorem dX12_packedAt_14 : decode cX12_packedAt 14 = .ok (.invokevirtual 184, 3) := by decide +kernel
theorem dX12_packedAt_17 : decode cX12_packedAt 17 = .ok (.ireturn, 1) := by decide +kernel
theorem dX12_packedAt_18 : decode cX12_packedAt 18 = .ok (.aload_n 0, 1) := by decide +kernel
theorem dX12_packedAt_19 : decode cX12_packedAt 19 = .ok (.iconst (-1), 1) := by decide +kernel
theorem dX12_packedAt_20 : decode cX12_packedAt 20 = .ok (.iconst (-1), 1) := by decide +kernel
theorem dX12_packedAt_21 : decode cX12_packedAt 21 = .ok (.invokevirtual 354, 3) := by decide +kernel
theorem dX12_packedAt_24 : decode cX12_packedAt 24 = .ok (.pop, 1) := by decide +kernel
theorem dX12_packedAt_25 : decode cX12_packedAt 25 = .ok (.aload_n 0, 1) := by decide +kernel
theorem dX12_packedAt_26 : decode cX12_packedAt 26 = .ok (.getfield 38, 3) := by decide +kernel
theorem dX12_packedAt_29 : decode cX12_packedAt 29 = .ok (.iload_n 1, 1) := by decide +kernel
theorem dX12_packedAt_30 : decode cX12_packedAt 30 = .ok (.iaload, 1) := by decide +kernel
theorem dX12_packedAt_31 : decode cX12_packedAt 31 = .ok (.ifCond .ne 8, 3) := by decide +kernel
theorem dX12_packedAt_34 : decode cX12_packedAt 34 = .ok (.bipush (-2), 2) := by decide +kernel
theorem dX12_packedAt_36 : decode cX12_packedAt 36 = .ok (.goto 11, 3) := by decide +kernel
theorem dX12_packedAt_39 : decode cX12_packedAt 39 = .ok (.aload_n 0, 1) := by decide +kernel
theorem dX12_packedAt_40 : decode cX12_packedAt 40 = .ok (.getfield 38, 3) := by decide +kernel
theorem dX12_packedAt_43 : decode cX12_packedAt 43 = .ok (.iload_n 1, 1) := by decide +kernel
theorem dX12_packedAt_44 : decode cX12_packedAt 44 = .ok (.iaload, 1) := by decide +kernel
theorem dX12_packedAt_45 : decode cX12_packedAt 45 = .ok (.iconst 1, 1) := by decide +kernel
theorem dX12_packedAt_46 : decode cX12_packedAt 46 = .ok (.isub, 1) := by decide +kernel
theorem dX12_packedAt_47 : decode cX12_packedAt 47 = .ok (.ireturn, 1) := by decide +kernel
theorem dX12_cheapest_0 : decode cX12_cheapest 0 = .ok (.aload_n 0, 1) := by decide +kernel
theorem dX12_cheapest_1 : decode cX12_cheapest 1 = .ok (.invokevirtual 181, 3) := by decide +kernel
theorem dX12_cheapest_4 : decode cX12_cheapest 4 = .ok (.aload_n 0, 1) := by decide +kernel
theorem dX12_cheapest_5 : decode cX12_cheapest 5 = .ok (.getfield 194, 3) := by decide +kernel
theorem dX12_cheapest_8 : decode cX12_cheapest 8 = .ok (.ifCond .ne 9, 3) := by decide +kernel
theorem dX12_cheapest_11 : decode cX12_cheapest 11 = .ok (.aload_n 0, 1) := by decide +kernel
theorem dX12_cheapest_12 : decode cX12_cheapest 12 = .ok (.iconst 1, 1) := by decide +kernel
theorem dX12_cheapest_13 : decode cX12_cheapest 13 = .ok (.invokevirtual 184, 3) := by decide +kernel
theorem dX12_cheapest_16 : decode cX12_cheapest 16 = .ok (.ireturn, 1) := by decide +kernel
theorem dX12_cheapest_17 : decode cX12_cheapest 17 = .ok (.aload_n 0, 1) := by decide +kernel
theorem dX12_cheapest_18 : decode cX12_cheapest 18 = .ok (.iconst (-1), 1) := by decide +kernel
theorem dX12_cheapest_19 : decode cX12_cheapest 19 = .ok (.iconst (-1), 1) := by decide +kernel
theorem dX12_cheapest_20 : decode cX12_cheapest 20 = .ok (.invokevirtual 354, 3) := by decide +kernel
theorem dX12_cheapest_23 : decode cX12_cheapest 23 = .ok (.pop, 1) := by decide +kernel
theorem dX12_cheapest_24 : decode cX12_cheapest 24 = .ok (.aload_n 0, 1) := by decide +kernel
theorem dX12_cheapest_25 : decode cX12_cheapest 25 = .ok (.getfield 346, 3) := by decide +kernel
theorem dX12_cheapest_28 : decode cX12_cheapest 28 = .ok (.ireturn, 1) := by decide +kernel
theorem dX12_packedWithout_0 : decode cX12_packedWithout 0 = .ok (.aload_n 0, 1) := by decide +kernel
theorem dX12_packedWithout_1 : decode cX12_packedWithout 1 = .ok (.invokevirtual 181, 3) := by decide +kernel
theorem dX12_packedWithout_4 : decode cX12_packedWithout 4 = .ok (.aload_n 0, 1) := by decide +kernel
theorem dX12_packedWithout_5 : decode cX12_packedWithout 5 = .ok (.iload_n 1, 1) := by decide +kernel
theorem dX12_packedWithout_6 : decode cX12_packedWithout 6 = .ok (.invokevirtual 318, 3) := by decide +kernel
theorem dX12_packedWithout_9 : decode cX12_packedWithout 9 = .ok (.ifCond .eq 12, 3) := by decide +kernel
theorem dX12_packedWithout_12 : decode cX12_packedWithout 12 = .ok (.aload_n 0, 1) := by decide +kernel
theorem dX12_packedWithout_13 : decode cX12_packedWithout 13 = .ok (.iload_n 1, 1) := by decide +kernel
theorem dX12_packedWithout_14 : decode cX12_packedWithout 14 = .ok (.iconst (-1), 1) := by decide +kernel
theorem dX12_packedWithout_15 : decode cX12_packedWithout 15 = .ok (.invokevirtual 354, 3) := by decide +kernel
theorem dX12_packedWithout_18 : decode cX12_packedWithout 18 = .ok (.goto 8, 3) := by decide +kernel
theorem dX12_packedWithout_21 : decode cX12_packedWithout 21 = .ok (.aload_n 0, 1) := by decide +kernel
theorem dX12_packedWithout_22 : decode cX12_packedWithout 22 = .ok (.iconst 1, 1) := by decide +kernel
theorem dX12_packedWithout_23 : decode cX12_packedWithout 23 = .ok (.invokevirtual 184, 3) := by decide +kernel
theorem dX12_packedWithout_26 : decode cX12_packedWithout 26 = .ok (.ireturn, 1) := by decide +kernel
theorem dX12_bestSeat_0 : decode cX12_bestSeat 0 = .ok (.aload_n 0, 1) := by decide +kernel
theorem dX12_bestSeat_1 : decode cX12_bestSeat 1 = .ok (.invokevirtual 181, 3) := by decide +kernel
theorem dX12_bestSeat_4 : decode cX12_bestSeat 4 = .ok (.aload_n 0, 1) := by decide +kernel
theorem dX12_bestSeat_5 : decode cX12_bestSeat 5 = .ok (.getfield 194, 3) := by decide +kernel
theorem dX12_bestSeat_8 : decode cX12_bestSeat 8 = .ok (.ifCond .ne 9, 3) := by decide +kernel
theorem dX12_bestSeat_11 : decode cX12_bestSeat 11 = .ok (.aload_n 0, 1) := by decide +kernel
theorem dX12_bestSeat_12 : decode cX12_bestSeat 12 = .ok (.iconst 1, 1) := by decide +kernel
theorem dX12_bestSeat_13 : decode cX12_bestSeat 13 = .ok (.invokevirtual 184, 3) := by decide +kernel
theorem dX12_bestSeat_16 : decode cX12_bestSeat 16 = .ok (.ireturn, 1) := by decide +kernel
theorem dX12_bestSeat_17 : decode cX12_bestSeat 17 = .ok (.aload_n 0, 1) := by decide +kernel
theorem dX12_bestSeat_18 : decode cX12_bestSeat 18 = .ok (.iconst (-1), 1) := by decide +kernel
theorem dX12_bestSeat_19 : decode cX12_bestSeat 19 = .ok (.iconst (-1), 1) := by decide +kernel
theorem dX12_bestSeat_20 : decode cX12_bestSeat 20 = .ok (.invokevirtual 354, 3) := by decide +kernel
theorem dX12_bestSeat_23 : decode cX12_bestSeat 23 = .ok (.istore_n 1, 1) := by decide +kernel
theorem dX12_bestSeat_24 : decode cX12_bestSeat 24 = .ok (.bipush (-2), 2) := by decide +kernel
theorem dX12_bestSeat_26 : decode cX12_bestSeat 26 = .ok (.istore_n 2, 1) := by decide +kernel
theorem dX12_bestSeat_27 : decode cX12_bestSeat 27 = .ok (.iconst 0, 1) := by decide +kernel
theorem dX12_bestSeat_28 : decode cX12_bestSeat 28 = .ok (.istore_n 3, 1) := by decide +kernel
theorem dX12_bestSeat_29 : decode cX12_bestSeat 29 = .ok (.iload_n 3, 1) := by decide +kernel
theorem dX12_bestSeat_30 : decode cX12_bestSeat 30 = .ok (.aload_n 0, 1) := by decide +kernel
theorem dX12_bestSeat_31 : decode cX12_bestSeat 31 = .ok (.getfield 20, 3) := by decide +kernel
theorem dX12_bestSeat_34 : decode cX12_bestSeat 34 = .ok (.iconst 3, 1) := by decide +kernel
theorem dX12_bestSeat_35 : decode cX12_bestSeat 35 = .ok (.iaload, 1) := by decide +kernel
theorem dX12_bestSeat_36 : decode cX12_bestSeat 36 = .ok (.if_icmp .ge 31, 3) := by decide +kernel
theorem dX12_bestSeat_39 : decode cX12_bestSeat 39 = .ok (.aload_n 0, 1) := by decide +kernel
theorem dX12_bestSeat_40 : decode cX12_bestSeat 40 = .ok (.iconst (-1), 1) := by decide +kernel
theorem dX12_bestSeat_41 : decode cX12_bestSeat 41 = .ok (.iload_n 3, 1) := by decide +kernel
theorem dX12_bestSeat_42 : decode cX12_bestSeat 42 = .ok (.invokevirtual 354, 3) := by decide +kernel
theorem dX12_bestSeat_45 : decode cX12_bestSeat 45 = .ok (.istore 4, 2) := by decide +kernel
theorem dX12_bestSeat_47 : decode cX12_bestSeat 47 = .ok (.iload 4, 2) := by decide +kernel
theorem dX12_bestSeat_49 : decode cX12_bestSeat 49 = .ok (.iload_n 1, 1) := by decide +kernel
theorem dX12_bestSeat_50 : decode cX12_bestSeat 50 = .ok (.if_icmp .gt 6, 3) := by decide +kernel
theorem dX12_bestSeat_53 : decode cX12_bestSeat 53 = .ok (.goto 8, 3) := by decide +kernel
theorem dX12_bestSeat_56 : decode cX12_bestSeat 56 = .ok (.iload_n 3, 1) := by decide +kernel
theorem dX12_bestSeat_57 : decode cX12_bestSeat 57 = .ok (.istore_n 2, 1) := by decide +kernel
theorem dX12_bestSeat_58 : decode cX12_bestSeat 58 = .ok (.iload 4, 2) := by decide +kernel
theorem dX12_bestSeat_60 : decode cX12_bestSeat 60 = .ok (.istore_n 1, 1) := by decide +kernel
theorem dX12_bestSeat_61 : decode cX12_bestSeat 61 = .ok (.iinc 3 1, 3) := by decide +kernel
theorem dX12_bestSeat_64 : decode cX12_bestSeat 64 = .ok (.goto (-35), 3) := by decide +kernel
theorem dX12_bestSeat_67 : decode cX12_bestSeat 67 = .ok (.iload_n 2, 1) := by decide +kernel
theorem dX12_bestSeat_68 : decode cX12_bestSeat 68 = .ok (.ireturn, 1) := by decide +kernel
theorem dX12_weightOf_0 : decode cX12_weightOf 0 = .ok (.aload_n 0, 1) := by decide +kernel
theorem dX12_weightOf_1 : decode cX12_weightOf 1 = .ok (.iload_n 1, 1) := by decide +kernel
theorem dX12_weightOf_2 : decode cX12_weightOf 2 = .ok (.invokevirtual 292, 3) := by decide +kernel
theorem dX12_weightOf_5 : decode cX12_weightOf 5 = .ok (.aload_n 0, 1) := by decide +kernel
theorem dX12_weightOf_6 : decode cX12_weightOf 6 = .ok (.aload_n 0, 1) := by decide +kernel
theorem dX12_weightOf_7 : decode cX12_weightOf 7 = .ok (.getfield 26, 3) := by decide +kernel
theorem dX12_weightOf_10 : decode cX12_weightOf 10 = .ok (.iload_n 1, 1) := by decide +kernel
theorem dX12_weightOf_11 : decode cX12_weightOf 11 = .ok (.invokevirtual 295, 3) := by decide +kernel
theorem dX12_weightOf_14 : decode cX12_weightOf 14 = .ok (.invokestatic 299, 3) := by decide +kernel
theorem dX12_weightOf_17 : decode cX12_weightOf 17 = .ok (.imul, 1) := by decide +kernel
theorem dX12_weightOf_18 : decode cX12_weightOf 18 = .ok (.ireturn, 1) := by decide +kernel
theorem dX12_coal_0 : decode cX12_coal 0 = .ok (.aload_n 0, 1) := by decide +kernel
theorem dX12_coal_1 : decode cX12_coal 1 = .ok (.invokevirtual 181, 3) := by decide +kernel
theorem dX12_coal_4 : decode cX12_coal 4 = .ok (.aload_n 0, 1) := by decide +kernel
theorem dX12_coal_5 : decode cX12_coal 5 = .ok (.iload_n 1, 1) := by decide +kernel
theorem dX12_coal_6 : decode cX12_coal 6 = .ok (.invokevirtual 312, 3) := by decide +kernel
theorem dX12_coal_9 : decode cX12_coal 9 = .ok (.ifCond .ne 9, 3) := by decide +kernel
theorem dX12_coal_12 : decode cX12_coal 12 = .ok (.aload_n 0, 1) := by decide +kernel
theorem dX12_coal_13 : decode cX12_coal 13 = .ok (.iconst 1, 1) := by decide +kernel
theorem dX12_coal_14 : decode cX12_coal 14 = .ok (.invokevirtual 184, 3) := by decide +kernel
theorem dX12_coal_17 : decode cX12_coal 17 = .ok (.ireturn, 1) := by decide +kernel
theorem dX12_coal_18 : decode cX12_coal 18 = .ok (.iload_n 2, 1) := by decide +kernel
theorem dX12_coal_19 : decode cX12_coal 19 = .ok (.iconst 0, 1) := by decide +kernel
theorem dX12_coal_20 : decode cX12_coal 20 = .ok (.sipush 999, 3) := by decide +kernel
theorem dX12_coal_23 : decode cX12_coal 23 = .ok (.invokestatic 160, 3) := by decide +kernel
theorem dX12_coal_26 : decode cX12_coal 26 = .ok (.ifCond .ne 9, 3) := by decide +kernel
theorem dX12_coal_29 : decode cX12_coal 29 = .ok (.aload_n 0, 1) := by decide +kernel
theorem dX12_coal_30 : decode cX12_coal 30 = .ok (.iconst 2, 1) := by decide +kernel
theorem dX12_coal_31 : decode cX12_coal 31 = .ok (.invokevirtual 184, 3) := by decide +kernel
theorem dX12_coal_34 : decode cX12_coal 34 = .ok (.ireturn, 1) := by decide +kernel
theorem dX12_coal_35 : decode cX12_coal 35 = .ok (.iconst 0, 1) := by decide +kernel
theorem dX12_coal_36 : decode cX12_coal 36 = .ok (.istore_n 3, 1) := by decide +kernel
theorem dX12_coal_37 : decode cX12_coal 37 = .ok (.iconst 0, 1) := by decide +kernel
theorem dX12_coal_38 : decode cX12_coal 38 = .ok (.istore 4, 2) := by decide +kernel
theorem dX12_coal_40 : decode cX12_coal 40 = .ok (.iload 4, 2) := by decide +kernel
theorem dX12_coal_42 : decode cX12_coal 42 = .ok (.aload_n 0, 1) := by decide +kernel
theorem dX12_coal_43 : decode cX12_coal 43 = .ok (.getfield 20, 3) := by decide +kernel
theorem dX12_coal_46 : decode cX12_coal 46 = .ok (.iconst 3, 1) := by decide +kernel
theorem dX12_coal_47 : decode cX12_coal 47 = .ok (.iaload, 1) := by decide +kernel
theorem dX12_coal_48 : decode cX12_coal 48 = .ok (.if_icmp .ge 18, 3) := by decide +kernel
theorem dX12_coal_51 : decode cX12_coal 51 = .ok (.iload_n 3, 1) := by decide +kernel
theorem dX12_coal_52 : decode cX12_coal 52 = .ok (.aload_n 0, 1) := by decide +kernel
theorem dX12_coal_53 : decode cX12_coal 53 = .ok (.iload 4, 2) := by decide +kernel
theorem dX12_coal_55 : decode cX12_coal 55 = .ok (.invokevirtual 357, 3) := by decide +kernel
theorem dX12_coal_58 : decode cX12_coal 58 = .ok (.iadd, 1) := by decide +kernel
theorem dX12_coal_59 : decode cX12_coal 59 = .ok (.istore_n 3, 1) := by decide +kernel
theorem dX12_coal_60 : decode cX12_coal 60 = .ok (.iinc 4 1, 3) := by decide +kernel
theorem dX12_coal_63 : decode cX12_coal 63 = .ok (.goto (-23), 3) := by decide +kernel
theorem dX12_coal_66 : decode cX12_coal 66 = .ok (.iload_n 3, 1) := by decide +kernel
theorem dX12_coal_67 : decode cX12_coal 67 = .ok (.ifCond .ne 5, 3) := by decide +kernel
theorem dX12_coal_70 : decode cX12_coal 70 = .ok (.iconst 0, 1) := by decide +kernel
theorem dX12_coal_71 : decode cX12_coal 71 = .ok (.ireturn, 1) := by decide +kernel
theorem dX12_coal_72 : decode cX12_coal 72 = .ok (.iload_n 2, 1) := by decide +kernel
theorem dX12_coal_73 : decode cX12_coal 73 = .ok (.istore 4, 2) := by decide +kernel
theorem dX12_coal_75 : decode cX12_coal 75 = .ok (.iconst 0, 1) := by decide +kernel
theorem dX12_coal_76 : decode cX12_coal 76 = .ok (.istore 5, 2) := by decide +kernel
theorem dX12_coal_78 : decode cX12_coal 78 = .ok (.iload 5, 2) := by decide +kernel
theorem dX12_coal_80 : decode cX12_coal 80 = .ok (.aload_n 0, 1) := by decide +kernel
theorem dX12_coal_81 : decode cX12_coal 81 = .ok (.getfield 20, 3) := by decide +kernel
theorem dX12_coal_84 : decode cX12_coal 84 = .ok (.iconst 3, 1) := by decide +kernel
theorem dX12_coal_85 : decode cX12_coal 85 = .ok (.iaload, 1) := by decide +kernel
theorem dX12_coal_86 : decode cX12_coal 86 = .ok (.if_icmp .ge 38, 3) := by decide +kernel
theorem dX12_coal_89 : decode cX12_coal 89 = .ok (.aload_n 0, 1) := by decide +kernel
theorem dX12_coal_90 : decode cX12_coal 90 = .ok (.getfield 44, 3) := by decide +kernel
theorem dX12_coal_93 : decode cX12_coal 93 = .ok (.iload 5, 2) := by decide +kernel
theorem dX12_coal_95 : decode cX12_coal 95 = .ok (.iload_n 2, 1) := by decide +kernel
theorem dX12_coal_96 : decode cX12_coal 96 = .ok (.aload_n 0, 1) := by decide +kernel
theorem dX12_coal_97 : decode cX12_coal 97 = .ok (.iload 5, 2) := by decide +kernel
theorem dX12_coal_99 : decode cX12_coal 99 = .ok (.invokevirtual 357, 3) := by decide +kernel
theorem dX12_coal_102 : decode cX12_coal 102 = .ok (.imul, 1) := by decide +kernel
theorem dX12_coal_103 : decode cX12_coal 103 = .ok (.iload_n 3, 1) := by decide +kernel
theorem dX12_coal_104 : decode cX12_coal 104 = .ok (.idiv, 1) := by decide +kernel
theorem dX12_coal_105 : decode cX12_coal 105 = .ok (.iastore, 1) := by decide +kernel
theorem dX12_coal_106 : decode cX12_coal 106 = .ok (.iload 4, 2) := by decide +kernel
theorem dX12_coal_108 : decode cX12_coal 108 = .ok (.aload_n 0, 1) := by decide +kernel
theorem dX12_coal_109 : decode cX12_coal 109 = .ok (.getfield 44, 3) := by decide +kernel
theorem dX12_coal_112 : decode cX12_coal 112 = .ok (.iload 5, 2) := by decide +kernel
theorem dX12_coal_114 : decode cX12_coal 114 = .ok (.iaload, 1) := by decide +kernel
theorem dX12_coal_115 : decode cX12_coal 115 = .ok (.isub, 1) := by decide +kernel
theorem dX12_coal_116 : decode cX12_coal 116 = .ok (.istore 4, 2) := by decide +kernel
theorem dX12_coal_118 : decode cX12_coal 118 = .ok (.iinc 5 1, 3) := by decide +kernel
theorem dX12_coal_121 : decode cX12_coal 121 = .ok (.goto (-43), 3) := by decide +kernel
theorem dX12_coal_124 : decode cX12_coal 124 = .ok (.iconst 0, 1) := by decide +kernel
theorem dX12_coal_125 : decode cX12_coal 125 = .ok (.istore 5, 2) := by decide +kernel
theorem dX12_coal_127 : decode cX12_coal 127 = .ok (.iload 4, 2) := by decide +kernel
theorem dX12_coal_129 : decode cX12_coal 129 = .ok (.ifCond .le 94, 3) := by decide +kernel
theorem dX12_coal_132 : decode cX12_coal 132 = .ok (.iconst (-1), 1) := by decide +kernel
theorem dX12_coal_133 : decode cX12_coal 133 = .ok (.istore 6, 2) := by decide +kernel
theorem dX12_coal_135 : decode cX12_coal 135 = .ok (.iconst 0, 1) := by decide +kernel
theorem dX12_coal_136 : decode cX12_coal 136 = .ok (.istore 7, 2) := by decide +kernel
theorem dX12_coal_138 : decode cX12_coal 138 = .ok (.iload 7, 2) := by decide +kernel
theorem dX12_coal_140 : decode cX12_coal 140 = .ok (.aload_n 0, 1) := by decide +kernel
theorem dX12_coal_141 : decode cX12_coal 141 = .ok (.getfield 20, 3) := by decide +kernel
theorem dX12_coal_144 : decode cX12_coal 144 = .ok (.iconst 3, 1) := by decide +kernel
theorem dX12_coal_145 : decode cX12_coal 145 = .ok (.iaload, 1) := by decide +kernel
theorem dX12_coal_146 : decode cX12_coal 146 = .ok (.if_icmp .ge 51, 3) := by decide +kernel
theorem dX12_coal_149 : decode cX12_coal 149 = .ok (.iload 5, 2) := by decide +kernel
theorem dX12_coal_151 : decode cX12_coal 151 = .ok (.iload 7, 2) := by decide +kernel
theorem dX12_coal_153 : decode cX12_coal 153 = .ok (.invokestatic 281, 3) := by decide +kernel
theorem dX12_coal_156 : decode cX12_coal 156 = .ok (.ifCond .ne 35, 3) := by decide +kernel
theorem dX12_coal_159 : decode cX12_coal 159 = .ok (.iload 6, 2) := by decide +kernel
theorem dX12_coal_161 : decode cX12_coal 161 = .ok (.ifCond .lt 26, 3) := by decide +kernel
theorem dX12_coal_164 : decode cX12_coal 164 = .ok (.iload_n 2, 1) := by decide +kernel
theorem dX12_coal_165 : decode cX12_coal 165 = .ok (.aload_n 0, 1) := by decide +kernel
theorem dX12_coal_166 : decode cX12_coal 166 = .ok (.iload 7, 2) := by decide +kernel
theorem dX12_coal_168 : decode cX12_coal 168 = .ok (.invokevirtual 357, 3) := by decide +kernel
theorem dX12_coal_171 : decode cX12_coal 171 = .ok (.imul, 1) := by decide +kernel
theorem dX12_coal_172 : decode cX12_coal 172 = .ok (.iload_n 3, 1) := by decide +kernel
theorem dX12_coal_173 : decode cX12_coal 173 = .ok (.irem, 1) := by decide +kernel
theorem dX12_coal_174 : decode cX12_coal 174 = .ok (.iload_n 2, 1) := by decide +kernel
theorem dX12_coal_175 : decode cX12_coal 175 = .ok (.aload_n 0, 1) := by decide +kernel
theorem dX12_coal_176 : decode cX12_coal 176 = .ok (.iload 6, 2) := by decide +kernel
theorem dX12_coal_178 : decode cX12_coal 178 = .ok (.invokevirtual 357, 3) := by decide +kernel
theorem dX12_coal_181 : decode cX12_coal 181 = .ok (.imul, 1) := by decide +kernel
theorem dX12_coal_182 : decode cX12_coal 182 = .ok (.iload_n 3, 1) := by decide +kernel
theorem dX12_coal_183 : decode cX12_coal 183 = .ok (.irem, 1) := by decide +kernel
theorem dX12_coal_184 : decode cX12_coal 184 = .ok (.if_icmp .le 7, 3) := by decide +kernel
theorem dX12_coal_187 : decode cX12_coal 187 = .ok (.iload 7, 2) := by decide +kernel
theorem dX12_coal_189 : decode cX12_coal 189 = .ok (.istore 6, 2) := by decide +kernel
theorem dX12_coal_191 : decode cX12_coal 191 = .ok (.iinc 7 1, 3) := by decide +kernel
theorem dX12_coal_194 : decode cX12_coal 194 = .ok (.goto (-56), 3) := by decide +kernel
theorem dX12_coal_197 : decode cX12_coal 197 = .ok (.iload 5, 2) := by decide +kernel
theorem dX12_coal_199 : decode cX12_coal 199 = .ok (.iconst 1, 1) := by decide +kernel
theorem dX12_coal_200 : decode cX12_coal 200 = .ok (.iload 6, 2) := by decide +kernel
theorem dX12_coal_202 : decode cX12_coal 202 = .ok (.ishl, 1) := by decide +kernel
theorem dX12_coal_203 : decode cX12_coal 203 = .ok (.ior, 1) := by decide +kernel
theorem dX12_coal_204 : decode cX12_coal 204 = .ok (.istore 5, 2) := by decide +kernel
theorem dX12_coal_206 : decode cX12_coal 206 = .ok (.aload_n 0, 1) := by decide +kernel
theorem dX12_coal_207 : decode cX12_coal 207 = .ok (.getfield 44, 3) := by decide +kernel
theorem dX12_coal_210 : decode cX12_coal 210 = .ok (.iload 6, 2) := by decide +kernel
theorem dX12_coal_212 : decode cX12_coal 212 = .ok (.dup2, 1) := by decide +kernel
theorem dX12_coal_213 : decode cX12_coal 213 = .ok (.iaload, 1) := by decide +kernel
theorem dX12_coal_214 : decode cX12_coal 214 = .ok (.iconst 1, 1) := by decide +kernel
theorem dX12_coal_215 : decode cX12_coal 215 = .ok (.iadd, 1) := by decide +kernel
theorem dX12_coal_216 : decode cX12_coal 216 = .ok (.iastore, 1) := by decide +kernel
theorem dX12_coal_217 : decode cX12_coal 217 = .ok (.iinc 4 (-1), 3) := by decide +kernel
theorem dX12_coal_220 : decode cX12_coal 220 = .ok (.goto (-93), 3) := by decide +kernel
theorem dX12_coal_223 : decode cX12_coal 223 = .ok (.aload_n 0, 1) := by decide +kernel
theorem dX12_coal_224 : decode cX12_coal 224 = .ok (.getfield 44, 3) := by decide +kernel
theorem dX12_coal_227 : decode cX12_coal 227 = .ok (.iload_n 1, 1) := by decide +kernel
theorem dX12_coal_228 : decode cX12_coal 228 = .ok (.iaload, 1) := by decide +kernel
theorem dX12_coal_229 : decode cX12_coal 229 = .ok (.ireturn, 1) := by decide +kernel
theorem dX12_canMarry_0 : decode cX12_canMarry 0 = .ok (.iload_n 1, 1) := by decide +kernel
theorem dX12_canMarry_1 : decode cX12_canMarry 1 = .ok (.iload_n 2, 1) := by decide +kernel
theorem dX12_canMarry_2 : decode cX12_canMarry 2 = .ok (.if_icmp .eq 50, 3) := by decide +kernel
theorem dX12_canMarry_5 : decode cX12_canMarry 5 = .ok (.aload_n 0, 1) := by decide +kernel
theorem dX12_canMarry_6 : decode cX12_canMarry 6 = .ok (.iload_n 1, 1) := by decide +kernel
theorem dX12_canMarry_7 : decode cX12_canMarry 7 = .ok (.iload_n 2, 1) := by decide +kernel
theorem dX12_canMarry_8 : decode cX12_canMarry 8 = .ok (.invokevirtual 324, 3) := by decide +kernel
theorem dX12_canMarry_11 : decode cX12_canMarry 11 = .ok (.ifCond .eq 41, 3) := by decide +kernel
theorem dX12_canMarry_14 : decode cX12_canMarry 14 = .ok (.aload_n 0, 1) := by decide +kernel
theorem dX12_canMarry_15 : decode cX12_canMarry 15 = .ok (.getfield 20, 3) := by decide +kernel
theorem dX12_canMarry_18 : decode cX12_canMarry 18 = .ok (.bipush 70, 2) := by decide +kernel
theorem dX12_canMarry_20 : decode cX12_canMarry 20 = .ok (.iload_n 1, 1) := by decide +kernel
theorem dX12_canMarry_21 : decode cX12_canMarry 21 = .ok (.iadd, 1) := by decide +kernel
theorem dX12_canMarry_22 : decode cX12_canMarry 22 = .ok (.iaload, 1) := by decide +kernel
theorem dX12_canMarry_23 : decode cX12_canMarry 23 = .ok (.iload_n 2, 1) := by decide +kernel
theorem dX12_canMarry_24 : decode cX12_canMarry 24 = .ok (.invokestatic 281, 3) := by decide +kernel
theorem dX12_canMarry_27 : decode cX12_canMarry 27 = .ok (.ifCond .ne 25, 3) := by decide +kernel
theorem dX12_canMarry_30 : decode cX12_canMarry 30 = .ok (.aload_n 0, 1) := by decide +kernel
theorem dX12_canMarry_31 : decode cX12_canMarry 31 = .ok (.iload_n 1, 1) := by decide +kernel
theorem dX12_canMarry_32 : decode cX12_canMarry 32 = .ok (.invokevirtual 302, 3) := by decide +kernel
theorem dX12_canMarry_35 : decode cX12_canMarry 35 = .ok (.iconst 3, 1) := by decide +kernel
theorem dX12_canMarry_36 : decode cX12_canMarry 36 = .ok (.if_icmp .eq 16, 3) := by decide +kernel
theorem dX12_canMarry_39 : decode cX12_canMarry 39 = .ok (.aload_n 0, 1) := by decide +kernel
theorem dX12_canMarry_40 : decode cX12_canMarry 40 = .ok (.iload_n 2, 1) := by decide +kernel
theorem dX12_canMarry_41 : decode cX12_canMarry 41 = .ok (.invokevirtual 302, 3) := by decide +kernel
theorem dX12_canMarry_44 : decode cX12_canMarry 44 = .ok (.iconst 3, 1) := by decide +kernel
theorem dX12_canMarry_45 : decode cX12_canMarry 45 = .ok (.if_icmp .eq 7, 3) := by decide +kernel
theorem dX12_canMarry_48 : decode cX12_canMarry 48 = .ok (.iconst 1, 1) := by decide +kernel
theorem dX12_canMarry_49 : decode cX12_canMarry 49 = .ok (.goto 4, 3) := by decide +kernel
theorem dX12_canMarry_52 : decode cX12_canMarry 52 = .ok (.iconst 0, 1) := by decide +kernel
theorem dX12_canMarry_53 : decode cX12_canMarry 53 = .ok (.ireturn, 1) := by decide +kernel
theorem dX12_tryCouples_0 : decode cX12_tryCouples 0 = .ok (.iload_n 1, 1) := by decide +kernel
theorem dX12_tryCouples_1 : decode cX12_tryCouples 1 = .ok (.aload_n 0, 1) := by decide +kernel
theorem dX12_tryCouples_2 : decode cX12_tryCouples 2 = .ok (.getfield 20, 3) := by decide +kernel
theorem dX12_tryCouples_5 : decode cX12_tryCouples 5 = .ok (.iconst 4, 1) := by decide +kernel
theorem dX12_tryCouples_6 : decode cX12_tryCouples 6 = .ok (.iaload, 1) := by decide +kernel
theorem dX12_tryCouples_7 : decode cX12_tryCouples 7 = .ok (.if_icmp .ne 33, 3) := by decide +kernel
theorem dX12_tryCouples_10 : decode cX12_tryCouples 10 = .ok (.iload_n 3, 1) := by decide +kernel
theorem dX12_tryCouples_11 : decode cX12_tryCouples 11 = .ok (.aload_n 0, 1) := by decide +kernel
theorem dX12_tryCouples_12 : decode cX12_tryCouples 12 = .ok (.getfield 360, 3) := by decide +kernel
theorem dX12_tryCouples_15 : decode cX12_tryCouples 15 = .ok (.if_icmp .gt 4, 3) := by decide +kernel
theorem dX12_tryCouples_18 : decode cX12_tryCouples 18 = .ok (.return_, 1) := by decide +kernel
theorem dX12_tryCouples_19 : decode cX12_tryCouples 19 = .ok (.aload_n 0, 1) := by decide +kernel
theorem dX12_tryCouples_20 : decode cX12_tryCouples 20 = .ok (.iload_n 3, 1) := by decide +kernel
theorem dX12_tryCouples_21 : decode cX12_tryCouples 21 = .ok (.putfield 360, 3) := by decide +kernel
theorem dX12_tryCouples_24 : decode cX12_tryCouples 24 = .ok (.aload_n 0, 1) := by decide +kernel
theorem dX12_tryCouples_25 : decode cX12_tryCouples 25 = .ok (.getfield 47, 3) := by decide +kernel
theorem dX12_tryCouples_28 : decode cX12_tryCouples 28 = .ok (.iconst 0, 1) := by decide +kernel
theorem dX12_tryCouples_29 : decode cX12_tryCouples 29 = .ok (.aload_n 0, 1) := by decide +kernel
theorem dX12_tryCouples_30 : decode cX12_tryCouples 30 = .ok (.getfield 50, 3) := by decide +kernel
theorem dX12_tryCouples_33 : decode cX12_tryCouples 33 = .ok (.iconst 0, 1) := by decide +kernel
theorem dX12_tryCouples_34 : decode cX12_tryCouples 34 = .ok (.bipush 7, 2) := by decide +kernel
theorem dX12_tryCouples_36 : decode cX12_tryCouples 36 = .ok (.invokestatic 190, 3) := by decide +kernel
theorem dX12_tryCouples_39 : decode cX12_tryCouples 39 = .ok (.return_, 1) := by decide +kernel
theorem dX12_tryCouples_40 : decode cX12_tryCouples 40 = .ok (.iload_n 2, 1) := by decide +kernel
theorem dX12_tryCouples_41 : decode cX12_tryCouples 41 = .ok (.iload_n 1, 1) := by decide +kernel
theorem dX12_tryCouples_42 : decode cX12_tryCouples 42 = .ok (.invokestatic 281, 3) := by decide +kernel
theorem dX12_tryCouples_45 : decode cX12_tryCouples 45 = .ok (.ifCond .eq 13, 3) := by decide +kernel
theorem dX12_tryCouples_48 : decode cX12_tryCouples 48 = .ok (.aload_n 0, 1) := by decide +kernel
theorem dX12_tryCouples_49 : decode cX12_tryCouples 49 = .ok (.iload_n 1, 1) := by decide +kernel
theorem dX12_tryCouples_50 : decode cX12_tryCouples 50 = .ok (.iconst 1, 1) := by decide +kernel
theorem dX12_tryCouples_51 : decode cX12_tryCouples 51 = .ok (.iadd, 1) := by decide +kernel
theorem dX12_tryCouples_52 : decode cX12_tryCouples 52 = .ok (.iload_n 2, 1) := by decide +kernel
theorem dX12_tryCouples_53 : decode cX12_tryCouples 53 = .ok (.iload_n 3, 1) := by decide +kernel
theorem dX12_tryCouples_54 : decode cX12_tryCouples 54 = .ok (.invokevirtual 363, 3) := by decide +kernel
theorem dX12_tryCouples_57 : decode cX12_tryCouples 57 = .ok (.return_, 1) := by decide +kernel
theorem dX12_tryCouples_58 : decode cX12_tryCouples 58 = .ok (.iload_n 1, 1) := by decide +kernel
theorem dX12_tryCouples_59 : decode cX12_tryCouples 59 = .ok (.iconst 1, 1) := by decide +kernel
theorem dX12_tryCouples_60 : decode cX12_tryCouples 60 = .ok (.iadd, 1) := by decide +kernel
theorem dX12_tryCouples_61 : decode cX12_tryCouples 61 = .ok (.istore 4, 2) := by decide +kernel
theorem dX12_tryCouples_63 : decode cX12_tryCouples 63 = .ok (.iload 4, 2) := by decide +kernel
theorem dX12_tryCouples_65 : decode cX12_tryCouples 65 = .ok (.aload_n 0, 1) := by decide +kernel
theorem dX12_tryCouples_66 : decode cX12_tryCouples 66 = .ok (.getfield 20, 3) := by decide +kernel
theorem dX12_tryCouples_69 : decode cX12_tryCouples 69 = .ok (.iconst 4, 1) := by decide +kernel
theorem dX12_tryCouples_70 : decode cX12_tryCouples 70 = .ok (.iaload, 1) := by decide +kernel
theorem dX12_tryCouples_71 : decode cX12_tryCouples 71 = .ok (.if_icmp .ge 84, 3) := by decide +kernel
theorem dX12_tryCouples_74 : decode cX12_tryCouples 74 = .ok (.iload_n 2, 1) := by decide +kernel
theorem dX12_tryCouples_75 : decode cX12_tryCouples 75 = .ok (.iload 4, 2) := by decide +kernel
theorem dX12_tryCouples_77 : decode cX12_tryCouples 77 = .ok (.invokestatic 281, 3) := by decide +kernel
theorem dX12_tryCouples_80 : decode cX12_tryCouples 80 = .ok (.ifCond .ne 69, 3) := by decide +kernel
theorem dX12_tryCouples_83 : decode cX12_tryCouples 83 = .ok (.aload_n 0, 1) := by decide +kernel
theorem dX12_tryCouples_84 : decode cX12_tryCouples 84 = .ok (.iload_n 1, 1) := by decide +kernel
theorem dX12_tryCouples_85 : decode cX12_tryCouples 85 = .ok (.iload 4, 2) := by decide +kernel
theorem dX12_tryCouples_87 : decode cX12_tryCouples 87 = .ok (.invokevirtual 367, 3) := by decide +kernel
theorem dX12_tryCouples_90 : decode cX12_tryCouples 90 = .ok (.ifCond .ne 6, 3) := by decide +kernel
theorem dX12_tryCouples_93 : decode cX12_tryCouples 93 = .ok (.goto 56, 3) := by decide +kernel
theorem dX12_tryCouples_96 : decode cX12_tryCouples 96 = .ok (.aload_n 0, 1) := by decide +kernel
theorem dX12_tryCouples_97 : decode cX12_tryCouples 97 = .ok (.getfield 47, 3) := by decide +kernel
theorem dX12_tryCouples_100 : decode cX12_tryCouples 100 = .ok (.iload_n 1, 1) := by decide +kernel
theorem dX12_tryCouples_101 : decode cX12_tryCouples 101 = .ok (.iload 4, 2) := by decide +kernel
theorem dX12_tryCouples_103 : decode cX12_tryCouples 103 = .ok (.iastore, 1) := by decide +kernel
theorem dX12_tryCouples_104 : decode cX12_tryCouples 104 = .ok (.aload_n 0, 1) := by decide +kernel
theorem dX12_tryCouples_105 : decode cX12_tryCouples 105 = .ok (.getfield 47, 3) := by decide +kernel
theorem dX12_tryCouples_108 : decode cX12_tryCouples 108 = .ok (.iload 4, 2) := by decide +kernel
theorem dX12_tryCouples_110 : decode cX12_tryCouples 110 = .ok (.iload_n 1, 1) := by decide +kernel
theorem dX12_tryCouples_111 : decode cX12_tryCouples 111 = .ok (.iastore, 1) := by decide +kernel
theorem dX12_tryCouples_112 : decode cX12_tryCouples 112 = .ok (.aload_n 0, 1) := by decide +kernel
theorem dX12_tryCouples_113 : decode cX12_tryCouples 113 = .ok (.iload_n 1, 1) := by decide +kernel
theorem dX12_tryCouples_114 : decode cX12_tryCouples 114 = .ok (.iconst 1, 1) := by decide +kernel
theorem dX12_tryCouples_115 : decode cX12_tryCouples 115 = .ok (.iadd, 1) := by decide +kernel
theorem dX12_tryCouples_116 : decode cX12_tryCouples 116 = .ok (.iload_n 2, 1) := by decide +kernel
theorem dX12_tryCouples_117 : decode cX12_tryCouples 117 = .ok (.iconst 1, 1) := by decide +kernel
theorem dX12_tryCouples_118 : decode cX12_tryCouples 118 = .ok (.iload_n 1, 1) := by decide +kernel
theorem dX12_tryCouples_119 : decode cX12_tryCouples 119 = .ok (.ishl, 1) := by decide +kernel
theorem dX12_tryCouples_120 : decode cX12_tryCouples 120 = .ok (.ior, 1) := by decide +kernel
theorem dX12_tryCouples_121 : decode cX12_tryCouples 121 = .ok (.iconst 1, 1) := by decide +kernel
theorem dX12_tryCouples_122 : decode cX12_tryCouples 122 = .ok (.iload 4, 2) := by decide +kernel
theorem dX12_tryCouples_124 : decode cX12_tryCouples 124 = .ok (.ishl, 1) := by decide +kernel
theorem dX12_tryCouples_125 : decode cX12_tryCouples 125 = .ok (.ior, 1) := by decide +kernel
theorem dX12_tryCouples_126 : decode cX12_tryCouples 126 = .ok (.iload_n 3, 1) := by decide +kernel
theorem dX12_tryCouples_127 : decode cX12_tryCouples 127 = .ok (.iconst 1, 1) := by decide +kernel
theorem dX12_tryCouples_128 : decode cX12_tryCouples 128 = .ok (.iadd, 1) := by decide +kernel
theorem dX12_tryCouples_129 : decode cX12_tryCouples 129 = .ok (.invokevirtual 363, 3) := by decide +kernel
theorem dX12_tryCouples_132 : decode cX12_tryCouples 132 = .ok (.aload_n 0, 1) := by decide +kernel
theorem dX12_tryCouples_133 : decode cX12_tryCouples 133 = .ok (.getfield 47, 3) := by decide +kernel
theorem dX12_tryCouples_136 : decode cX12_tryCouples 136 = .ok (.iload_n 1, 1) := by decide +kernel
theorem dX12_tryCouples_137 : decode cX12_tryCouples 137 = .ok (.bipush (-2), 2) := by decide +kernel
theorem dX12_tryCouples_139 : decode cX12_tryCouples 139 = .ok (.iastore, 1) := by decide +kernel
theorem dX12_tryCouples_140 : decode cX12_tryCouples 140 = .ok (.aload_n 0, 1) := by decide +kernel
theorem dX12_tryCouples_141 : decode cX12_tryCouples 141 = .ok (.getfield 47, 3) := by decide +kernel
theorem dX12_tryCouples_144 : decode cX12_tryCouples 144 = .ok (.iload 4, 2) := by decide +kernel
theorem dX12_tryCouples_146 : decode cX12_tryCouples 146 = .ok (.bipush (-2), 2) := by decide +kernel
theorem dX12_tryCouples_148 : decode cX12_tryCouples 148 = .ok (.iastore, 1) := by decide +kernel
theorem dX12_tryCouples_149 : decode cX12_tryCouples 149 = .ok (.iinc 4 1, 3) := by decide +kernel
theorem dX12_tryCouples_152 : decode cX12_tryCouples 152 = .ok (.goto (-89), 3) := by decide +kernel
theorem dX12_tryCouples_155 : decode cX12_tryCouples 155 = .ok (.aload_n 0, 1) := by decide +kernel
theorem dX12_tryCouples_156 : decode cX12_tryCouples 156 = .ok (.iload_n 1, 1) := by decide +kernel
theorem dX12_tryCouples_157 : decode cX12_tryCouples 157 = .ok (.iconst 1, 1) := by decide +kernel
theorem dX12_tryCouples_158 : decode cX12_tryCouples 158 = .ok (.iadd, 1) := by decide +kernel
theorem dX12_tryCouples_159 : decode cX12_tryCouples 159 = .ok (.iload_n 2, 1) := by decide +kernel
theorem dX12_tryCouples_160 : decode cX12_tryCouples 160 = .ok (.iload_n 3, 1) := by decide +kernel
theorem dX12_tryCouples_161 : decode cX12_tryCouples 161 = .ok (.invokevirtual 363, 3) := by decide +kernel
theorem dX12_tryCouples_164 : decode cX12_tryCouples 164 = .ok (.return_, 1) := by decide +kernel
theorem dX12_seekCouples_0 : decode cX12_seekCouples 0 = .ok (.aload_n 0, 1) := by decide +kernel
theorem dX12_seekCouples_1 : decode cX12_seekCouples 1 = .ok (.iconst (-1), 1) := by decide +kernel
theorem dX12_seekCouples_2 : decode cX12_seekCouples 2 = .ok (.putfield 360, 3) := by decide +kernel
theorem dX12_seekCouples_5 : decode cX12_seekCouples 5 = .ok (.iconst 0, 1) := by decide +kernel
theorem dX12_seekCouples_6 : decode cX12_seekCouples 6 = .ok (.istore_n 1, 1) := by decide +kernel
theorem dX12_seekCouples_7 : decode cX12_seekCouples 7 = .ok (.iload_n 1, 1) := by decide +kernel
theorem dX12_seekCouples_8 : decode cX12_seekCouples 8 = .ok (.bipush 7, 2) := by decide +kernel
theorem dX12_seekCouples_10 : decode cX12_seekCouples 10 = .ok (.if_icmp .ge 17, 3) := by decide +kernel
theorem dX12_seekCouples_13 : decode cX12_seekCouples 13 = .ok (.aload_n 0, 1) := by decide +kernel
theorem dX12_seekCouples_14 : decode cX12_seekCouples 14 = .ok (.getfield 47, 3) := by decide +kernel
theorem dX12_seekCouples_17 : decode cX12_seekCouples 17 = .ok (.iload_n 1, 1) := by decide +kernel
theorem dX12_seekCouples_18 : decode cX12_seekCouples 18 = .ok (.bipush (-2), 2) := by decide +kernel
theorem dX12_seekCouples_20 : decode cX12_seekCouples 20 = .ok (.iastore, 1) := by decide +kernel
theorem dX12_seekCouples_21 : decode cX12_seekCouples 21 = .ok (.iinc 1 1, 3) := by decide +kernel
theorem dX12_seekCouples_24 : decode cX12_seekCouples 24 = .ok (.goto (-17), 3) := by decide +kernel
theorem dX12_seekCouples_27 : decode cX12_seekCouples 27 = .ok (.aload_n 0, 1) := by decide +kernel
theorem dX12_seekCouples_28 : decode cX12_seekCouples 28 = .ok (.iconst 0, 1) := by decide +kernel
theorem dX12_seekCouples_29 : decode cX12_seekCouples 29 = .ok (.iconst 0, 1) := by decide +kernel
theorem dX12_seekCouples_30 : decode cX12_seekCouples 30 = .ok (.iconst 0, 1) := by decide +kernel
theorem dX12_seekCouples_31 : decode cX12_seekCouples 31 = .ok (.invokevirtual 363, 3) := by decide +kernel
theorem dX12_seekCouples_34 : decode cX12_seekCouples 34 = .ok (.aload_n 0, 1) := by decide +kernel
theorem dX12_seekCouples_35 : decode cX12_seekCouples 35 = .ok (.getfield 360, 3) := by decide +kernel
theorem dX12_seekCouples_38 : decode cX12_seekCouples 38 = .ok (.ireturn, 1) := by decide +kernel
theorem dX12_couples_0 : decode cX12_couples 0 = .ok (.aload_n 0, 1) := by decide +kernel
theorem dX12_couples_1 : decode cX12_couples 1 = .ok (.invokevirtual 181, 3) := by decide +kernel
theorem dX12_couples_4 : decode cX12_couples 4 = .ok (.aload_n 0, 1) := by decide +kernel
theorem dX12_couples_5 : decode cX12_couples 5 = .ok (.getfield 194, 3) := by decide +kernel
theorem dX12_couples_8 : decode cX12_couples 8 = .ok (.ifCond .eq 10, 3) := by decide +kernel
theorem dX12_couples_11 : decode cX12_couples 11 = .ok (.aload_n 0, 1) := by decide +kernel
theorem dX12_couples_12 : decode cX12_couples 12 = .ok (.invokevirtual 370, 3) := by decide +kernel
theorem dX12_couples_15 : decode cX12_couples 15 = .ok (.goto 8, 3) := by decide +kernel
theorem dX12_couples_18 : decode cX12_couples 18 = .ok (.aload_n 0, 1) := by decide +kernel
theorem dX12_couples_19 : decode cX12_couples 19 = .ok (.iconst 1, 1) := by decide +kernel
theorem dX12_couples_20 : decode cX12_couples 20 = .ok (.invokevirtual 184, 3) := by decide +kernel
theorem dX12_couples_23 : decode cX12_couples 23 = .ok (.ireturn, 1) := by decide +kernel
theorem dX12_spouse_0 : decode cX12_spouse 0 = .ok (.aload_n 0, 1) := by decide +kernel
theorem dX12_spouse_1 : decode cX12_spouse 1 = .ok (.invokevirtual 181, 3) := by decide +kernel
theorem dX12_spouse_4 : decode cX12_spouse 4 = .ok (.aload_n 0, 1) := by decide +kernel
theorem dX12_spouse_5 : decode cX12_spouse 5 = .ok (.iload_n 1, 1) := by decide +kernel
theorem dX12_spouse_6 : decode cX12_spouse 6 = .ok (.invokevirtual 318, 3) := by decide +kernel
theorem dX12_spouse_9 : decode cX12_spouse 9 = .ok (.ifCond .ne 9, 3) := by decide +kernel
theorem dX12_spouse_12 : decode cX12_spouse 12 = .ok (.aload_n 0, 1) := by decide +kernel
theorem dX12_spouse_13 : decode cX12_spouse 13 = .ok (.iconst 1, 1) := by decide +kernel
theorem dX12_spouse_14 : decode cX12_spouse 14 = .ok (.invokevirtual 184, 3) := by decide +kernel
theorem dX12_spouse_17 : decode cX12_spouse 17 = .ok (.ireturn, 1) := by decide +kernel
theorem dX12_spouse_18 : decode cX12_spouse 18 = .ok (.aload_n 0, 1) := by decide +kernel
theorem dX12_spouse_19 : decode cX12_spouse 19 = .ok (.invokevirtual 370, 3) := by decide +kernel
theorem dX12_spouse_22 : decode cX12_spouse 22 = .ok (.pop, 1) := by decide +kernel
theorem dX12_spouse_23 : decode cX12_spouse 23 = .ok (.aload_n 0, 1) := by decide +kernel
theorem dX12_spouse_24 : decode cX12_spouse 24 = .ok (.getfield 50, 3) := by decide +kernel
theorem dX12_spouse_27 : decode cX12_spouse 27 = .ok (.iload_n 1, 1) := by decide +kernel
theorem dX12_spouse_28 : decode cX12_spouse 28 = .ok (.iaload, 1) := by decide +kernel
theorem dX12_spouse_29 : decode cX12_spouse 29 = .ok (.ireturn, 1) := by decide +kernel
theorem dX12_mayMarry_0 : decode cX12_mayMarry 0 = .ok (.aload_n 0, 1) := by decide +kernel
theorem dX12_mayMarry_1 : decode cX12_mayMarry 1 = .ok (.invokevirtual 181, 3) := by decide +kernel
theorem dX12_mayMarry_4 : decode cX12_mayMarry 4 = .ok (.aload_n 0, 1) := by decide +kernel
theorem dX12_mayMarry_5 : decode cX12_mayMarry 5 = .ok (.iload_n 1, 1) := by decide +kernel
theorem dX12_mayMarry_6 : decode cX12_mayMarry 6 = .ok (.invokevirtual 318, 3) := by decide +kernel
theorem dX12_mayMarry_9 : decode cX12_mayMarry 9 = .ok (.ifCond .ne 9, 3) := by decide +kernel
theorem dX12_mayMarry_12 : decode cX12_mayMarry 12 = .ok (.aload_n 0, 1) := by decide +kernel
theorem dX12_mayMarry_13 : decode cX12_mayMarry 13 = .ok (.iconst 1, 1) := by decide +kernel
theorem dX12_mayMarry_14 : decode cX12_mayMarry 14 = .ok (.invokevirtual 184, 3) := by decide +kernel
theorem dX12_mayMarry_17 : decode cX12_mayMarry 17 = .ok (.ireturn, 1) := by decide +kernel
theorem dX12_mayMarry_18 : decode cX12_mayMarry 18 = .ok (.iconst 0, 1) := by decide +kernel
theorem dX12_mayMarry_19 : decode cX12_mayMarry 19 = .ok (.istore_n 2, 1) := by decide +kernel
theorem dX12_mayMarry_20 : decode cX12_mayMarry 20 = .ok (.iconst 0, 1) := by decide +kernel
theorem dX12_mayMarry_21 : decode cX12_mayMarry 21 = .ok (.istore_n 3, 1) := by decide +kernel
theorem dX12_mayMarry_22 : decode cX12_mayMarry 22 = .ok (.iload_n 3, 1) := by decide +kernel
theorem dX12_mayMarry_23 : decode cX12_mayMarry 23 = .ok (.aload_n 0, 1) := by decide +kernel
theorem dX12_mayMarry_24 : decode cX12_mayMarry 24 = .ok (.getfield 20, 3) := by decide +kernel
theorem dX12_mayMarry_27 : decode cX12_mayMarry 27 = .ok (.iconst 4, 1) := by decide +kernel
theorem dX12_mayMarry_28 : decode cX12_mayMarry 28 = .ok (.iaload, 1) := by decide +kernel
theorem dX12_mayMarry_29 : decode cX12_mayMarry 29 = .ok (.if_icmp .ge 28, 3) := by decide +kernel
theorem dX12_mayMarry_32 : decode cX12_mayMarry 32 = .ok (.iload_n 2, 1) := by decide +kernel
theorem dX12_mayMarry_33 : decode cX12_mayMarry 33 = .ok (.aload_n 0, 1) := by decide +kernel
theorem dX12_mayMarry_34 : decode cX12_mayMarry 34 = .ok (.iload_n 1, 1) := by decide +kernel
theorem dX12_mayMarry_35 : decode cX12_mayMarry 35 = .ok (.iload_n 3, 1) := by decide +kernel
theorem dX12_mayMarry_36 : decode cX12_mayMarry 36 = .ok (.invokevirtual 367, 3) := by decide +kernel
theorem dX12_mayMarry_39 : decode cX12_mayMarry 39 = .ok (.ifCond .eq 9, 3) := by decide +kernel
theorem dX12_mayMarry_42 : decode cX12_mayMarry 42 = .ok (.iconst 1, 1) := by decide +kernel
theorem dX12_mayMarry_43 : decode cX12_mayMarry 43 = .ok (.iload_n 3, 1) := by decide +kernel
theorem dX12_mayMarry_44 : decode cX12_mayMarry 44 = .ok (.ishl, 1) := by decide +kernel
theorem dX12_mayMarry_45 : decode cX12_mayMarry 45 = .ok (.goto 4, 3) := by decide +kernel
theorem dX12_mayMarry_48 : decode cX12_mayMarry 48 = .ok (.iconst 0, 1) := by decide +kernel
theorem dX12_mayMarry_49 : decode cX12_mayMarry 49 = .ok (.ior, 1) := by decide +kernel
theorem dX12_mayMarry_50 : decode cX12_mayMarry 50 = .ok (.istore_n 2, 1) := by decide +kernel
theorem dX12_mayMarry_51 : decode cX12_mayMarry 51 = .ok (.iinc 3 1, 3) := by decide +kernel
theorem dX12_mayMarry_54 : decode cX12_mayMarry 54 = .ok (.goto (-32), 3) := by decide +kernel
theorem dX12_mayMarry_57 : decode cX12_mayMarry 57 = .ok (.iload_n 2, 1) := by decide +kernel
theorem dX12_mayMarry_58 : decode cX12_mayMarry 58 = .ok (.ireturn, 1) := by decide +kernel
theorem dX12_whoEats_0 : decode cX12_whoEats 0 = .ok (.iconst 0, 1) := by decide +kernel
theorem dX12_whoEats_1 : decode cX12_whoEats 1 = .ok (.istore_n 2, 1) := by decide +kernel
theorem dX12_whoEats_2 : decode cX12_whoEats 2 = .ok (.iload_n 1, 1) := by decide +kernel
theorem dX12_whoEats_3 : decode cX12_whoEats 3 = .ok (.istore_n 3, 1) := by decide +kernel
theorem dX12_whoEats_4 : decode cX12_whoEats 4 = .ok (.iconst 0, 1) := by decide +kernel
theorem dX12_whoEats_5 : decode cX12_whoEats 5 = .ok (.istore 4, 2) := by decide +kernel
theorem dX12_whoEats_7 : decode cX12_whoEats 7 = .ok (.iload 4, 2) := by decide +kernel
theorem dX12_whoEats_9 : decode cX12_whoEats 9 = .ok (.iconst 2, 1) := by decide +kernel
theorem dX12_whoEats_10 : decode cX12_whoEats 10 = .ok (.if_icmp .ge 74, 3) := by decide +kernel
theorem dX12_whoEats_13 : decode cX12_whoEats 13 = .ok (.iconst 0, 1) := by decide +kernel
theorem dX12_whoEats_14 : decode cX12_whoEats 14 = .ok (.istore 5, 2) := by decide +kernel
theorem dX12_whoEats_16 : decode cX12_whoEats 16 = .ok (.iload 5, 2) := by decide +kernel
theorem dX12_whoEats_18 : decode cX12_whoEats 18 = .ok (.aload_n 0, 1) := by decide +kernel
theorem dX12_whoEats_19 : decode cX12_whoEats 19 = .ok (.getfield 20, 3) := by decide +kernel
theorem dX12_whoEats_22 : decode cX12_whoEats 22 = .ok (.iconst 4, 1) := by decide +kernel
theorem dX12_whoEats_23 : decode cX12_whoEats 23 = .ok (.iaload, 1) := by decide +kernel
theorem dX12_whoEats_24 : decode cX12_whoEats 24 = .ok (.if_icmp .ge 54, 3) := by decide +kernel
theorem dX12_whoEats_27 : decode cX12_whoEats 27 = .ok (.iload_n 3, 1) := by decide +kernel
theorem dX12_whoEats_28 : decode cX12_whoEats 28 = .ok (.ifCond .eq 44, 3) := by decide +kernel
theorem dX12_whoEats_31 : decode cX12_whoEats 31 = .ok (.aload_n 0, 1) := by decide +kernel
theorem dX12_whoEats_32 : decode cX12_whoEats 32 = .ok (.iload 5, 2) := by decide +kernel
theorem dX12_whoEats_34 : decode cX12_whoEats 34 = .ok (.invokevirtual 302, 3) := by decide +kernel
theorem dX12_whoEats_37 : decode cX12_whoEats 37 = .ok (.iconst 3, 1) := by decide +kernel
theorem dX12_whoEats_38 : decode cX12_whoEats 38 = .ok (.if_icmp .ne 7, 3) := by decide +kernel
theorem dX12_whoEats_41 : decode cX12_whoEats 41 = .ok (.iconst 1, 1) := by decide +kernel
theorem dX12_whoEats_42 : decode cX12_whoEats 42 = .ok (.goto 4, 3) := by decide +kernel
theorem dX12_whoEats_45 : decode cX12_whoEats 45 = .ok (.iconst 0, 1) := by decide +kernel
theorem dX12_whoEats_46 : decode cX12_whoEats 46 = .ok (.iload 4, 2) := by decide +kernel
theorem dX12_whoEats_48 : decode cX12_whoEats 48 = .ok (.ifCond .ne 7, 3) := by decide +kernel
theorem dX12_whoEats_51 : decode cX12_whoEats 51 = .ok (.iconst 1, 1) := by decide +kernel
theorem dX12_whoEats_52 : decode cX12_whoEats 52 = .ok (.goto 4, 3) := by decide +kernel
theorem dX12_whoEats_55 : decode cX12_whoEats 55 = .ok (.iconst 0, 1) := by decide +kernel
theorem dX12_whoEats_56 : decode cX12_whoEats 56 = .ok (.if_icmp .eq 6, 3) := by decide +kernel
theorem dX12_whoEats_59 : decode cX12_whoEats 59 = .ok (.goto 13, 3) := by decide +kernel
theorem dX12_whoEats_62 : decode cX12_whoEats 62 = .ok (.iload_n 2, 1) := by decide +kernel
theorem dX12_whoEats_63 : decode cX12_whoEats 63 = .ok (.iconst 1, 1) := by decide +kernel
theorem dX12_whoEats_64 : decode cX12_whoEats 64 = .ok (.iload 5, 2) := by decide +kernel
theorem dX12_whoEats_66 : decode cX12_whoEats 66 = .ok (.ishl, 1) := by decide +kernel
theorem dX12_whoEats_67 : decode cX12_whoEats 67 = .ok (.ior, 1) := by decide +kernel
theorem dX12_whoEats_68 : decode cX12_whoEats 68 = .ok (.istore_n 2, 1) := by decide +kernel
theorem dX12_whoEats_69 : decode cX12_whoEats 69 = .ok (.iinc 3 (-1), 3) := by decide +kernel
theorem dX12_whoEats_72 : decode cX12_whoEats 72 = .ok (.iinc 5 1, 3) := by decide +kernel
theorem dX12_whoEats_75 : decode cX12_whoEats 75 = .ok (.goto (-59), 3) := by decide +kernel
theorem dX12_whoEats_78 : decode cX12_whoEats 78 = .ok (.iinc 4 1, 3) := by decide +kernel
theorem dX12_whoEats_81 : decode cX12_whoEats 81 = .ok (.goto (-74), 3) := by decide +kernel
theorem dX12_whoEats_84 : decode cX12_whoEats 84 = .ok (.iload_n 2, 1) := by decide +kernel
theorem dX12_whoEats_85 : decode cX12_whoEats 85 = .ok (.ireturn, 1) := by decide +kernel
theorem dX12_fed_0 : decode cX12_fed 0 = .ok (.aload_n 0, 1) := by decide +kernel
theorem dX12_fed_1 : decode cX12_fed 1 = .ok (.invokevirtual 181, 3) := by decide +kernel
theorem dX12_fed_4 : decode cX12_fed 4 = .ok (.aload_n 0, 1) := by decide +kernel
theorem dX12_fed_5 : decode cX12_fed 5 = .ok (.getfield 194, 3) := by decide +kernel
theorem dX12_fed_8 : decode cX12_fed 8 = .ok (.ifCond .ne 9, 3) := by decide +kernel
theorem dX12_fed_11 : decode cX12_fed 11 = .ok (.aload_n 0, 1) := by decide +kernel
theorem dX12_fed_12 : decode cX12_fed 12 = .ok (.iconst 1, 1) := by decide +kernel
theorem dX12_fed_13 : decode cX12_fed 13 = .ok (.invokevirtual 184, 3) := by decide +kernel
theorem dX12_fed_16 : decode cX12_fed 16 = .ok (.ireturn, 1) := by decide +kernel
theorem dX12_fed_17 : decode cX12_fed 17 = .ok (.aload_n 0, 1) := by decide +kernel
theorem dX12_fed_18 : decode cX12_fed 18 = .ok (.getfield 20, 3) := by decide +kernel
theorem dX12_fed_21 : decode cX12_fed 21 = .ok (.iconst 4, 1) := by decide +kernel
theorem dX12_fed_22 : decode cX12_fed 22 = .ok (.iaload, 1) := by decide +kernel
theorem dX12_fed_23 : decode cX12_fed 23 = .ok (.ifCond .ne 8, 3) := by decide +kernel
theorem dX12_fed_26 : decode cX12_fed 26 = .ok (.bipush (-2), 2) := by decide +kernel
theorem dX12_fed_28 : decode cX12_fed 28 = .ok (.goto 17, 3) := by decide +kernel
theorem dX12_fed_31 : decode cX12_fed 31 = .ok (.aload_n 0, 1) := by decide +kernel
theorem dX12_fed_32 : decode cX12_fed 32 = .ok (.getfield 26, 3) := by decide +kernel
theorem dX12_fed_35 : decode cX12_fed 35 = .ok (.bipush 14, 2) := by decide +kernel
theorem dX12_fed_37 : decode cX12_fed 37 = .ok (.iaload, 1) := by decide +kernel
theorem dX12_fed_38 : decode cX12_fed 38 = .ok (.aload_n 0, 1) := by decide +kernel
theorem dX12_fed_39 : decode cX12_fed 39 = .ok (.getfield 20, 3) := by decide +kernel
theorem dX12_fed_42 : decode cX12_fed 42 = .ok (.iconst 4, 1) := by decide +kernel
theorem dX12_fed_43 : decode cX12_fed 43 = .ok (.iaload, 1) := by decide +kernel
theorem dX12_fed_44 : decode cX12_fed 44 = .ok (.idiv, 1) := by decide +kernel
theorem dX12_fed_45 : decode cX12_fed 45 = .ok (.ireturn, 1) := by decide +kernel
theorem dX12_eats_0 : decode cX12_eats 0 = .ok (.aload_n 0, 1) := by decide +kernel
theorem dX12_eats_1 : decode cX12_eats 1 = .ok (.invokevirtual 181, 3) := by decide +kernel
theorem dX12_eats_4 : decode cX12_eats 4 = .ok (.aload_n 0, 1) := by decide +kernel
theorem dX12_eats_5 : decode cX12_eats 5 = .ok (.iload_n 1, 1) := by decide +kernel
theorem dX12_eats_6 : decode cX12_eats 6 = .ok (.invokevirtual 318, 3) := by decide +kernel
theorem dX12_eats_9 : decode cX12_eats 9 = .ok (.ifCond .ne 9, 3) := by decide +kernel
theorem dX12_eats_12 : decode cX12_eats 12 = .ok (.aload_n 0, 1) := by decide +kernel
theorem dX12_eats_13 : decode cX12_eats 13 = .ok (.iconst 1, 1) := by decide +kernel
theorem dX12_eats_14 : decode cX12_eats 14 = .ok (.invokevirtual 184, 3) := by decide +kernel
theorem dX12_eats_17 : decode cX12_eats 17 = .ok (.ireturn, 1) := by decide +kernel
theorem dX12_eats_18 : decode cX12_eats 18 = .ok (.iload_n 2, 1) := by decide +kernel
theorem dX12_eats_19 : decode cX12_eats 19 = .ok (.iconst 0, 1) := by decide +kernel
theorem dX12_eats_20 : decode cX12_eats 20 = .ok (.bipush 99, 2) := by decide +kernel
theorem dX12_eats_22 : decode cX12_eats 22 = .ok (.invokestatic 160, 3) := by decide +kernel
theorem dX12_eats_25 : decode cX12_eats 25 = .ok (.ifCond .ne 9, 3) := by decide +kernel
theorem dX12_eats_28 : decode cX12_eats 28 = .ok (.aload_n 0, 1) := by decide +kernel
theorem dX12_eats_29 : decode cX12_eats 29 = .ok (.iconst 2, 1) := by decide +kernel
theorem dX12_eats_30 : decode cX12_eats 30 = .ok (.invokevirtual 184, 3) := by decide +kernel
theorem dX12_eats_33 : decode cX12_eats 33 = .ok (.ireturn, 1) := by decide +kernel
theorem dX12_eats_34 : decode cX12_eats 34 = .ok (.aload_n 0, 1) := by decide +kernel
theorem dX12_eats_35 : decode cX12_eats 35 = .ok (.getfield 26, 3) := by decide +kernel
theorem dX12_eats_38 : decode cX12_eats 38 = .ok (.bipush 14, 2) := by decide +kernel
theorem dX12_eats_40 : decode cX12_eats 40 = .ok (.iaload, 1) := by decide +kernel
theorem dX12_eats_41 : decode cX12_eats 41 = .ok (.istore_n 3, 1) := by decide +kernel
theorem dX12_eats_42 : decode cX12_eats 42 = .ok (.iconst 0, 1) := by decide +kernel
theorem dX12_eats_43 : decode cX12_eats 43 = .ok (.istore 4, 2) := by decide +kernel
theorem dX12_eats_45 : decode cX12_eats 45 = .ok (.iconst 0, 1) := by decide +kernel
theorem dX12_eats_46 : decode cX12_eats 46 = .ok (.istore 5, 2) := by decide +kernel
theorem dX12_eats_48 : decode cX12_eats 48 = .ok (.iload 5, 2) := by decide +kernel
theorem dX12_eats_50 : decode cX12_eats 50 = .ok (.iload_n 2, 1) := by decide +kernel
theorem dX12_eats_51 : decode cX12_eats 51 = .ok (.if_icmp .ge 43, 3) := by decide +kernel
theorem dX12_eats_54 : decode cX12_eats 54 = .ok (.aload_n 0, 1) := by decide +kernel
theorem dX12_eats_55 : decode cX12_eats 55 = .ok (.iload_n 3, 1) := by decide +kernel
theorem dX12_eats_56 : decode cX12_eats 56 = .ok (.invokevirtual 373, 3) := by decide +kernel
theorem dX12_eats_59 : decode cX12_eats 59 = .ok (.istore 6, 2) := by decide +kernel
theorem dX12_eats_61 : decode cX12_eats 61 = .ok (.iload 4, 2) := by decide +kernel
theorem dX12_eats_63 : decode cX12_eats 63 = .ok (.iload 6, 2) := by decide +kernel
theorem dX12_eats_65 : decode cX12_eats 65 = .ok (.iload_n 1, 1) := by decide +kernel
theorem dX12_eats_66 : decode cX12_eats 66 = .ok (.invokestatic 281, 3) := by decide +kernel
theorem dX12_eats_69 : decode cX12_eats 69 = .ok (.ifCond .eq 7, 3) := by decide +kernel
theorem dX12_eats_72 : decode cX12_eats 72 = .ok (.iconst 1, 1) := by decide +kernel
theorem dX12_eats_73 : decode cX12_eats 73 = .ok (.goto 4, 3) := by decide +kernel
theorem dX12_eats_76 : decode cX12_eats 76 = .ok (.iconst 0, 1) := by decide +kernel
theorem dX12_eats_77 : decode cX12_eats 77 = .ok (.iadd, 1) := by decide +kernel
theorem dX12_eats_78 : decode cX12_eats 78 = .ok (.istore 4, 2) := by decide +kernel
theorem dX12_eats_80 : decode cX12_eats 80 = .ok (.iload_n 3, 1) := by decide +kernel
theorem dX12_eats_81 : decode cX12_eats 81 = .ok (.iload 6, 2) := by decide +kernel
theorem dX12_eats_83 : decode cX12_eats 83 = .ok (.invokestatic 299, 3) := by decide +kernel
theorem dX12_eats_86 : decode cX12_eats 86 = .ok (.isub, 1) := by decide +kernel
theorem dX12_eats_87 : decode cX12_eats 87 = .ok (.istore_n 3, 1) := by decide +kernel
theorem dX12_eats_88 : decode cX12_eats 88 = .ok (.iinc 5 1, 3) := by decide +kernel
theorem dX12_eats_91 : decode cX12_eats 91 = .ok (.goto (-43), 3) := by decide +kernel
theorem dX12_eats_94 : decode cX12_eats 94 = .ok (.iload 4, 2) := by decide +kernel
theorem dX12_eats_96 : decode cX12_eats 96 = .ok (.ireturn, 1) := by decide +kernel
theorem dX12_left_0 : decode cX12_left 0 = .ok (.aload_n 0, 1) := by decide +kernel
theorem dX12_left_1 : decode cX12_left 1 = .ok (.invokevirtual 181, 3) := by decide +kernel
theorem dX12_left_4 : decode cX12_left 4 = .ok (.aload_n 0, 1) := by decide +kernel
theorem dX12_left_5 : decode cX12_left 5 = .ok (.getfield 194, 3) := by decide +kernel
theorem dX12_left_8 : decode cX12_left 8 = .ok (.ifCond .ne 9, 3) := by decide +kernel
theorem dX12_left_11 : decode cX12_left 11 = .ok (.aload_n 0, 1) := by decide +kernel
theorem dX12_left_12 : decode cX12_left 12 = .ok (.iconst 1, 1) := by decide +kernel
theorem dX12_left_13 : decode cX12_left 13 = .ok (.invokevirtual 184, 3) := by decide +kernel
theorem dX12_left_16 : decode cX12_left 16 = .ok (.ireturn, 1) := by decide +kernel
theorem dX12_left_17 : decode cX12_left 17 = .ok (.iload_n 1, 1) := by decide +kernel
theorem dX12_left_18 : decode cX12_left 18 = .ok (.iconst 0, 1) := by decide +kernel
theorem dX12_left_19 : decode cX12_left 19 = .ok (.bipush 99, 2) := by decide +kernel
theorem dX12_left_21 : decode cX12_left 21 = .ok (.invokestatic 160, 3) := by decide +kernel
theorem dX12_left_24 : decode cX12_left 24 = .ok (.ifCond .ne 9, 3) := by decide +kernel
theorem dX12_left_27 : decode cX12_left 27 = .ok (.aload_n 0, 1) := by decide +kernel
theorem dX12_left_28 : decode cX12_left 28 = .ok (.iconst 2, 1) := by decide +kernel
theorem dX12_left_29 : decode cX12_left 29 = .ok (.invokevirtual 184, 3) := by decide +kernel
theorem dX12_left_32 : decode cX12_left 32 = .ok (.ireturn, 1) := by decide +kernel
theorem dX12_left_33 : decode cX12_left 33 = .ok (.aload_n 0, 1) := by decide +kernel
theorem dX12_left_34 : decode cX12_left 34 = .ok (.getfield 26, 3) := by decide +kernel
theorem dX12_left_37 : decode cX12_left 37 = .ok (.bipush 14, 2) := by decide +kernel
theorem dX12_left_39 : decode cX12_left 39 = .ok (.iaload, 1) := by decide +kernel
theorem dX12_left_40 : decode cX12_left 40 = .ok (.iload_n 1, 1) := by decide +kernel
theorem dX12_left_41 : decode cX12_left 41 = .ok (.aload_n 0, 1) := by decide +kernel
theorem dX12_left_42 : decode cX12_left 42 = .ok (.getfield 20, 3) := by decide +kernel
theorem dX12_left_45 : decode cX12_left 45 = .ok (.iconst 4, 1) := by decide +kernel
theorem dX12_left_46 : decode cX12_left 46 = .ok (.iaload, 1) := by decide +kernel
theorem dX12_left_47 : decode cX12_left 47 = .ok (.imul, 1) := by decide +kernel
theorem dX12_left_48 : decode cX12_left 48 = .ok (.isub, 1) := by decide +kernel
theorem dX12_left_49 : decode cX12_left 49 = .ok (.istore_n 2, 1) := by decide +kernel
theorem dX12_left_50 : decode cX12_left 50 = .ok (.iload_n 2, 1) := by decide +kernel
theorem dX12_left_51 : decode cX12_left 51 = .ok (.ifCond .ge 7, 3) := by decide +kernel
theorem dX12_left_54 : decode cX12_left 54 = .ok (.iconst 0, 1) := by decide +kernel
theorem dX12_left_55 : decode cX12_left 55 = .ok (.goto 4, 3) := by decide +kernel
theorem dX12_left_58 : decode cX12_left 58 = .ok (.iload_n 2, 1) := by decide +kernel
theorem dX12_left_59 : decode cX12_left 59 = .ok (.ireturn, 1) := by decide +kernel
theorem dX12_comesAt_0 : decode cX12_comesAt 0 = .ok (.iload_n 2, 1) := by decide +kernel
theorem dX12_comesAt_1 : decode cX12_comesAt 1 = .ok (.iload_n 0, 1) := by decide +kernel
theorem dX12_comesAt_2 : decode cX12_comesAt 2 = .ok (.irem, 1) := by decide +kernel
theorem dX12_comesAt_3 : decode cX12_comesAt 3 = .ok (.iload_n 1, 1) := by decide +kernel
theorem dX12_comesAt_4 : decode cX12_comesAt 4 = .ok (.if_icmp .ne 7, 3) := by decide +kernel
theorem dX12_comesAt_7 : decode cX12_comesAt 7 = .ok (.iconst 1, 1) := by decide +kernel
theorem dX12_comesAt_8 : decode cX12_comesAt 8 = .ok (.goto 4, 3) := by decide +kernel
theorem dX12_comesAt_11 : decode cX12_comesAt 11 = .ok (.iconst 0, 1) := by decide +kernel
theorem dX12_comesAt_12 : decode cX12_comesAt 12 = .ok (.ireturn, 1) := by decide +kernel
theorem dX12_doesFit_0 : decode cX12_doesFit 0 = .ok (.iconst 1, 1) := by decide +kernel
theorem dX12_doesFit_1 : decode cX12_doesFit 1 = .ok (.istore_n 3, 1) := by decide +kernel
theorem dX12_doesFit_2 : decode cX12_doesFit 2 = .ok (.iconst 0, 1) := by decide +kernel
theorem dX12_doesFit_3 : decode cX12_doesFit 3 = .ok (.istore 4, 2) := by decide +kernel
theorem dX12_doesFit_5 : decode cX12_doesFit 5 = .ok (.iload 4, 2) := by decide +kernel
theorem dX12_doesFit_7 : decode cX12_doesFit 7 = .ok (.bipush 100, 2) := by decide +kernel
theorem dX12_doesFit_9 : decode cX12_doesFit 9 = .ok (.if_icmp .ge 67, 3) := by decide +kernel
theorem dX12_doesFit_12 : decode cX12_doesFit 12 = .ok (.iload_n 3, 1) := by decide +kernel
theorem dX12_doesFit_13 : decode cX12_doesFit 13 = .ok (.ifCond .eq 55, 3) := by decide +kernel
theorem dX12_doesFit_16 : decode cX12_doesFit 16 = .ok (.aload_n 0, 1) := by decide +kernel
theorem dX12_doesFit_17 : decode cX12_doesFit 17 = .ok (.getfield 20, 3) := by decide +kernel
theorem dX12_doesFit_20 : decode cX12_doesFit 20 = .ok (.bipush 126, 2) := by decide +kernel
theorem dX12_doesFit_22 : decode cX12_doesFit 22 = .ok (.iload 4, 2) := by decide +kernel
theorem dX12_doesFit_24 : decode cX12_doesFit 24 = .ok (.iadd, 1) := by decide +kernel
theorem dX12_doesFit_25 : decode cX12_doesFit 25 = .ok (.iaload, 1) := by decide +kernel
theorem dX12_doesFit_26 : decode cX12_doesFit 26 = .ok (.iconst 1, 1) := by decide +kernel
theorem dX12_doesFit_27 : decode cX12_doesFit 27 = .ok (.if_icmp .ne 13, 3) := by decide +kernel
theorem dX12_doesFit_30 : decode cX12_doesFit 30 = .ok (.iload_n 1, 1) := by decide +kernel
theorem dX12_doesFit_31 : decode cX12_doesFit 31 = .ok (.iload_n 2, 1) := by decide +kernel
theorem dX12_doesFit_32 : decode cX12_doesFit 32 = .ok (.iload 4, 2) := by decide +kernel
theorem dX12_doesFit_34 : decode cX12_doesFit 34 = .ok (.invokestatic 376, 3) := by decide +kernel
theorem dX12_doesFit_37 : decode cX12_doesFit 37 = .ok (.ifCond .eq 31, 3) := by decide +kernel
theorem dX12_doesFit_40 : decode cX12_doesFit 40 = .ok (.aload_n 0, 1) := by decide +kernel
theorem dX12_doesFit_41 : decode cX12_doesFit 41 = .ok (.getfield 20, 3) := by decide +kernel
theorem dX12_doesFit_44 : decode cX12_doesFit 44 = .ok (.bipush 126, 2) := by decide +kernel
theorem dX12_doesFit_46 : decode cX12_doesFit 46 = .ok (.iload 4, 2) := by decide +kernel
theorem dX12_doesFit_48 : decode cX12_doesFit 48 = .ok (.iadd, 1) := by decide +kernel
theorem dX12_doesFit_49 : decode cX12_doesFit 49 = .ok (.iaload, 1) := by decide +kernel
theorem dX12_doesFit_50 : decode cX12_doesFit 50 = .ok (.iconst 2, 1) := by decide +kernel
theorem dX12_doesFit_51 : decode cX12_doesFit 51 = .ok (.if_icmp .ne 13, 3) := by decide +kernel
theorem dX12_doesFit_54 : decode cX12_doesFit 54 = .ok (.iload_n 1, 1) := by decide +kernel
theorem dX12_doesFit_55 : decode cX12_doesFit 55 = .ok (.iload_n 2, 1) := by decide +kernel
theorem dX12_doesFit_56 : decode cX12_doesFit 56 = .ok (.iload 4, 2) := by decide +kernel
theorem dX12_doesFit_58 : decode cX12_doesFit 58 = .ok (.invokestatic 376, 3) := by decide +kernel
theorem dX12_doesFit_61 : decode cX12_doesFit 61 = .ok (.ifCond .ne 7, 3) := by decide +kernel
theorem dX12_doesFit_64 : decode cX12_doesFit 64 = .ok (.iconst 1, 1) := by decide +kernel
theorem dX12_doesFit_65 : decode cX12_doesFit 65 = .ok (.goto 4, 3) := by decide +kernel
theorem dX12_doesFit_68 : decode cX12_doesFit 68 = .ok (.iconst 0, 1) := by decide +kernel
theorem dX12_doesFit_69 : decode cX12_doesFit 69 = .ok (.istore_n 3, 1) := by decide +kernel
theorem dX12_doesFit_70 : decode cX12_doesFit 70 = .ok (.iinc 4 1, 3) := by decide +kernel
theorem dX12_doesFit_73 : decode cX12_doesFit 73 = .ok (.goto (-68), 3) := by decide +kernel
theorem dX12_doesFit_76 : decode cX12_doesFit 76 = .ok (.iload_n 3, 1) := by decide +kernel
theorem dX12_doesFit_77 : decode cX12_doesFit 77 = .ok (.ireturn, 1) := by decide +kernel
theorem dX12_fitting_0 : decode cX12_fitting 0 = .ok (.iconst 0, 1) := by decide +kernel
theorem dX12_fitting_1 : decode cX12_fitting 1 = .ok (.istore_n 3, 1) := by decide +kernel
theorem dX12_fitting_2 : decode cX12_fitting 2 = .ok (.iconst 2, 1) := by decide +kernel
theorem dX12_fitting_3 : decode cX12_fitting 3 = .ok (.istore 4, 2) := by decide +kernel
theorem dX12_fitting_5 : decode cX12_fitting 5 = .ok (.iload 4, 2) := by decide +kernel
theorem dX12_fitting_7 : decode cX12_fitting 7 = .ok (.bipush 12, 2) := by decide +kernel
theorem dX12_fitting_9 : decode cX12_fitting 9 = .ok (.if_icmp .gt 59, 3) := by decide +kernel
theorem dX12_fitting_12 : decode cX12_fitting 12 = .ok (.iconst 0, 1) := by decide +kernel
theorem dX12_fitting_13 : decode cX12_fitting 13 = .ok (.istore 5, 2) := by decide +kernel
theorem dX12_fitting_15 : decode cX12_fitting 15 = .ok (.iload 5, 2) := by decide +kernel
theorem dX12_fitting_17 : decode cX12_fitting 17 = .ok (.iload 4, 2) := by decide +kernel
theorem dX12_fitting_19 : decode cX12_fitting 19 = .ok (.if_icmp .ge 43, 3) := by decide +kernel
theorem dX12_fitting_22 : decode cX12_fitting 22 = .ok (.iload_n 3, 1) := by decide +kernel
theorem dX12_fitting_23 : decode cX12_fitting 23 = .ok (.aload_n 0, 1) := by decide +kernel
theorem dX12_fitting_24 : decode cX12_fitting 24 = .ok (.iload 4, 2) := by decide +kernel
theorem dX12_fitting_26 : decode cX12_fitting 26 = .ok (.iload 5, 2) := by decide +kernel
theorem dX12_fitting_28 : decode cX12_fitting 28 = .ok (.invokevirtual 379, 3) := by decide +kernel
theorem dX12_fitting_31 : decode cX12_fitting 31 = .ok (.ifCond .eq 22, 3) := by decide +kernel
theorem dX12_fitting_34 : decode cX12_fitting 34 = .ok (.iload_n 2, 1) := by decide +kernel
theorem dX12_fitting_35 : decode cX12_fitting 35 = .ok (.ifCond .ne 14, 3) := by decide +kernel
theorem dX12_fitting_38 : decode cX12_fitting 38 = .ok (.iload 4, 2) := by decide +kernel
theorem dX12_fitting_40 : decode cX12_fitting 40 = .ok (.iload 5, 2) := by decide +kernel
theorem dX12_fitting_42 : decode cX12_fitting 42 = .ok (.iload_n 1, 1) := by decide +kernel
theorem dX12_fitting_43 : decode cX12_fitting 43 = .ok (.invokestatic 376, 3) := by decide +kernel
theorem dX12_fitting_46 : decode cX12_fitting 46 = .ok (.ifCond .eq 7, 3) := by decide +kernel
theorem dX12_fitting_49 : decode cX12_fitting 49 = .ok (.iconst 1, 1) := by decide +kernel
theorem dX12_fitting_50 : decode cX12_fitting 50 = .ok (.goto 4, 3) := by decide +kernel
theorem dX12_fitting_53 : decode cX12_fitting 53 = .ok (.iconst 0, 1) := by decide +kernel
theorem dX12_fitting_54 : decode cX12_fitting 54 = .ok (.iadd, 1) := by decide +kernel
theorem dX12_fitting_55 : decode cX12_fitting 55 = .ok (.istore_n 3, 1) := by decide +kernel
theorem dX12_fitting_56 : decode cX12_fitting 56 = .ok (.iinc 5 1, 3) := by decide +kernel
theorem dX12_fitting_59 : decode cX12_fitting 59 = .ok (.goto (-44), 3) := by decide +kernel
theorem dX12_fitting_62 : decode cX12_fitting 62 = .ok (.iinc 4 1, 3) := by decide +kernel
theorem dX12_fitting_65 : decode cX12_fitting 65 = .ok (.goto (-60), 3) := by decide +kernel
theorem dX12_fitting_68 : decode cX12_fitting 68 = .ok (.iload_n 3, 1) := by decide +kernel
theorem dX12_fitting_69 : decode cX12_fitting 69 = .ok (.ireturn, 1) := by decide +kernel
theorem dX12_trains_0 : decode cX12_trains 0 = .ok (.aload_n 0, 1) := by decide +kernel
theorem dX12_trains_1 : decode cX12_trains 1 = .ok (.invokevirtual 181, 3) := by decide +kernel
theorem dX12_trains_4 : decode cX12_trains 4 = .ok (.aload_n 0, 1) := by decide +kernel
theorem dX12_trains_5 : decode cX12_trains 5 = .ok (.getfield 194, 3) := by decide +kernel
theorem dX12_trains_8 : decode cX12_trains 8 = .ok (.ifCond .eq 12, 3) := by decide +kernel
theorem dX12_trains_11 : decode cX12_trains 11 = .ok (.aload_n 0, 1) := by decide +kernel
theorem dX12_trains_12 : decode cX12_trains 12 = .ok (.iconst 0, 1) := by decide +kernel
theorem dX12_trains_13 : decode cX12_trains 13 = .ok (.iconst 1, 1) := by decide +kernel
theorem dX12_trains_14 : decode cX12_trains 14 = .ok (.invokevirtual 382, 3) := by decide +kernel
theorem dX12_trains_17 : decode cX12_trains 17 = .ok (.goto 8, 3) := by decide +kernel
theorem dX12_trains_20 : decode cX12_trains 20 = .ok (.aload_n 0, 1) := by decide +kernel
theorem dX12_trains_21 : decode cX12_trains 21 = .ok (.iconst 1, 1) := by decide +kernel
theorem dX12_trains_22 : decode cX12_trains 22 = .ok (.invokevirtual 184, 3) := by decide +kernel
theorem dX12_trains_25 : decode cX12_trains 25 = .ok (.ireturn, 1) := by decide +kernel
theorem dX12_trainAt_0 : decode cX12_trainAt 0 = .ok (.aload_n 0, 1) := by decide +kernel
theorem dX12_trainAt_1 : decode cX12_trainAt 1 = .ok (.invokevirtual 181, 3) := by decide +kernel
theorem dX12_trainAt_4 : decode cX12_trainAt 4 = .ok (.aload_n 0, 1) := by decide +kernel
theorem dX12_trainAt_5 : decode cX12_trainAt 5 = .ok (.getfield 194, 3) := by decide +kernel
theorem dX12_trainAt_8 : decode cX12_trainAt 8 = .ok (.ifCond .ne 9, 3) := by decide +kernel
theorem dX12_trainAt_11 : decode cX12_trainAt 11 = .ok (.aload_n 0, 1) := by decide +kernel
theorem dX12_trainAt_12 : decode cX12_trainAt 12 = .ok (.iconst 1, 1) := by decide +kernel
theorem dX12_trainAt_13 : decode cX12_trainAt 13 = .ok (.invokevirtual 184, 3) := by decide +kernel
theorem dX12_trainAt_16 : decode cX12_trainAt 16 = .ok (.ireturn, 1) := by decide +kernel
theorem dX12_trainAt_17 : decode cX12_trainAt 17 = .ok (.iconst 0, 1) := by decide +kernel
theorem dX12_trainAt_18 : decode cX12_trainAt 18 = .ok (.istore_n 2, 1) := by decide +kernel
theorem dX12_trainAt_19 : decode cX12_trainAt 19 = .ok (.iconst 2, 1) := by decide +kernel
theorem dX12_trainAt_20 : decode cX12_trainAt 20 = .ok (.istore_n 3, 1) := by decide +kernel
theorem dX12_trainAt_21 : decode cX12_trainAt 21 = .ok (.iload_n 3, 1) := by decide +kernel
theorem dX12_trainAt_22 : decode cX12_trainAt 22 = .ok (.bipush 12, 2) := by decide +kernel
theorem dX12_trainAt_24 : decode cX12_trainAt 24 = .ok (.if_icmp .gt 53, 3) := by decide +kernel
theorem dX12_trainAt_27 : decode cX12_trainAt 27 = .ok (.iconst 0, 1) := by decide +kernel
theorem dX12_trainAt_28 : decode cX12_trainAt 28 = .ok (.istore 4, 2) := by decide +kernel
theorem dX12_trainAt_30 : decode cX12_trainAt 30 = .ok (.iload 4, 2) := by decide +kernel
theorem dX12_trainAt_32 : decode cX12_trainAt 32 = .ok (.iload_n 3, 1) := by decide +kernel
theorem dX12_trainAt_33 : decode cX12_trainAt 33 = .ok (.if_icmp .ge 38, 3) := by decide +kernel
theorem dX12_trainAt_36 : decode cX12_trainAt 36 = .ok (.aload_n 0, 1) := by decide +kernel
theorem dX12_trainAt_37 : decode cX12_trainAt 37 = .ok (.iload_n 3, 1) := by decide +kernel
theorem dX12_trainAt_38 : decode cX12_trainAt 38 = .ok (.iload 4, 2) := by decide +kernel
theorem dX12_trainAt_40 : decode cX12_trainAt 40 = .ok (.invokevirtual 379, 3) := by decide +kernel
theorem dX12_trainAt_43 : decode cX12_trainAt 43 = .ok (.ifCond .ne 6, 3) := by decide +kernel
theorem dX12_trainAt_46 : decode cX12_trainAt 46 = .ok (.goto 19, 3) := by decide +kernel
theorem dX12_trainAt_49 : decode cX12_trainAt 49 = .ok (.iload_n 2, 1) := by decide +kernel
theorem dX12_trainAt_50 : decode cX12_trainAt 50 = .ok (.iload_n 1, 1) := by decide +kernel
theorem dX12_trainAt_51 : decode cX12_trainAt 51 = .ok (.if_icmp .ne 11, 3) := by decide +kernel
theorem dX12_trainAt_54 : decode cX12_trainAt 54 = .ok (.bipush 100, 2) := by decide +kernel
theorem dX12_trainAt_56 : decode cX12_trainAt 56 = .ok (.iload_n 3, 1) := by decide +kernel
theorem dX12_trainAt_57 : decode cX12_trainAt 57 = .ok (.imul, 1) := by decide +kernel
theorem dX12_trainAt_58 : decode cX12_trainAt 58 = .ok (.iload 4, 2) := by decide +kernel
theorem dX12_trainAt_60 : decode cX12_trainAt 60 = .ok (.iadd, 1) := by decide +kernel
theorem dX12_trainAt_61 : decode cX12_trainAt 61 = .ok (.ireturn, 1) := by decide +kernel
theorem dX12_trainAt_62 : decode cX12_trainAt 62 = .ok (.iinc 2 1, 3) := by decide +kernel
theorem dX12_trainAt_65 : decode cX12_trainAt 65 = .ok (.iinc 4 1, 3) := by decide +kernel
theorem dX12_trainAt_68 : decode cX12_trainAt 68 = .ok (.goto (-38), 3) := by decide +kernel
theorem dX12_trainAt_71 : decode cX12_trainAt 71 = .ok (.iinc 3 1, 3) := by decide +kernel
theorem dX12_trainAt_74 : decode cX12_trainAt 74 = .ok (.goto (-53), 3) := by decide +kernel
theorem dX12_trainAt_77 : decode cX12_trainAt 77 = .ok (.aload_n 0, 1) := by decide +kernel
theorem dX12_trainAt_78 : decode cX12_trainAt 78 = .ok (.iconst 1, 1) := by decide +kernel
theorem dX12_trainAt_79 : decode cX12_trainAt 79 = .ok (.invokevirtual 184, 3) := by decide +kernel
theorem dX12_trainAt_82 : decode cX12_trainAt 82 = .ok (.ireturn, 1) := by decide +kernel
theorem dX12_comes_0 : decode cX12_comes 0 = .ok (.aload_n 0, 1) := by decide +kernel
theorem dX12_comes_1 : decode cX12_comes 1 = .ok (.invokevirtual 181, 3) := by decide +kernel
theorem dX12_comes_4 : decode cX12_comes 4 = .ok (.aload_n 0, 1) := by decide +kernel
theorem dX12_comes_5 : decode cX12_comes 5 = .ok (.getfield 194, 3) := by decide +kernel
theorem dX12_comes_8 : decode cX12_comes 8 = .ok (.ifCond .ne 9, 3) := by decide +kernel
theorem dX12_comes_11 : decode cX12_comes 11 = .ok (.aload_n 0, 1) := by decide +kernel
theorem dX12_comes_12 : decode cX12_comes 12 = .ok (.iconst 1, 1) := by decide +kernel
theorem dX12_comes_13 : decode cX12_comes 13 = .ok (.invokevirtual 184, 3) := by decide +kernel
theorem dX12_comes_16 : decode cX12_comes 16 = .ok (.ireturn, 1) := by decide +kernel
theorem dX12_comes_17 : decode cX12_comes 17 = .ok (.iload_n 1, 1) := by decide +kernel
theorem dX12_comes_18 : decode cX12_comes 18 = .ok (.iconst 0, 1) := by decide +kernel
theorem dX12_comes_19 : decode cX12_comes 19 = .ok (.bipush 99, 2) := by decide +kernel
theorem dX12_comes_21 : decode cX12_comes 21 = .ok (.invokestatic 160, 3) := by decide +kernel
theorem dX12_comes_24 : decode cX12_comes 24 = .ok (.ifCond .eq 12, 3) := by decide +kernel
theorem dX12_comes_27 : decode cX12_comes 27 = .ok (.aload_n 0, 1) := by decide +kernel
theorem dX12_comes_28 : decode cX12_comes 28 = .ok (.iload_n 1, 1) := by decide +kernel
theorem dX12_comes_29 : decode cX12_comes 29 = .ok (.iconst 0, 1) := by decide +kernel
theorem dX12_comes_30 : decode cX12_comes 30 = .ok (.invokevirtual 382, 3) := by decide +kernel
theorem dX12_comes_33 : decode cX12_comes 33 = .ok (.goto 8, 3) := by decide +kernel
theorem dX12_comes_36 : decode cX12_comes 36 = .ok (.aload_n 0, 1) := by decide +kernel
theorem dX12_comes_37 : decode cX12_comes 37 = .ok (.iconst 2, 1) := by decide +kernel
theorem dX12_comes_38 : decode cX12_comes 38 = .ok (.invokevirtual 184, 3) := by decide +kernel
theorem dX12_comes_41 : decode cX12_comes 41 = .ok (.ireturn, 1) := by decide +kernel
theorem dX12_surely_0 : decode cX12_surely 0 = .ok (.aload_n 0, 1) := by decide +kernel
theorem dX12_surely_1 : decode cX12_surely 1 = .ok (.invokevirtual 181, 3) := by decide +kernel
theorem dX12_surely_4 : decode cX12_surely 4 = .ok (.aload_n 0, 1) := by decide +kernel
theorem dX12_surely_5 : decode cX12_surely 5 = .ok (.getfield 194, 3) := by decide +kernel
theorem dX12_surely_8 : decode cX12_surely 8 = .ok (.ifCond .ne 9, 3) := by decide +kernel
theorem dX12_surely_11 : decode cX12_surely 11 = .ok (.aload_n 0, 1) := by decide +kernel
theorem dX12_surely_12 : decode cX12_surely 12 = .ok (.iconst 1, 1) := by decide +kernel
theorem dX12_surely_13 : decode cX12_surely 13 = .ok (.invokevirtual 184, 3) := by decide +kernel
theorem dX12_surely_16 : decode cX12_surely 16 = .ok (.ireturn, 1) := by decide +kernel
theorem dX12_surely_17 : decode cX12_surely 17 = .ok (.iload_n 1, 1) := by decide +kernel
theorem dX12_surely_18 : decode cX12_surely 18 = .ok (.iconst 0, 1) := by decide +kernel
theorem dX12_surely_19 : decode cX12_surely 19 = .ok (.bipush 99, 2) := by decide +kernel
theorem dX12_surely_21 : decode cX12_surely 21 = .ok (.invokestatic 160, 3) := by decide +kernel
theorem dX12_surely_24 : decode cX12_surely 24 = .ok (.ifCond .ne 9, 3) := by decide +kernel
theorem dX12_surely_27 : decode cX12_surely 27 = .ok (.aload_n 0, 1) := by decide +kernel
theorem dX12_surely_28 : decode cX12_surely 28 = .ok (.iconst 2, 1) := by decide +kernel
theorem dX12_surely_29 : decode cX12_surely 29 = .ok (.invokevirtual 184, 3) := by decide +kernel
theorem dX12_surely_32 : decode cX12_surely 32 = .ok (.ireturn, 1) := by decide +kernel
theorem dX12_surely_33 : decode cX12_surely 33 = .ok (.aload_n 0, 1) := by decide +kernel
theorem dX12_surely_34 : decode cX12_surely 34 = .ok (.iconst 0, 1) := by decide +kernel
theorem dX12_surely_35 : decode cX12_surely 35 = .ok (.iconst 1, 1) := by decide +kernel
theorem dX12_surely_36 : decode cX12_surely 36 = .ok (.invokevirtual 382, 3) := by decide +kernel
theorem dX12_surely_39 : decode cX12_surely 39 = .ok (.istore_n 2, 1) := by decide +kernel
theorem dX12_surely_40 : decode cX12_surely 40 = .ok (.iload_n 1, 1) := by decide +kernel
theorem dX12_surely_41 : decode cX12_surely 41 = .ok (.istore_n 3, 1) := by decide +kernel
theorem dX12_surely_42 : decode cX12_surely 42 = .ok (.iload_n 3, 1) := by decide +kernel
theorem dX12_surely_43 : decode cX12_surely 43 = .ok (.bipush 100, 2) := by decide +kernel
theorem dX12_surely_45 : decode cX12_surely 45 = .ok (.if_icmp .ge 25, 3) := by decide +kernel
theorem dX12_surely_48 : decode cX12_surely 48 = .ok (.iload_n 2, 1) := by decide +kernel
theorem dX12_surely_49 : decode cX12_surely 49 = .ok (.ifCond .le 15, 3) := by decide +kernel
theorem dX12_surely_52 : decode cX12_surely 52 = .ok (.aload_n 0, 1) := by decide +kernel
theorem dX12_surely_53 : decode cX12_surely 53 = .ok (.iload_n 3, 1) := by decide +kernel
theorem dX12_surely_54 : decode cX12_surely 54 = .ok (.iconst 0, 1) := by decide +kernel
theorem dX12_surely_55 : decode cX12_surely 55 = .ok (.invokevirtual 382, 3) := by decide +kernel
theorem dX12_surely_58 : decode cX12_surely 58 = .ok (.iload_n 2, 1) := by decide +kernel
theorem dX12_surely_59 : decode cX12_surely 59 = .ok (.if_icmp .ne 5, 3) := by decide +kernel
theorem dX12_surely_62 : decode cX12_surely 62 = .ok (.iload_n 3, 1) := by decide +kernel
theorem dX12_surely_63 : decode cX12_surely 63 = .ok (.ireturn, 1) := by decide +kernel
theorem dX12_surely_64 : decode cX12_surely 64 = .ok (.iinc 3 1, 3) := by decide +kernel
theorem dX12_surely_67 : decode cX12_surely 67 = .ok (.goto (-25), 3) := by decide +kernel
theorem dX12_surely_70 : decode cX12_surely 70 = .ok (.bipush (-2), 2) := by decide +kernel
theorem dX12_surely_72 : decode cX12_surely 72 = .ok (.ireturn, 1) := by decide +kernel
theorem dX12_leavesAt_0 : decode cX12_leavesAt 0 = .ok (.aload_n 0, 1) := by decide +kernel
theorem dX12_leavesAt_1 : decode cX12_leavesAt 1 = .ok (.iload_n 1, 1) := by decide +kernel
theorem dX12_leavesAt_2 : decode cX12_leavesAt 2 = .ok (.iconst 0, 1) := by decide +kernel
theorem dX12_leavesAt_3 : decode cX12_leavesAt 3 = .ok (.invokevirtual 382, 3) := by decide +kernel
theorem dX12_leavesAt_6 : decode cX12_leavesAt 6 = .ok (.istore_n 2, 1) := by decide +kernel
theorem dX12_leavesAt_7 : decode cX12_leavesAt 7 = .ok (.aload_n 0, 1) := by decide +kernel
theorem dX12_leavesAt_8 : decode cX12_leavesAt 8 = .ok (.iconst 0, 1) := by decide +kernel
theorem dX12_leavesAt_9 : decode cX12_leavesAt 9 = .ok (.iconst 1, 1) := by decide +kernel
theorem dX12_leavesAt_10 : decode cX12_leavesAt 10 = .ok (.invokevirtual 382, 3) := by decide +kernel
theorem dX12_leavesAt_13 : decode cX12_leavesAt 13 = .ok (.iload_n 2, 1) := by decide +kernel
theorem dX12_leavesAt_14 : decode cX12_leavesAt 14 = .ok (.isub, 1) := by decide +kernel
theorem dX12_leavesAt_15 : decode cX12_leavesAt 15 = .ok (.istore_n 3, 1) := by decide +kernel
theorem dX12_leavesAt_16 : decode cX12_leavesAt 16 = .ok (.iload_n 2, 1) := by decide +kernel
theorem dX12_leavesAt_17 : decode cX12_leavesAt 17 = .ok (.iload_n 3, 1) := by decide +kernel
theorem dX12_leavesAt_18 : decode cX12_leavesAt 18 = .ok (.if_icmp .le 7, 3) := by decide +kernel
theorem dX12_leavesAt_21 : decode cX12_leavesAt 21 = .ok (.iload_n 2, 1) := by decide +kernel
theorem dX12_leavesAt_22 : decode cX12_leavesAt 22 = .ok (.goto 4, 3) := by decide +kernel
theorem dX12_leavesAt_25 : decode cX12_leavesAt 25 = .ok (.iload_n 3, 1) := by decide +kernel
theorem dX12_leavesAt_26 : decode cX12_leavesAt 26 = .ok (.ireturn, 1) := by decide +kernel
theorem dX12_listenOf_0 : decode cX12_listenOf 0 = .ok (.aload_n 0, 1) := by decide +kernel
theorem dX12_listenOf_1 : decode cX12_listenOf 1 = .ok (.iconst 0, 1) := by decide +kernel
theorem dX12_listenOf_2 : decode cX12_listenOf 2 = .ok (.iconst 1, 1) := by decide +kernel
theorem dX12_listenOf_3 : decode cX12_listenOf 3 = .ok (.invokevirtual 382, 3) := by decide +kernel
theorem dX12_listenOf_6 : decode cX12_listenOf 6 = .ok (.ifCond .ne 6, 3) := by decide +kernel
theorem dX12_listenOf_9 : decode cX12_listenOf 9 = .ok (.bipush (-2), 2) := by decide +kernel
theorem dX12_listenOf_11 : decode cX12_listenOf 11 = .ok (.ireturn, 1) := by decide +kernel
theorem dX12_listenOf_12 : decode cX12_listenOf 12 = .ok (.iconst 0, 1) := by decide +kernel
theorem dX12_listenOf_13 : decode cX12_listenOf 13 = .ok (.istore_n 1, 1) := by decide +kernel
theorem dX12_listenOf_14 : decode cX12_listenOf 14 = .ok (.aload_n 0, 1) := by decide +kernel
theorem dX12_listenOf_15 : decode cX12_listenOf 15 = .ok (.iconst 0, 1) := by decide +kernel
theorem dX12_listenOf_16 : decode cX12_listenOf 16 = .ok (.invokevirtual 386, 3) := by decide +kernel
theorem dX12_listenOf_19 : decode cX12_listenOf 19 = .ok (.istore_n 2, 1) := by decide +kernel
theorem dX12_listenOf_20 : decode cX12_listenOf 20 = .ok (.iconst 1, 1) := by decide +kernel
theorem dX12_listenOf_21 : decode cX12_listenOf 21 = .ok (.istore_n 3, 1) := by decide +kernel
theorem dX12_listenOf_22 : decode cX12_listenOf 22 = .ok (.iload_n 3, 1) := by decide +kernel
theorem dX12_listenOf_23 : decode cX12_listenOf 23 = .ok (.bipush 100, 2) := by decide +kernel
theorem dX12_listenOf_25 : decode cX12_listenOf 25 = .ok (.if_icmp .ge 30, 3) := by decide +kernel
theorem dX12_listenOf_28 : decode cX12_listenOf 28 = .ok (.aload_n 0, 1) := by decide +kernel
theorem dX12_listenOf_29 : decode cX12_listenOf 29 = .ok (.iload_n 3, 1) := by decide +kernel
theorem dX12_listenOf_30 : decode cX12_listenOf 30 = .ok (.invokevirtual 386, 3) := by decide +kernel
theorem dX12_listenOf_33 : decode cX12_listenOf 33 = .ok (.istore 4, 2) := by decide +kernel
theorem dX12_listenOf_35 : decode cX12_listenOf 35 = .ok (.iload 4, 2) := by decide +kernel
theorem dX12_listenOf_37 : decode cX12_listenOf 37 = .ok (.iload_n 2, 1) := by decide +kernel
theorem dX12_listenOf_38 : decode cX12_listenOf 38 = .ok (.if_icmp .lt 6, 3) := by decide +kernel
theorem dX12_listenOf_41 : decode cX12_listenOf 41 = .ok (.goto 8, 3) := by decide +kernel
theorem dX12_listenOf_44 : decode cX12_listenOf 44 = .ok (.iload_n 3, 1) := by decide +kernel
theorem dX12_listenOf_45 : decode cX12_listenOf 45 = .ok (.istore_n 1, 1) := by decide +kernel
theorem dX12_listenOf_46 : decode cX12_listenOf 46 = .ok (.iload 4, 2) := by decide +kernel
theorem dX12_listenOf_48 : decode cX12_listenOf 48 = .ok (.istore_n 2, 1) := by decide +kernel
theorem dX12_listenOf_49 : decode cX12_listenOf 49 = .ok (.iinc 3 1, 3) := by decide +kernel
theorem dX12_listenOf_52 : decode cX12_listenOf 52 = .ok (.goto (-30), 3) := by decide +kernel
theorem dX12_listenOf_55 : decode cX12_listenOf 55 = .ok (.iload_n 1, 1) := by decide +kernel
theorem dX12_listenOf_56 : decode cX12_listenOf 56 = .ok (.ireturn, 1) := by decide +kernel
theorem dX12_listen_0 : decode cX12_listen 0 = .ok (.aload_n 0, 1) := by decide +kernel
theorem dX12_listen_1 : decode cX12_listen 1 = .ok (.invokevirtual 181, 3) := by decide +kernel
theorem dX12_listen_4 : decode cX12_listen 4 = .ok (.aload_n 0, 1) := by decide +kernel
theorem dX12_listen_5 : decode cX12_listen 5 = .ok (.getfield 194, 3) := by decide +kernel
theorem dX12_listen_8 : decode cX12_listen 8 = .ok (.ifCond .eq 10, 3) := by decide +kernel
theorem dX12_listen_11 : decode cX12_listen 11 = .ok (.aload_n 0, 1) := by decide +kernel
theorem dX12_listen_12 : decode cX12_listen 12 = .ok (.invokevirtual 389, 3) := by decide +kernel
theorem dX12_listen_15 : decode cX12_listen 15 = .ok (.goto 8, 3) := by decide +kernel
theorem dX12_listen_18 : decode cX12_listen 18 = .ok (.aload_n 0, 1) := by decide +kernel
theorem dX12_listen_19 : decode cX12_listen 19 = .ok (.iconst 1, 1) := by decide +kernel
theorem dX12_listen_20 : decode cX12_listen 20 = .ok (.invokevirtual 184, 3) := by decide +kernel
theorem dX12_listen_23 : decode cX12_listen 23 = .ok (.ireturn, 1) := by decide +kernel
theorem dX12_listenLeaves_0 : decode cX12_listenLeaves 0 = .ok (.aload_n 0, 1) := by decide +kernel
theorem dX12_listenLeaves_1 : decode cX12_listenLeaves 1 = .ok (.invokevirtual 181, 3) := by decide +kernel
theorem dX12_listenLeaves_4 : decode cX12_listenLeaves 4 = .ok (.aload_n 0, 1) := by decide +kernel
theorem dX12_listenLeaves_5 : decode cX12_listenLeaves 5 = .ok (.getfield 194, 3) := by decide +kernel
theorem dX12_listenLeaves_8 : decode cX12_listenLeaves 8 = .ok (.ifCond .ne 9, 3) := by decide +kernel
theorem dX12_listenLeaves_11 : decode cX12_listenLeaves 11 = .ok (.aload_n 0, 1) := by decide +kernel
theorem dX12_listenLeaves_12 : decode cX12_listenLeaves 12 = .ok (.iconst 1, 1) := by decide +kernel
theorem dX12_listenLeaves_13 : decode cX12_listenLeaves 13 = .ok (.invokevirtual 184, 3) := by decide +kernel
theorem dX12_listenLeaves_16 : decode cX12_listenLeaves 16 = .ok (.ireturn, 1) := by decide +kernel
theorem dX12_listenLeaves_17 : decode cX12_listenLeaves 17 = .ok (.aload_n 0, 1) := by decide +kernel
theorem dX12_listenLeaves_18 : decode cX12_listenLeaves 18 = .ok (.invokevirtual 389, 3) := by decide +kernel
theorem dX12_listenLeaves_21 : decode cX12_listenLeaves 21 = .ok (.istore_n 1, 1) := by decide +kernel
theorem dX12_listenLeaves_22 : decode cX12_listenLeaves 22 = .ok (.iload_n 1, 1) := by decide +kernel
theorem dX12_listenLeaves_23 : decode cX12_listenLeaves 23 = .ok (.ifCond .ge 8, 3) := by decide +kernel
theorem dX12_listenLeaves_26 : decode cX12_listenLeaves 26 = .ok (.bipush (-2), 2) := by decide +kernel
theorem dX12_listenLeaves_28 : decode cX12_listenLeaves 28 = .ok (.goto 8, 3) := by decide +kernel
theorem dX12_listenLeaves_31 : decode cX12_listenLeaves 31 = .ok (.aload_n 0, 1) := by decide +kernel
theorem dX12_listenLeaves_32 : decode cX12_listenLeaves 32 = .ok (.iload_n 1, 1) := by decide +kernel
theorem dX12_listenLeaves_33 : decode cX12_listenLeaves 33 = .ok (.invokevirtual 386, 3) := by decide +kernel
theorem dX12_listenLeaves_36 : decode cX12_listenLeaves 36 = .ok (.ireturn, 1) := by decide +kernel
theorem dX12_drawnBy_0 : decode cX12_drawnBy 0 = .ok (.iconst 0, 1) := by decide +kernel
theorem dX12_drawnBy_1 : decode cX12_drawnBy 1 = .ok (.istore 4, 2) := by decide +kernel
theorem dX12_drawnBy_3 : decode cX12_drawnBy 3 = .ok (.iconst 0, 1) := by decide +kernel
theorem dX12_drawnBy_4 : decode cX12_drawnBy 4 = .ok (.istore 5, 2) := by decide +kernel
theorem dX12_drawnBy_6 : decode cX12_drawnBy 6 = .ok (.iload 5, 2) := by decide +kernel
theorem dX12_drawnBy_8 : decode cX12_drawnBy 8 = .ok (.aload_n 0, 1) := by decide +kernel
theorem dX12_drawnBy_9 : decode cX12_drawnBy 9 = .ok (.getfield 20, 3) := by decide +kernel
theorem dX12_drawnBy_12 : decode cX12_drawnBy 12 = .ok (.iconst 4, 1) := by decide +kernel
theorem dX12_drawnBy_13 : decode cX12_drawnBy 13 = .ok (.iaload, 1) := by decide +kernel
theorem dX12_drawnBy_14 : decode cX12_drawnBy 14 = .ok (.if_icmp .ge 36, 3) := by decide +kernel
theorem dX12_drawnBy_17 : decode cX12_drawnBy 17 = .ok (.iload 4, 2) := by decide +kernel
theorem dX12_drawnBy_19 : decode cX12_drawnBy 19 = .ok (.aload_n 1, 1) := by decide +kernel
theorem dX12_drawnBy_20 : decode cX12_drawnBy 20 = .ok (.iload_n 2, 1) := by decide +kernel
theorem dX12_drawnBy_21 : decode cX12_drawnBy 21 = .ok (.iload 5, 2) := by decide +kernel
theorem dX12_drawnBy_23 : decode cX12_drawnBy 23 = .ok (.iadd, 1) := by decide +kernel
theorem dX12_drawnBy_24 : decode cX12_drawnBy 24 = .ok (.iaload, 1) := by decide +kernel
theorem dX12_drawnBy_25 : decode cX12_drawnBy 25 = .ok (.aload_n 0, 1) := by decide +kernel
theorem dX12_drawnBy_26 : decode cX12_drawnBy 26 = .ok (.getfield 20, 3) := by decide +kernel
theorem dX12_drawnBy_29 : decode cX12_drawnBy 29 = .ok (.bipush 77, 2) := by decide +kernel
theorem dX12_drawnBy_31 : decode cX12_drawnBy 31 = .ok (.bipush 7, 2) := by decide +kernel
theorem dX12_drawnBy_33 : decode cX12_drawnBy 33 = .ok (.iload_n 3, 1) := by decide +kernel
theorem dX12_drawnBy_34 : decode cX12_drawnBy 34 = .ok (.imul, 1) := by decide +kernel
theorem dX12_drawnBy_35 : decode cX12_drawnBy 35 = .ok (.iadd, 1) := by decide +kernel
theorem dX12_drawnBy_36 : decode cX12_drawnBy 36 = .ok (.iload 5, 2) := by decide +kernel
theorem dX12_drawnBy_38 : decode cX12_drawnBy 38 = .ok (.iadd, 1) := by decide +kernel
theorem dX12_drawnBy_39 : decode cX12_drawnBy 39 = .ok (.iaload, 1) := by decide +kernel
theorem dX12_drawnBy_40 : decode cX12_drawnBy 40 = .ok (.imul, 1) := by decide +kernel
theorem dX12_drawnBy_41 : decode cX12_drawnBy 41 = .ok (.iadd, 1) := by decide +kernel
theorem dX12_drawnBy_42 : decode cX12_drawnBy 42 = .ok (.istore 4, 2) := by decide +kernel
theorem dX12_drawnBy_44 : decode cX12_drawnBy 44 = .ok (.iinc 5 1, 3) := by decide +kernel
theorem dX12_drawnBy_47 : decode cX12_drawnBy 47 = .ok (.goto (-41), 3) := by decide +kernel
theorem dX12_drawnBy_50 : decode cX12_drawnBy 50 = .ok (.iload 4, 2) := by decide +kernel
theorem dX12_drawnBy_52 : decode cX12_drawnBy 52 = .ok (.ireturn, 1) := by decide +kernel
theorem dX12_roundOf_0 : decode cX12_roundOf 0 = .ok (.aload_n 1, 1) := by decide +kernel
theorem dX12_roundOf_1 : decode cX12_roundOf 1 = .ok (.iload_n 2, 1) := by decide +kernel
theorem dX12_roundOf_2 : decode cX12_roundOf 2 = .ok (.aload_n 0, 1) := by decide +kernel
theorem dX12_roundOf_3 : decode cX12_roundOf 3 = .ok (.getfield 56, 3) := by decide +kernel
theorem dX12_roundOf_6 : decode cX12_roundOf 6 = .ok (.iconst 0, 1) := by decide +kernel
theorem dX12_roundOf_7 : decode cX12_roundOf 7 = .ok (.bipush 7, 2) := by decide +kernel
theorem dX12_roundOf_9 : decode cX12_roundOf 9 = .ok (.invokestatic 190, 3) := by decide +kernel
theorem dX12_roundOf_12 : decode cX12_roundOf 12 = .ok (.iconst 0, 1) := by decide +kernel
theorem dX12_roundOf_13 : decode cX12_roundOf 13 = .ok (.istore_n 3, 1) := by decide +kernel
theorem dX12_roundOf_14 : decode cX12_roundOf 14 = .ok (.iconst 0, 1) := by decide +kernel
theorem dX12_roundOf_15 : decode cX12_roundOf 15 = .ok (.istore 4, 2) := by decide +kernel
theorem dX12_roundOf_17 : decode cX12_roundOf 17 = .ok (.iload 4, 2) := by decide +kernel
theorem dX12_roundOf_19 : decode cX12_roundOf 19 = .ok (.aload_n 0, 1) := by decide +kernel
theorem dX12_roundOf_20 : decode cX12_roundOf 20 = .ok (.getfield 20, 3) := by decide +kernel
theorem dX12_roundOf_23 : decode cX12_roundOf 23 = .ok (.iconst 4, 1) := by decide +kernel
theorem dX12_roundOf_24 : decode cX12_roundOf 24 = .ok (.iaload, 1) := by decide +kernel
theorem dX12_roundOf_25 : decode cX12_roundOf 25 = .ok (.if_icmp .ge 134, 3) := by decide +kernel
theorem dX12_roundOf_28 : decode cX12_roundOf 28 = .ok (.aload_n 0, 1) := by decide +kernel
theorem dX12_roundOf_29 : decode cX12_roundOf 29 = .ok (.aload_n 0, 1) := by decide +kernel
theorem dX12_roundOf_30 : decode cX12_roundOf 30 = .ok (.getfield 56, 3) := by decide +kernel
theorem dX12_roundOf_33 : decode cX12_roundOf 33 = .ok (.iconst 0, 1) := by decide +kernel
theorem dX12_roundOf_34 : decode cX12_roundOf 34 = .ok (.iload 4, 2) := by decide +kernel
theorem dX12_roundOf_36 : decode cX12_roundOf 36 = .ok (.invokevirtual 392, 3) := by decide +kernel
theorem dX12_roundOf_39 : decode cX12_roundOf 39 = .ok (.istore 5, 2) := by decide +kernel
theorem dX12_roundOf_41 : decode cX12_roundOf 41 = .ok (.aload_n 0, 1) := by decide +kernel
theorem dX12_roundOf_42 : decode cX12_roundOf 42 = .ok (.iload 4, 2) := by decide +kernel
theorem dX12_roundOf_44 : decode cX12_roundOf 44 = .ok (.invokevirtual 302, 3) := by decide +kernel
theorem dX12_roundOf_47 : decode cX12_roundOf 47 = .ok (.iconst 2, 1) := by decide +kernel
theorem dX12_roundOf_48 : decode cX12_roundOf 48 = .ok (.if_icmp .ne 14, 3) := by decide +kernel
theorem dX12_roundOf_51 : decode cX12_roundOf 51 = .ok (.aload_n 0, 1) := by decide +kernel
theorem dX12_roundOf_52 : decode cX12_roundOf 52 = .ok (.getfield 56, 3) := by decide +kernel
theorem dX12_roundOf_55 : decode cX12_roundOf 55 = .ok (.iload 4, 2) := by decide +kernel
theorem dX12_roundOf_57 : decode cX12_roundOf 57 = .ok (.iaload, 1) := by decide +kernel
theorem dX12_roundOf_58 : decode cX12_roundOf 58 = .ok (.iconst 1, 1) := by decide +kernel
theorem dX12_roundOf_59 : decode cX12_roundOf 59 = .ok (.if_icmp .eq 29, 3) := by decide +kernel
theorem dX12_roundOf_62 : decode cX12_roundOf 62 = .ok (.aload_n 0, 1) := by decide +kernel
theorem dX12_roundOf_63 : decode cX12_roundOf 63 = .ok (.iload 4, 2) := by decide +kernel
theorem dX12_roundOf_65 : decode cX12_roundOf 65 = .ok (.invokevirtual 302, 3) := by decide +kernel
theorem dX12_roundOf_68 : decode cX12_roundOf 68 = .ok (.iconst 1, 1) := by decide +kernel
theorem dX12_roundOf_69 : decode cX12_roundOf 69 = .ok (.if_icmp .ne 14, 3) := by decide +kernel
theorem dX12_roundOf_72 : decode cX12_roundOf 72 = .ok (.aload_n 0, 1) := by decide +kernel
theorem dX12_roundOf_73 : decode cX12_roundOf 73 = .ok (.getfield 56, 3) := by decide +kernel
theorem dX12_roundOf_76 : decode cX12_roundOf 76 = .ok (.iload 4, 2) := by decide +kernel
theorem dX12_roundOf_78 : decode cX12_roundOf 78 = .ok (.iaload, 1) := by decide +kernel
theorem dX12_roundOf_79 : decode cX12_roundOf 79 = .ok (.iconst (-1), 1) := by decide +kernel
theorem dX12_roundOf_80 : decode cX12_roundOf 80 = .ok (.if_icmp .eq 8, 3) := by decide +kernel
theorem dX12_roundOf_83 : decode cX12_roundOf 83 = .ok (.iload 5, 2) := by decide +kernel
theorem dX12_roundOf_85 : decode cX12_roundOf 85 = .ok (.ifCond .ne 7, 3) := by decide +kernel
theorem dX12_roundOf_88 : decode cX12_roundOf 88 = .ok (.iconst 1, 1) := by decide +kernel
theorem dX12_roundOf_89 : decode cX12_roundOf 89 = .ok (.goto 4, 3) := by decide +kernel
theorem dX12_roundOf_92 : decode cX12_roundOf 92 = .ok (.iconst 0, 1) := by decide +kernel
theorem dX12_roundOf_93 : decode cX12_roundOf 93 = .ok (.istore 6, 2) := by decide +kernel
theorem dX12_roundOf_95 : decode cX12_roundOf 95 = .ok (.iload 6, 2) := by decide +kernel
theorem dX12_roundOf_97 : decode cX12_roundOf 97 = .ok (.ifCond .eq 13, 3) := by decide +kernel
theorem dX12_roundOf_100 : decode cX12_roundOf 100 = .ok (.aload_n 0, 1) := by decide +kernel
theorem dX12_roundOf_101 : decode cX12_roundOf 101 = .ok (.getfield 56, 3) := by decide +kernel
theorem dX12_roundOf_104 : decode cX12_roundOf 104 = .ok (.iload 4, 2) := by decide +kernel
theorem dX12_roundOf_106 : decode cX12_roundOf 106 = .ok (.iaload, 1) := by decide +kernel
theorem dX12_roundOf_107 : decode cX12_roundOf 107 = .ok (.goto 13, 3) := by decide +kernel
theorem dX12_roundOf_110 : decode cX12_roundOf 110 = .ok (.iload 5, 2) := by decide +kernel
theorem dX12_roundOf_112 : decode cX12_roundOf 112 = .ok (.ifCond .le 7, 3) := by decide +kernel
theorem dX12_roundOf_115 : decode cX12_roundOf 115 = .ok (.iconst 1, 1) := by decide +kernel
theorem dX12_roundOf_116 : decode cX12_roundOf 116 = .ok (.goto 4, 3) := by decide +kernel
theorem dX12_roundOf_119 : decode cX12_roundOf 119 = .ok (.iconst (-1), 1) := by decide +kernel
theorem dX12_roundOf_120 : decode cX12_roundOf 120 = .ok (.istore 7, 2) := by decide +kernel
theorem dX12_roundOf_122 : decode cX12_roundOf 122 = .ok (.aload_n 1, 1) := by decide +kernel
theorem dX12_roundOf_123 : decode cX12_roundOf 123 = .ok (.iload_n 2, 1) := by decide +kernel
theorem dX12_roundOf_124 : decode cX12_roundOf 124 = .ok (.iload 4, 2) := by decide +kernel
theorem dX12_roundOf_126 : decode cX12_roundOf 126 = .ok (.iadd, 1) := by decide +kernel
theorem dX12_roundOf_127 : decode cX12_roundOf 127 = .ok (.iload 7, 2) := by decide +kernel
theorem dX12_roundOf_129 : decode cX12_roundOf 129 = .ok (.iastore, 1) := by decide +kernel
theorem dX12_roundOf_130 : decode cX12_roundOf 130 = .ok (.iload_n 3, 1) := by decide +kernel
theorem dX12_roundOf_131 : decode cX12_roundOf 131 = .ok (.iload 7, 2) := by decide +kernel
theorem dX12_roundOf_133 : decode cX12_roundOf 133 = .ok (.aload_n 0, 1) := by decide +kernel
theorem dX12_roundOf_134 : decode cX12_roundOf 134 = .ok (.getfield 56, 3) := by decide +kernel
theorem dX12_roundOf_137 : decode cX12_roundOf 137 = .ok (.iload 4, 2) := by decide +kernel
theorem dX12_roundOf_139 : decode cX12_roundOf 139 = .ok (.iaload, 1) := by decide +kernel
theorem dX12_roundOf_140 : decode cX12_roundOf 140 = .ok (.if_icmp .ne 7, 3) := by decide +kernel
theorem dX12_roundOf_143 : decode cX12_roundOf 143 = .ok (.iconst 0, 1) := by decide +kernel
theorem dX12_roundOf_144 : decode cX12_roundOf 144 = .ok (.goto 7, 3) := by decide +kernel
theorem dX12_roundOf_147 : decode cX12_roundOf 147 = .ok (.iconst 1, 1) := by decide +kernel
theorem dX12_roundOf_148 : decode cX12_roundOf 148 = .ok (.iload 4, 2) := by decide +kernel
theorem dX12_roundOf_150 : decode cX12_roundOf 150 = .ok (.ishl, 1) := by decide +kernel
theorem dX12_roundOf_151 : decode cX12_roundOf 151 = .ok (.ior, 1) := by decide +kernel
theorem dX12_roundOf_152 : decode cX12_roundOf 152 = .ok (.istore_n 3, 1) := by decide +kernel
theorem dX12_roundOf_153 : decode cX12_roundOf 153 = .ok (.iinc 4 1, 3) := by decide +kernel
theorem dX12_roundOf_156 : decode cX12_roundOf 156 = .ok (.goto (-139), 3) := by decide +kernel
theorem dX12_roundOf_159 : decode cX12_roundOf 159 = .ok (.iload_n 3, 1) := by decide +kernel
theorem dX12_roundOf_160 : decode cX12_roundOf 160 = .ok (.ireturn, 1) := by decide +kernel
theorem dX12_believing_0 : decode cX12_believing 0 = .ok (.iconst 0, 1) := by decide +kernel
theorem dX12_believing_1 : decode cX12_believing 1 = .ok (.istore_n 3, 1) := by decide +kernel
theorem dX12_believing_2 : decode cX12_believing 2 = .ok (.iconst 0, 1) := by decide +kernel
theorem dX12_believing_3 : decode cX12_believing 3 = .ok (.istore 4, 2) := by decide +kernel
theorem dX12_believing_5 : decode cX12_believing 5 = .ok (.iload 4, 2) := by decide +kernel
theorem dX12_believing_7 : decode cX12_believing 7 = .ok (.aload_n 0, 1) := by decide +kernel
theorem dX12_believing_8 : decode cX12_believing 8 = .ok (.getfield 20, 3) := by decide +kernel
theorem dX12_believing_11 : decode cX12_believing 11 = .ok (.iconst 4, 1) := by decide +kernel
theorem dX12_believing_12 : decode cX12_believing 12 = .ok (.iaload, 1) := by decide +kernel
theorem dX12_believing_13 : decode cX12_believing 13 = .ok (.if_icmp .ge 30, 3) := by decide +kernel
theorem dX12_believing_16 : decode cX12_believing 16 = .ok (.iload_n 3, 1) := by decide +kernel
theorem dX12_believing_17 : decode cX12_believing 17 = .ok (.aload_n 1, 1) := by decide +kernel
theorem dX12_believing_18 : decode cX12_believing 18 = .ok (.iload_n 2, 1) := by decide +kernel
theorem dX12_believing_19 : decode cX12_believing 19 = .ok (.iload 4, 2) := by decide +kernel
theorem dX12_believing_21 : decode cX12_believing 21 = .ok (.iadd, 1) := by decide +kernel
theorem dX12_believing_22 : decode cX12_believing 22 = .ok (.iaload, 1) := by decide +kernel
theorem dX12_believing_23 : decode cX12_believing 23 = .ok (.iconst 1, 1) := by decide +kernel
theorem dX12_believing_24 : decode cX12_believing 24 = .ok (.if_icmp .ne 10, 3) := by decide +kernel
theorem dX12_believing_27 : decode cX12_believing 27 = .ok (.iconst 1, 1) := by decide +kernel
theorem dX12_believing_28 : decode cX12_believing 28 = .ok (.iload 4, 2) := by decide +kernel
theorem dX12_believing_30 : decode cX12_believing 30 = .ok (.ishl, 1) := by decide +kernel
theorem dX12_believing_31 : decode cX12_believing 31 = .ok (.goto 4, 3) := by decide +kernel
theorem dX12_believing_34 : decode cX12_believing 34 = .ok (.iconst 0, 1) := by decide +kernel
theorem dX12_believing_35 : decode cX12_believing 35 = .ok (.ior, 1) := by decide +kernel
theorem dX12_believing_36 : decode cX12_believing 36 = .ok (.istore_n 3, 1) := by decide +kernel
theorem dX12_believing_37 : decode cX12_believing 37 = .ok (.iinc 4 1, 3) := by decide +kernel
theorem dX12_believing_40 : decode cX12_believing 40 = .ok (.goto (-35), 3) := by decide +kernel
theorem dX12_believing_43 : decode cX12_believing 43 = .ok (.iload_n 3, 1) := by decide +kernel
theorem dX12_believing_44 : decode cX12_believing 44 = .ok (.ireturn, 1) := by decide +kernel
theorem dX12_believersBy_0 : decode cX12_believersBy 0 = .ok (.aload_n 0, 1) := by decide +kernel
theorem dX12_believersBy_1 : decode cX12_believersBy 1 = .ok (.getfield 26, 3) := by decide +kernel
theorem dX12_believersBy_4 : decode cX12_believersBy 4 = .ok (.bipush 7, 2) := by decide +kernel
theorem dX12_believersBy_6 : decode cX12_believersBy 6 = .ok (.aload_n 0, 1) := by decide +kernel
theorem dX12_believersBy_7 : decode cX12_believersBy 7 = .ok (.getfield 53, 3) := by decide +kernel
theorem dX12_believersBy_10 : decode cX12_believersBy 10 = .ok (.iconst 0, 1) := by decide +kernel
theorem dX12_believersBy_11 : decode cX12_believersBy 11 = .ok (.bipush 7, 2) := by decide +kernel
theorem dX12_believersBy_13 : decode cX12_believersBy 13 = .ok (.invokestatic 190, 3) := by decide +kernel
theorem dX12_believersBy_16 : decode cX12_believersBy 16 = .ok (.iconst 0, 1) := by decide +kernel
theorem dX12_believersBy_17 : decode cX12_believersBy 17 = .ok (.istore_n 3, 1) := by decide +kernel
theorem dX12_believersBy_18 : decode cX12_believersBy 18 = .ok (.iload_n 3, 1) := by decide +kernel
theorem dX12_believersBy_19 : decode cX12_believersBy 19 = .ok (.aload_n 0, 1) := by decide +kernel
theorem dX12_believersBy_20 : decode cX12_believersBy 20 = .ok (.getfield 20, 3) := by decide +kernel
theorem dX12_believersBy_23 : decode cX12_believersBy 23 = .ok (.iconst 4, 1) := by decide +kernel
theorem dX12_believersBy_24 : decode cX12_believersBy 24 = .ok (.iaload, 1) := by decide +kernel
theorem dX12_believersBy_25 : decode cX12_believersBy 25 = .ok (.if_icmp .ge 33, 3) := by decide +kernel
theorem dX12_believersBy_28 : decode cX12_believersBy 28 = .ok (.aload_n 0, 1) := by decide +kernel
theorem dX12_believersBy_29 : decode cX12_believersBy 29 = .ok (.getfield 53, 3) := by decide +kernel
theorem dX12_believersBy_32 : decode cX12_believersBy 32 = .ok (.iload_n 3, 1) := by decide +kernel
theorem dX12_believersBy_33 : decode cX12_believersBy 33 = .ok (.iload_n 1, 1) := by decide +kernel
theorem dX12_believersBy_34 : decode cX12_believersBy 34 = .ok (.iload_n 3, 1) := by decide +kernel
theorem dX12_believersBy_35 : decode cX12_believersBy 35 = .ok (.invokestatic 281, 3) := by decide +kernel
theorem dX12_believersBy_38 : decode cX12_believersBy 38 = .ok (.ifCond .eq 7, 3) := by decide +kernel
theorem dX12_believersBy_41 : decode cX12_believersBy 41 = .ok (.iconst 1, 1) := by decide +kernel
theorem dX12_believersBy_42 : decode cX12_believersBy 42 = .ok (.goto 9, 3) := by decide +kernel
theorem dX12_believersBy_45 : decode cX12_believersBy 45 = .ok (.aload_n 0, 1) := by decide +kernel
theorem dX12_believersBy_46 : decode cX12_believersBy 46 = .ok (.getfield 53, 3) := by decide +kernel
theorem dX12_believersBy_49 : decode cX12_believersBy 49 = .ok (.iload_n 3, 1) := by decide +kernel
theorem dX12_believersBy_50 : decode cX12_believersBy 50 = .ok (.iaload, 1) := by decide +kernel
theorem dX12_believersBy_51 : decode cX12_believersBy 51 = .ok (.iastore, 1) := by decide +kernel
theorem dX12_believersBy_52 : decode cX12_believersBy 52 = .ok (.iinc 3 1, 3) := by decide +kernel
theorem dX12_believersBy_55 : decode cX12_believersBy 55 = .ok (.goto (-37), 3) := by decide +kernel
theorem dX12_believersBy_58 : decode cX12_believersBy 58 = .ok (.iconst 0, 1) := by decide +kernel
theorem dX12_believersBy_59 : decode cX12_believersBy 59 = .ok (.istore_n 3, 1) := by decide +kernel
theorem dX12_believersBy_60 : decode cX12_believersBy 60 = .ok (.iload_n 3, 1) := by decide +kernel
theorem dX12_believersBy_61 : decode cX12_believersBy 61 = .ok (.iload_n 2, 1) := by decide +kernel
theorem dX12_believersBy_62 : decode cX12_believersBy 62 = .ok (.if_icmp .ge 19, 3) := by decide +kernel
theorem dX12_believersBy_65 : decode cX12_believersBy 65 = .ok (.aload_n 0, 1) := by decide +kernel
theorem dX12_believersBy_66 : decode cX12_believersBy 66 = .ok (.aload_n 0, 1) := by decide +kernel
theorem dX12_believersBy_67 : decode cX12_believersBy 67 = .ok (.getfield 53, 3) := by decide +kernel
theorem dX12_believersBy_70 : decode cX12_believersBy 70 = .ok (.iconst 0, 1) := by decide +kernel
theorem dX12_believersBy_71 : decode cX12_believersBy 71 = .ok (.invokevirtual 396, 3) := by decide +kernel
theorem dX12_believersBy_74 : decode cX12_believersBy 74 = .ok (.pop, 1) := by decide +kernel
theorem dX12_believersBy_75 : decode cX12_believersBy 75 = .ok (.iinc 3 1, 3) := by decide +kernel
theorem dX12_believersBy_78 : decode cX12_believersBy 78 = .ok (.goto (-18), 3) := by decide +kernel
theorem dX12_believersBy_81 : decode cX12_believersBy 81 = .ok (.aload_n 0, 1) := by decide +kernel
theorem dX12_believersBy_82 : decode cX12_believersBy 82 = .ok (.aload_n 0, 1) := by decide +kernel
theorem dX12_believersBy_83 : decode cX12_believersBy 83 = .ok (.getfield 53, 3) := by decide +kernel
theorem dX12_believersBy_86 : decode cX12_believersBy 86 = .ok (.iconst 0, 1) := by decide +kernel
theorem dX12_believersBy_87 : decode cX12_believersBy 87 = .ok (.invokevirtual 399, 3) := by decide +kernel
theorem dX12_believersBy_90 : decode cX12_believersBy 90 = .ok (.ireturn, 1) := by decide +kernel
theorem dX12_drawn_0 : decode cX12_drawn 0 = .ok (.aload_n 0, 1) := by decide +kernel
theorem dX12_drawn_1 : decode cX12_drawn 1 = .ok (.invokevirtual 181, 3) := by decide +kernel
theorem dX12_drawn_4 : decode cX12_drawn 4 = .ok (.aload_n 0, 1) := by decide +kernel
theorem dX12_drawn_5 : decode cX12_drawn 5 = .ok (.iload_n 1, 1) := by decide +kernel
theorem dX12_drawn_6 : decode cX12_drawn 6 = .ok (.invokevirtual 318, 3) := by decide +kernel
theorem dX12_drawn_9 : decode cX12_drawn 9 = .ok (.ifCond .eq 17, 3) := by decide +kernel
theorem dX12_drawn_12 : decode cX12_drawn 12 = .ok (.aload_n 0, 1) := by decide +kernel
theorem dX12_drawn_13 : decode cX12_drawn 13 = .ok (.aload_n 0, 1) := by decide +kernel
theorem dX12_drawn_14 : decode cX12_drawn 14 = .ok (.getfield 26, 3) := by decide +kernel
theorem dX12_drawn_17 : decode cX12_drawn 17 = .ok (.bipush 7, 2) := by decide +kernel
theorem dX12_drawn_19 : decode cX12_drawn 19 = .ok (.iload_n 1, 1) := by decide +kernel
theorem dX12_drawn_20 : decode cX12_drawn 20 = .ok (.invokevirtual 392, 3) := by decide +kernel
theorem dX12_drawn_23 : decode cX12_drawn 23 = .ok (.goto 8, 3) := by decide +kernel
theorem dX12_drawn_26 : decode cX12_drawn 26 = .ok (.aload_n 0, 1) := by decide +kernel
theorem dX12_drawn_27 : decode cX12_drawn 27 = .ok (.iconst 1, 1) := by decide +kernel
theorem dX12_drawn_28 : decode cX12_drawn 28 = .ok (.invokevirtual 321, 3) := by decide +kernel
theorem dX12_drawn_31 : decode cX12_drawn 31 = .ok (.ireturn, 1) := by decide +kernel
theorem dX12_believers_0 : decode cX12_believers 0 = .ok (.aload_n 0, 1) := by decide +kernel
theorem dX12_believers_1 : decode cX12_believers 1 = .ok (.invokevirtual 181, 3) := by decide +kernel
theorem dX12_believers_4 : decode cX12_believers 4 = .ok (.aload_n 0, 1) := by decide +kernel
theorem dX12_believers_5 : decode cX12_believers 5 = .ok (.getfield 194, 3) := by decide +kernel
theorem dX12_believers_8 : decode cX12_believers 8 = .ok (.ifCond .ne 9, 3) := by decide +kernel
theorem dX12_believers_11 : decode cX12_believers 11 = .ok (.aload_n 0, 1) := by decide +kernel
theorem dX12_believers_12 : decode cX12_believers 12 = .ok (.iconst 1, 1) := by decide +kernel
theorem dX12_believers_13 : decode cX12_believers 13 = .ok (.invokevirtual 184, 3) := by decide +kernel
theorem dX12_believers_16 : decode cX12_believers 16 = .ok (.ireturn, 1) := by decide +kernel
theorem dX12_believers_17 : decode cX12_believers 17 = .ok (.iload_n 1, 1) := by decide +kernel
theorem dX12_believers_18 : decode cX12_believers 18 = .ok (.iconst 0, 1) := by decide +kernel
theorem dX12_believers_19 : decode cX12_believers 19 = .ok (.bipush 20, 2) := by decide +kernel
theorem dX12_believers_21 : decode cX12_believers 21 = .ok (.invokestatic 160, 3) := by decide +kernel
theorem dX12_believers_24 : decode cX12_believers 24 = .ok (.ifCond .eq 12, 3) := by decide +kernel
theorem dX12_believers_27 : decode cX12_believers 27 = .ok (.aload_n 0, 1) := by decide +kernel
theorem dX12_believers_28 : decode cX12_believers 28 = .ok (.iconst 0, 1) := by decide +kernel
theorem dX12_believers_29 : decode cX12_believers 29 = .ok (.iload_n 1, 1) := by decide +kernel
theorem dX12_believers_30 : decode cX12_believers 30 = .ok (.invokevirtual 402, 3) := by decide +kernel
theorem dX12_believers_33 : decode cX12_believers 33 = .ok (.goto 8, 3) := by decide +kernel
theorem dX12_believers_36 : decode cX12_believers 36 = .ok (.aload_n 0, 1) := by decide +kernel
theorem dX12_believers_37 : decode cX12_believers 37 = .ok (.iconst 2, 1) := by decide +kernel
theorem dX12_believers_38 : decode cX12_believers 38 = .ok (.invokevirtual 184, 3) := by decide +kernel
theorem dX12_believers_41 : decode cX12_believers 41 = .ok (.ireturn, 1) := by decide +kernel
theorem dX12_settled_0 : decode cX12_settled 0 = .ok (.aload_n 0, 1) := by decide +kernel
theorem dX12_settled_1 : decode cX12_settled 1 = .ok (.invokevirtual 181, 3) := by decide +kernel
theorem dX12_settled_4 : decode cX12_settled 4 = .ok (.aload_n 0, 1) := by decide +kernel
theorem dX12_settled_5 : decode cX12_settled 5 = .ok (.getfield 194, 3) := by decide +kernel
theorem dX12_settled_8 : decode cX12_settled 8 = .ok (.ifCond .ne 9, 3) := by decide +kernel
theorem dX12_settled_11 : decode cX12_settled 11 = .ok (.aload_n 0, 1) := by decide +kernel
theorem dX12_settled_12 : decode cX12_settled 12 = .ok (.iconst 1, 1) := by decide +kernel
theorem dX12_settled_13 : decode cX12_settled 13 = .ok (.invokevirtual 184, 3) := by decide +kernel
theorem dX12_settled_16 : decode cX12_settled 16 = .ok (.ireturn, 1) := by decide +kernel
theorem dX12_settled_17 : decode cX12_settled 17 = .ok (.aload_n 0, 1) := by decide +kernel
theorem dX12_settled_18 : decode cX12_settled 18 = .ok (.getfield 26, 3) := by decide +kernel
theorem dX12_settled_21 : decode cX12_settled 21 = .ok (.bipush 7, 2) := by decide +kernel
theorem dX12_settled_23 : decode cX12_settled 23 = .ok (.aload_n 0, 1) := by decide +kernel
theorem dX12_settled_24 : decode cX12_settled 24 = .ok (.getfield 53, 3) := by decide +kernel
theorem dX12_settled_27 : decode cX12_settled 27 = .ok (.iconst 0, 1) := by decide +kernel
theorem dX12_settled_28 : decode cX12_settled 28 = .ok (.bipush 7, 2) := by decide +kernel
theorem dX12_settled_30 : decode cX12_settled 30 = .ok (.invokestatic 190, 3) := by decide +kernel
theorem dX12_settled_33 : decode cX12_settled 33 = .ok (.iconst 0, 1) := by decide +kernel
theorem dX12_settled_34 : decode cX12_settled 34 = .ok (.istore_n 1, 1) := by decide +kernel
theorem dX12_settled_35 : decode cX12_settled 35 = .ok (.iload_n 1, 1) := by decide +kernel
theorem dX12_settled_36 : decode cX12_settled 36 = .ok (.bipush 20, 2) := by decide +kernel
theorem dX12_settled_38 : decode cX12_settled 38 = .ok (.if_icmp .gt 23, 3) := by decide +kernel
theorem dX12_settled_41 : decode cX12_settled 41 = .ok (.aload_n 0, 1) := by decide +kernel
theorem dX12_settled_42 : decode cX12_settled 42 = .ok (.aload_n 0, 1) := by decide +kernel
theorem dX12_settled_43 : decode cX12_settled 43 = .ok (.getfield 53, 3) := by decide +kernel
theorem dX12_settled_46 : decode cX12_settled 46 = .ok (.iconst 0, 1) := by decide +kernel
theorem dX12_settled_47 : decode cX12_settled 47 = .ok (.invokevirtual 396, 3) := by decide +kernel
theorem dX12_settled_50 : decode cX12_settled 50 = .ok (.ifCond .ne 5, 3) := by decide +kernel
theorem dX12_settled_53 : decode cX12_settled 53 = .ok (.iload_n 1, 1) := by decide +kernel
theorem dX12_settled_54 : decode cX12_settled 54 = .ok (.ireturn, 1) := by decide +kernel
theorem dX12_settled_55 : decode cX12_settled 55 = .ok (.iinc 1 1, 3) := by decide +kernel
theorem dX12_settled_58 : decode cX12_settled 58 = .ok (.goto (-23), 3) := by decide +kernel
theorem dX12_settled_61 : decode cX12_settled 61 = .ok (.bipush (-2), 2) := by decide +kernel
theorem dX12_settled_63 : decode cX12_settled 63 = .ok (.ireturn, 1) := by decide +kernel
theorem dX12_won_0 : decode cX12_won 0 = .ok (.aload_n 0, 1) := by decide +kernel
theorem dX12_won_1 : decode cX12_won 1 = .ok (.invokevirtual 181, 3) := by decide +kernel
theorem dX12_won_4 : decode cX12_won 4 = .ok (.aload_n 0, 1) := by decide +kernel
theorem dX12_won_5 : decode cX12_won 5 = .ok (.getfield 194, 3) := by decide +kernel
theorem dX12_won_8 : decode cX12_won 8 = .ok (.ifCond .ne 9, 3) := by decide +kernel
theorem dX12_won_11 : decode cX12_won 11 = .ok (.aload_n 0, 1) := by decide +kernel
theorem dX12_won_12 : decode cX12_won 12 = .ok (.iconst 1, 1) := by decide +kernel
theorem dX12_won_13 : decode cX12_won 13 = .ok (.invokevirtual 184, 3) := by decide +kernel
theorem dX12_won_16 : decode cX12_won 16 = .ok (.ireturn, 1) := by decide +kernel
theorem dX12_won_17 : decode cX12_won 17 = .ok (.iconst 1, 1) := by decide +kernel
theorem dX12_won_18 : decode cX12_won 18 = .ok (.aload_n 0, 1) := by decide +kernel
theorem dX12_won_19 : decode cX12_won 19 = .ok (.getfield 20, 3) := by decide +kernel
theorem dX12_won_22 : decode cX12_won 22 = .ok (.iconst 4, 1) := by decide +kernel
theorem dX12_won_23 : decode cX12_won 23 = .ok (.iaload, 1) := by decide +kernel
theorem dX12_won_24 : decode cX12_won 24 = .ok (.ishl, 1) := by decide +kernel
theorem dX12_won_25 : decode cX12_won 25 = .ok (.iconst 1, 1) := by decide +kernel
theorem dX12_won_26 : decode cX12_won 26 = .ok (.isub, 1) := by decide +kernel
theorem dX12_won_27 : decode cX12_won 27 = .ok (.istore_n 1, 1) := by decide +kernel
theorem dX12_won_28 : decode cX12_won 28 = .ok (.bipush (-2), 2) := by decide +kernel
theorem dX12_won_30 : decode cX12_won 30 = .ok (.istore_n 2, 1) := by decide +kernel
theorem dX12_won_31 : decode cX12_won 31 = .ok (.iconst 0, 1) := by decide +kernel
theorem dX12_won_32 : decode cX12_won 32 = .ok (.istore_n 3, 1) := by decide +kernel
theorem dX12_won_33 : decode cX12_won 33 = .ok (.iload_n 3, 1) := by decide +kernel
theorem dX12_won_34 : decode cX12_won 34 = .ok (.iload_n 1, 1) := by decide +kernel
theorem dX12_won_35 : decode cX12_won 35 = .ok (.if_icmp .gt 37, 3) := by decide +kernel
theorem dX12_won_38 : decode cX12_won 38 = .ok (.iload_n 2, 1) := by decide +kernel
theorem dX12_won_39 : decode cX12_won 39 = .ok (.ifCond .lt 14, 3) := by decide +kernel
theorem dX12_won_42 : decode cX12_won 42 = .ok (.iload_n 3, 1) := by decide +kernel
theorem dX12_won_43 : decode cX12_won 43 = .ok (.invokestatic 299, 3) := by decide +kernel
theorem dX12_won_46 : decode cX12_won 46 = .ok (.iload_n 2, 1) := by decide +kernel
theorem dX12_won_47 : decode cX12_won 47 = .ok (.invokestatic 299, 3) := by decide +kernel
theorem dX12_won_50 : decode cX12_won 50 = .ok (.if_icmp .ge 16, 3) := by decide +kernel
theorem dX12_won_53 : decode cX12_won 53 = .ok (.aload_n 0, 1) := by decide +kernel
theorem dX12_won_54 : decode cX12_won 54 = .ok (.iload_n 3, 1) := by decide +kernel
theorem dX12_won_55 : decode cX12_won 55 = .ok (.bipush 20, 2) := by decide +kernel
theorem dX12_won_57 : decode cX12_won 57 = .ok (.invokevirtual 402, 3) := by decide +kernel
theorem dX12_won_60 : decode cX12_won 60 = .ok (.iload_n 1, 1) := by decide +kernel
theorem dX12_won_61 : decode cX12_won 61 = .ok (.if_icmp .ne 5, 3) := by decide +kernel
theorem dX12_won_64 : decode cX12_won 64 = .ok (.iload_n 3, 1) := by decide +kernel
theorem dX12_won_65 : decode cX12_won 65 = .ok (.istore_n 2, 1) := by decide +kernel
theorem dX12_won_66 : decode cX12_won 66 = .ok (.iinc 3 1, 3) := by decide +kernel
theorem dX12_won_69 : decode cX12_won 69 = .ok (.goto (-36), 3) := by decide +kernel
theorem dX12_won_72 : decode cX12_won 72 = .ok (.iload_n 2, 1) := by decide +kernel
theorem dX12_won_73 : decode cX12_won 73 = .ok (.ireturn, 1) := by decide +kernel
theorem dX12_prophet_0 : decode cX12_prophet 0 = .ok (.aload_n 0, 1) := by decide +kernel
theorem dX12_prophet_1 : decode cX12_prophet 1 = .ok (.invokevirtual 181, 3) := by decide +kernel
theorem dX12_prophet_4 : decode cX12_prophet 4 = .ok (.aload_n 0, 1) := by decide +kernel
theorem dX12_prophet_5 : decode cX12_prophet 5 = .ok (.getfield 194, 3) := by decide +kernel
theorem dX12_prophet_8 : decode cX12_prophet 8 = .ok (.ifCond .ne 9, 3) := by decide +kernel
theorem dX12_prophet_11 : decode cX12_prophet 11 = .ok (.aload_n 0, 1) := by decide +kernel
theorem dX12_prophet_12 : decode cX12_prophet 12 = .ok (.iconst 1, 1) := by decide +kernel
theorem dX12_prophet_13 : decode cX12_prophet 13 = .ok (.invokevirtual 184, 3) := by decide +kernel
theorem dX12_prophet_16 : decode cX12_prophet 16 = .ok (.ireturn, 1) := by decide +kernel
theorem dX12_prophet_17 : decode cX12_prophet 17 = .ok (.bipush (-2), 2) := by decide +kernel
theorem dX12_prophet_19 : decode cX12_prophet 19 = .ok (.istore_n 1, 1) := by decide +kernel
theorem dX12_prophet_20 : decode cX12_prophet 20 = .ok (.iconst (-1), 1) := by decide +kernel
theorem dX12_prophet_21 : decode cX12_prophet 21 = .ok (.istore_n 2, 1) := by decide +kernel
theorem dX12_prophet_22 : decode cX12_prophet 22 = .ok (.iconst 0, 1) := by decide +kernel
theorem dX12_prophet_23 : decode cX12_prophet 23 = .ok (.istore_n 3, 1) := by decide +kernel
theorem dX12_prophet_24 : decode cX12_prophet 24 = .ok (.iload_n 3, 1) := by decide +kernel
theorem dX12_prophet_25 : decode cX12_prophet 25 = .ok (.aload_n 0, 1) := by decide +kernel
theorem dX12_prophet_26 : decode cX12_prophet 26 = .ok (.getfield 20, 3) := by decide +kernel
theorem dX12_prophet_29 : decode cX12_prophet 29 = .ok (.iconst 4, 1) := by decide +kernel
theorem dX12_prophet_30 : decode cX12_prophet 30 = .ok (.iaload, 1) := by decide +kernel
theorem dX12_prophet_31 : decode cX12_prophet 31 = .ok (.if_icmp .ge 37, 3) := by decide +kernel
theorem dX12_prophet_34 : decode cX12_prophet 34 = .ok (.aload_n 0, 1) := by decide +kernel
theorem dX12_prophet_35 : decode cX12_prophet 35 = .ok (.iconst 1, 1) := by decide +kernel
theorem dX12_prophet_36 : decode cX12_prophet 36 = .ok (.iload_n 3, 1) := by decide +kernel
theorem dX12_prophet_37 : decode cX12_prophet 37 = .ok (.ishl, 1) := by decide +kernel
theorem dX12_prophet_38 : decode cX12_prophet 38 = .ok (.bipush 20, 2) := by decide +kernel
theorem dX12_prophet_40 : decode cX12_prophet 40 = .ok (.invokevirtual 402, 3) := by decide +kernel
theorem dX12_prophet_43 : decode cX12_prophet 43 = .ok (.invokestatic 299, 3) := by decide +kernel
theorem dX12_prophet_46 : decode cX12_prophet 46 = .ok (.istore 4, 2) := by decide +kernel
theorem dX12_prophet_48 : decode cX12_prophet 48 = .ok (.iload 4, 2) := by decide +kernel
theorem dX12_prophet_50 : decode cX12_prophet 50 = .ok (.iload_n 2, 1) := by decide +kernel
theorem dX12_prophet_51 : decode cX12_prophet 51 = .ok (.if_icmp .gt 6, 3) := by decide +kernel
theorem dX12_prophet_54 : decode cX12_prophet 54 = .ok (.goto 8, 3) := by decide +kernel
theorem dX12_prophet_57 : decode cX12_prophet 57 = .ok (.iload_n 3, 1) := by decide +kernel
theorem dX12_prophet_58 : decode cX12_prophet 58 = .ok (.istore_n 1, 1) := by decide +kernel
theorem dX12_prophet_59 : decode cX12_prophet 59 = .ok (.iload 4, 2) := by decide +kernel
theorem dX12_prophet_61 : decode cX12_prophet 61 = .ok (.istore_n 2, 1) := by decide +kernel
theorem dX12_prophet_62 : decode cX12_prophet 62 = .ok (.iinc 3 1, 3) := by decide +kernel
theorem dX12_prophet_65 : decode cX12_prophet 65 = .ok (.goto (-41), 3) := by decide +kernel
theorem dX12_prophet_68 : decode cX12_prophet 68 = .ok (.iload_n 1, 1) := by decide +kernel
theorem dX12_prophet_69 : decode cX12_prophet 69 = .ok (.ireturn, 1) := by decide +kernel
theorem dX12_shoutOf_0 : decode cX12_shoutOf 0 = .ok (.iload_n 1, 1) := by decide +kernel
theorem dX12_shoutOf_1 : decode cX12_shoutOf 1 = .ok (.iload_n 2, 1) := by decide +kernel
theorem dX12_shoutOf_2 : decode cX12_shoutOf 2 = .ok (.if_icmp .le 7, 3) := by decide +kernel
theorem dX12_shoutOf_5 : decode cX12_shoutOf 5 = .ok (.iload_n 0, 1) := by decide +kernel
theorem dX12_shoutOf_6 : decode cX12_shoutOf 6 = .ok (.goto 15, 3) := by decide +kernel
theorem dX12_shoutOf_9 : decode cX12_shoutOf 9 = .ok (.iload_n 1, 1) := by decide +kernel
theorem dX12_shoutOf_10 : decode cX12_shoutOf 10 = .ok (.iload_n 2, 1) := by decide +kernel
theorem dX12_shoutOf_11 : decode cX12_shoutOf 11 = .ok (.if_icmp .ne 9, 3) := by decide +kernel
theorem dX12_shoutOf_14 : decode cX12_shoutOf 14 = .ok (.iload_n 0, 1) := by decide +kernel
theorem dX12_shoutOf_15 : decode cX12_shoutOf 15 = .ok (.iconst 2, 1) := by decide +kernel
theorem dX12_shoutOf_16 : decode cX12_shoutOf 16 = .ok (.idiv, 1) := by decide +kernel
theorem dX12_shoutOf_17 : decode cX12_shoutOf 17 = .ok (.goto 4, 3) := by decide +kernel
theorem dX12_shoutOf_20 : decode cX12_shoutOf 20 = .ok (.iconst 0, 1) := by decide +kernel
theorem dX12_shoutOf_21 : decode cX12_shoutOf 21 = .ok (.iconst 2, 1) := by decide +kernel
theorem dX12_shoutOf_22 : decode cX12_shoutOf 22 = .ok (.iload_n 1, 1) := by decide +kernel
theorem dX12_shoutOf_23 : decode cX12_shoutOf 23 = .ok (.imul, 1) := by decide +kernel
theorem dX12_shoutOf_24 : decode cX12_shoutOf 24 = .ok (.isub, 1) := by decide +kernel
theorem dX12_shoutOf_25 : decode cX12_shoutOf 25 = .ok (.ireturn, 1) := by decide +kernel
theorem dX12_manyWhy_0 : decode cX12_manyWhy 0 = .ok (.aload_n 0, 1) := by decide +kernel
theorem dX12_manyWhy_1 : decode cX12_manyWhy 1 = .ok (.getfield 194, 3) := by decide +kernel
theorem dX12_manyWhy_4 : decode cX12_manyWhy 4 = .ok (.ifCond .ne 7, 3) := by decide +kernel
theorem dX12_manyWhy_7 : decode cX12_manyWhy 7 = .ok (.iconst 1, 1) := by decide +kernel
theorem dX12_manyWhy_8 : decode cX12_manyWhy 8 = .ok (.goto 18, 3) := by decide +kernel
theorem dX12_manyWhy_11 : decode cX12_manyWhy 11 = .ok (.iload_n 1, 1) := by decide +kernel
theorem dX12_manyWhy_12 : decode cX12_manyWhy 12 = .ok (.iconst 0, 1) := by decide +kernel
theorem dX12_manyWhy_13 : decode cX12_manyWhy 13 = .ok (.bipush 99, 2) := by decide +kernel
theorem dX12_manyWhy_15 : decode cX12_manyWhy 15 = .ok (.invokestatic 160, 3) := by decide +kernel
theorem dX12_manyWhy_18 : decode cX12_manyWhy 18 = .ok (.ifCond .eq 7, 3) := by decide +kernel
theorem dX12_manyWhy_21 : decode cX12_manyWhy 21 = .ok (.iconst 0, 1) := by decide +kernel
theorem dX12_manyWhy_22 : decode cX12_manyWhy 22 = .ok (.goto 4, 3) := by decide +kernel
theorem dX12_manyWhy_25 : decode cX12_manyWhy 25 = .ok (.iconst 2, 1) := by decide +kernel
theorem dX12_manyWhy_26 : decode cX12_manyWhy 26 = .ok (.ireturn, 1) := by decide +kernel
theorem dX12_shout_0 : decode cX12_shout 0 = .ok (.aload_n 0, 1) := by decide +kernel
theorem dX12_shout_1 : decode cX12_shout 1 = .ok (.invokevirtual 181, 3) := by decide +kernel
theorem dX12_shout_4 : decode cX12_shout 4 = .ok (.aload_n 0, 1) := by decide +kernel
theorem dX12_shout_5 : decode cX12_shout 5 = .ok (.iload_n 1, 1) := by decide +kernel
theorem dX12_shout_6 : decode cX12_shout 6 = .ok (.invokevirtual 405, 3) := by decide +kernel
theorem dX12_shout_9 : decode cX12_shout 9 = .ok (.istore 5, 2) := by decide +kernel
theorem dX12_shout_11 : decode cX12_shout 11 = .ok (.iload 5, 2) := by decide +kernel
theorem dX12_shout_13 : decode cX12_shout 13 = .ok (.ifCond .ne 26, 3) := by decide +kernel
theorem dX12_shout_16 : decode cX12_shout 16 = .ok (.iload_n 2, 1) := by decide +kernel
theorem dX12_shout_17 : decode cX12_shout 17 = .ok (.iconst 0, 1) := by decide +kernel
theorem dX12_shout_18 : decode cX12_shout 18 = .ok (.bipush 6, 2) := by decide +kernel
theorem dX12_shout_20 : decode cX12_shout 20 = .ok (.invokestatic 160, 3) := by decide +kernel
theorem dX12_shout_23 : decode cX12_shout 23 = .ok (.ifCond .eq 13, 3) := by decide +kernel
theorem dX12_shout_26 : decode cX12_shout 26 = .ok (.iload_n 3, 1) := by decide +kernel
theorem dX12_shout_27 : decode cX12_shout 27 = .ok (.iconst 0, 1) := by decide +kernel
theorem dX12_shout_28 : decode cX12_shout 28 = .ok (.bipush 6, 2) := by decide +kernel
theorem dX12_shout_30 : decode cX12_shout 30 = .ok (.invokestatic 160, 3) := by decide +kernel
theorem dX12_shout_33 : decode cX12_shout 33 = .ok (.ifCond .ne 6, 3) := by decide +kernel
theorem dX12_shout_36 : decode cX12_shout 36 = .ok (.iconst 2, 1) := by decide +kernel
theorem dX12_shout_37 : decode cX12_shout 37 = .ok (.istore 5, 2) := by decide +kernel
theorem dX12_shout_39 : decode cX12_shout 39 = .ok (.iload 5, 2) := by decide +kernel
theorem dX12_shout_41 : decode cX12_shout 41 = .ok (.ifCond .ne 24, 3) := by decide +kernel
theorem dX12_shout_44 : decode cX12_shout 44 = .ok (.iload 4, 2) := by decide +kernel
theorem dX12_shout_46 : decode cX12_shout 46 = .ok (.ifCond .eq 12, 3) := by decide +kernel
theorem dX12_shout_49 : decode cX12_shout 49 = .ok (.iload_n 1, 1) := by decide +kernel
theorem dX12_shout_50 : decode cX12_shout 50 = .ok (.iload_n 3, 1) := by decide +kernel
theorem dX12_shout_51 : decode cX12_shout 51 = .ok (.iload_n 2, 1) := by decide +kernel
theorem dX12_shout_52 : decode cX12_shout 52 = .ok (.invokestatic 408, 3) := by decide +kernel
theorem dX12_shout_55 : decode cX12_shout 55 = .ok (.goto 9, 3) := by decide +kernel
theorem dX12_shout_58 : decode cX12_shout 58 = .ok (.iload_n 1, 1) := by decide +kernel
theorem dX12_shout_59 : decode cX12_shout 59 = .ok (.iload_n 2, 1) := by decide +kernel
theorem dX12_shout_60 : decode cX12_shout 60 = .ok (.iload_n 3, 1) := by decide +kernel
theorem dX12_shout_61 : decode cX12_shout 61 = .ok (.invokestatic 408, 3) := by decide +kernel
theorem dX12_shout_64 : decode cX12_shout 64 = .ok (.ireturn, 1) := by decide +kernel
theorem dX12_shout_65 : decode cX12_shout 65 = .ok (.aload_n 0, 1) := by decide +kernel
theorem dX12_shout_66 : decode cX12_shout 66 = .ok (.iload 5, 2) := by decide +kernel
theorem dX12_shout_68 : decode cX12_shout 68 = .ok (.putfield 68, 3) := by decide +kernel
theorem dX12_shout_71 : decode cX12_shout 71 = .ok (.bipush (-100), 2) := by decide +kernel
theorem dX12_shout_73 : decode cX12_shout 73 = .ok (.ireturn, 1) := by decide +kernel
theorem dX12_isRest_0 : decode cX12_isRest 0 = .ok (.iconst 1, 1) := by decide +kernel
theorem dX12_isRest_1 : decode cX12_isRest 1 = .ok (.istore_n 3, 1) := by decide +kernel
theorem dX12_isRest_2 : decode cX12_isRest 2 = .ok (.iconst 0, 1) := by decide +kernel
theorem dX12_isRest_3 : decode cX12_isRest 3 = .ok (.istore 4, 2) := by decide +kernel
theorem dX12_isRest_5 : decode cX12_isRest 5 = .ok (.iload 4, 2) := by decide +kernel
theorem dX12_isRest_7 : decode cX12_isRest 7 = .ok (.bipush 6, 2) := by decide +kernel
theorem dX12_isRest_9 : decode cX12_isRest 9 = .ok (.if_icmp .gt 51, 3) := by decide +kernel
theorem dX12_isRest_12 : decode cX12_isRest 12 = .ok (.iload_n 3, 1) := by decide +kernel
theorem dX12_isRest_13 : decode cX12_isRest 13 = .ok (.ifCond .eq 39, 3) := by decide +kernel
theorem dX12_isRest_16 : decode cX12_isRest 16 = .ok (.iload_n 0, 1) := by decide +kernel
theorem dX12_isRest_17 : decode cX12_isRest 17 = .ok (.iload 4, 2) := by decide +kernel
theorem dX12_isRest_19 : decode cX12_isRest 19 = .ok (.iload_n 2, 1) := by decide +kernel
theorem dX12_isRest_20 : decode cX12_isRest 20 = .ok (.invokestatic 408, 3) := by decide +kernel
theorem dX12_isRest_23 : decode cX12_isRest 23 = .ok (.iload_n 0, 1) := by decide +kernel
theorem dX12_isRest_24 : decode cX12_isRest 24 = .ok (.iload_n 1, 1) := by decide +kernel
theorem dX12_isRest_25 : decode cX12_isRest 25 = .ok (.iload_n 2, 1) := by decide +kernel
theorem dX12_isRest_26 : decode cX12_isRest 26 = .ok (.invokestatic 408, 3) := by decide +kernel
theorem dX12_isRest_29 : decode cX12_isRest 29 = .ok (.if_icmp .gt 23, 3) := by decide +kernel
theorem dX12_isRest_32 : decode cX12_isRest 32 = .ok (.iload_n 0, 1) := by decide +kernel
theorem dX12_isRest_33 : decode cX12_isRest 33 = .ok (.iload 4, 2) := by decide +kernel
theorem dX12_isRest_35 : decode cX12_isRest 35 = .ok (.iload_n 1, 1) := by decide +kernel
theorem dX12_isRest_36 : decode cX12_isRest 36 = .ok (.invokestatic 408, 3) := by decide +kernel
theorem dX12_isRest_39 : decode cX12_isRest 39 = .ok (.iload_n 0, 1) := by decide +kernel
theorem dX12_isRest_40 : decode cX12_isRest 40 = .ok (.iload_n 2, 1) := by decide +kernel
theorem dX12_isRest_41 : decode cX12_isRest 41 = .ok (.iload_n 1, 1) := by decide +kernel
theorem dX12_isRest_42 : decode cX12_isRest 42 = .ok (.invokestatic 408, 3) := by decide +kernel
theorem dX12_isRest_45 : decode cX12_isRest 45 = .ok (.if_icmp .gt 7, 3) := by decide +kernel
theorem dX12_isRest_48 : decode cX12_isRest 48 = .ok (.iconst 1, 1) := by decide +kernel
theorem dX12_isRest_49 : decode cX12_isRest 49 = .ok (.goto 4, 3) := by decide +kernel
theorem dX12_isRest_52 : decode cX12_isRest 52 = .ok (.iconst 0, 1) := by decide +kernel
theorem dX12_isRest_53 : decode cX12_isRest 53 = .ok (.istore_n 3, 1) := by decide +kernel
theorem dX12_isRest_54 : decode cX12_isRest 54 = .ok (.iinc 4 1, 3) := by decide +kernel
theorem dX12_isRest_57 : decode cX12_isRest 57 = .ok (.goto (-52), 3) := by decide +kernel
theorem dX12_isRest_60 : decode cX12_isRest 60 = .ok (.iload_n 3, 1) := by decide +kernel
theorem dX12_isRest_61 : decode cX12_isRest 61 = .ok (.ireturn, 1) := by decide +kernel
theorem dX12_seekRests_0 : decode cX12_seekRests 0 = .ok (.iconst 0, 1) := by decide +kernel
theorem dX12_seekRests_1 : decode cX12_seekRests 1 = .ok (.istore_n 2, 1) := by decide +kernel
theorem dX12_seekRests_2 : decode cX12_seekRests 2 = .ok (.aload_n 0, 1) := by decide +kernel
theorem dX12_seekRests_3 : decode cX12_seekRests 3 = .ok (.bipush (-2), 2) := by decide +kernel
theorem dX12_seekRests_5 : decode cX12_seekRests 5 = .ok (.putfield 412, 3) := by decide +kernel
theorem dX12_seekRests_8 : decode cX12_seekRests 8 = .ok (.iconst 0, 1) := by decide +kernel
theorem dX12_seekRests_9 : decode cX12_seekRests 9 = .ok (.istore_n 3, 1) := by decide +kernel
theorem dX12_seekRests_10 : decode cX12_seekRests 10 = .ok (.iload_n 3, 1) := by decide +kernel
theorem dX12_seekRests_11 : decode cX12_seekRests 11 = .ok (.bipush 6, 2) := by decide +kernel
theorem dX12_seekRests_13 : decode cX12_seekRests 13 = .ok (.if_icmp .gt 56, 3) := by decide +kernel
theorem dX12_seekRests_16 : decode cX12_seekRests 16 = .ok (.iconst 0, 1) := by decide +kernel
theorem dX12_seekRests_17 : decode cX12_seekRests 17 = .ok (.istore 4, 2) := by decide +kernel
theorem dX12_seekRests_19 : decode cX12_seekRests 19 = .ok (.iload 4, 2) := by decide +kernel
theorem dX12_seekRests_21 : decode cX12_seekRests 21 = .ok (.bipush 6, 2) := by decide +kernel
theorem dX12_seekRests_23 : decode cX12_seekRests 23 = .ok (.if_icmp .gt 40, 3) := by decide +kernel
theorem dX12_seekRests_26 : decode cX12_seekRests 26 = .ok (.iload_n 1, 1) := by decide +kernel
theorem dX12_seekRests_27 : decode cX12_seekRests 27 = .ok (.iload_n 3, 1) := by decide +kernel
theorem dX12_seekRests_28 : decode cX12_seekRests 28 = .ok (.iload 4, 2) := by decide +kernel
theorem dX12_seekRests_30 : decode cX12_seekRests 30 = .ok (.invokestatic 415, 3) := by decide +kernel
theorem dX12_seekRests_33 : decode cX12_seekRests 33 = .ok (.ifCond .ne 6, 3) := by decide +kernel
theorem dX12_seekRests_36 : decode cX12_seekRests 36 = .ok (.goto 21, 3) := by decide +kernel
theorem dX12_seekRests_39 : decode cX12_seekRests 39 = .ok (.iload_n 2, 1) := by decide +kernel
theorem dX12_seekRests_40 : decode cX12_seekRests 40 = .ok (.ifCond .ne 14, 3) := by decide +kernel
theorem dX12_seekRests_43 : decode cX12_seekRests 43 = .ok (.aload_n 0, 1) := by decide +kernel
theorem dX12_seekRests_44 : decode cX12_seekRests 44 = .ok (.bipush 10, 2) := by decide +kernel
theorem dX12_seekRests_46 : decode cX12_seekRests 46 = .ok (.iload_n 3, 1) := by decide +kernel
theorem dX12_seekRests_47 : decode cX12_seekRests 47 = .ok (.imul, 1) := by decide +kernel
theorem dX12_seekRests_48 : decode cX12_seekRests 48 = .ok (.iload 4, 2) := by decide +kernel
theorem dX12_seekRests_50 : decode cX12_seekRests 50 = .ok (.iadd, 1) := by decide +kernel
theorem dX12_seekRests_51 : decode cX12_seekRests 51 = .ok (.putfield 412, 3) := by decide +kernel
theorem dX12_seekRests_54 : decode cX12_seekRests 54 = .ok (.iinc 2 1, 3) := by decide +kernel
theorem dX12_seekRests_57 : decode cX12_seekRests 57 = .ok (.iinc 4 1, 3) := by decide +kernel
theorem dX12_seekRests_60 : decode cX12_seekRests 60 = .ok (.goto (-41), 3) := by decide +kernel
theorem dX12_seekRests_63 : decode cX12_seekRests 63 = .ok (.iinc 3 1, 3) := by decide +kernel
theorem dX12_seekRests_66 : decode cX12_seekRests 66 = .ok (.goto (-56), 3) := by decide +kernel
theorem dX12_seekRests_69 : decode cX12_seekRests 69 = .ok (.iload_n 2, 1) := by decide +kernel
theorem dX12_seekRests_70 : decode cX12_seekRests 70 = .ok (.ireturn, 1) := by decide +kernel
theorem dX12_rests_0 : decode cX12_rests 0 = .ok (.aload_n 0, 1) := by decide +kernel
theorem dX12_rests_1 : decode cX12_rests 1 = .ok (.invokevirtual 181, 3) := by decide +kernel
theorem dX12_rests_4 : decode cX12_rests 4 = .ok (.aload_n 0, 1) := by decide +kernel
theorem dX12_rests_5 : decode cX12_rests 5 = .ok (.iload_n 1, 1) := by decide +kernel
theorem dX12_rests_6 : decode cX12_rests 6 = .ok (.invokevirtual 405, 3) := by decide +kernel
theorem dX12_rests_9 : decode cX12_rests 9 = .ok (.istore_n 2, 1) := by decide +kernel
theorem dX12_rests_10 : decode cX12_rests 10 = .ok (.iload_n 2, 1) := by decide +kernel
theorem dX12_rests_11 : decode cX12_rests 11 = .ok (.ifCond .eq 11, 3) := by decide +kernel
theorem dX12_rests_14 : decode cX12_rests 14 = .ok (.aload_n 0, 1) := by decide +kernel
theorem dX12_rests_15 : decode cX12_rests 15 = .ok (.iload_n 2, 1) := by decide +kernel
theorem dX12_rests_16 : decode cX12_rests 16 = .ok (.invokevirtual 184, 3) := by decide +kernel
theorem dX12_rests_19 : decode cX12_rests 19 = .ok (.goto 8, 3) := by decide +kernel
theorem dX12_rests_22 : decode cX12_rests 22 = .ok (.aload_n 0, 1) := by decide +kernel
theorem dX12_rests_23 : decode cX12_rests 23 = .ok (.iload_n 1, 1) := by decide +kernel
theorem dX12_rests_24 : decode cX12_rests 24 = .ok (.invokevirtual 418, 3) := by decide +kernel
theorem dX12_rests_27 : decode cX12_rests 27 = .ok (.ireturn, 1) := by decide +kernel
theorem dX12_rest_0 : decode cX12_rest 0 = .ok (.aload_n 0, 1) := by decide +kernel
theorem dX12_rest_1 : decode cX12_rest 1 = .ok (.invokevirtual 181, 3) := by decide +kernel
theorem dX12_rest_4 : decode cX12_rest 4 = .ok (.aload_n 0, 1) := by decide +kernel
theorem dX12_rest_5 : decode cX12_rest 5 = .ok (.iload_n 1, 1) := by decide +kernel
theorem dX12_rest_6 : decode cX12_rest 6 = .ok (.invokevirtual 405, 3) := by decide +kernel
theorem dX12_rest_9 : decode cX12_rest 9 = .ok (.istore_n 2, 1) := by decide +kernel
theorem dX12_rest_10 : decode cX12_rest 10 = .ok (.iload_n 2, 1) := by decide +kernel
theorem dX12_rest_11 : decode cX12_rest 11 = .ok (.ifCond .eq 9, 3) := by decide +kernel
theorem dX12_rest_14 : decode cX12_rest 14 = .ok (.aload_n 0, 1) := by decide +kernel
theorem dX12_rest_15 : decode cX12_rest 15 = .ok (.iload_n 2, 1) := by decide +kernel
theorem dX12_rest_16 : decode cX12_rest 16 = .ok (.invokevirtual 184, 3) := by decide +kernel
theorem dX12_rest_19 : decode cX12_rest 19 = .ok (.ireturn, 1) := by decide +kernel
theorem dX12_rest_20 : decode cX12_rest 20 = .ok (.aload_n 0, 1) := by decide +kernel
theorem dX12_rest_21 : decode cX12_rest 21 = .ok (.iload_n 1, 1) := by decide +kernel
theorem dX12_rest_22 : decode cX12_rest 22 = .ok (.invokevirtual 418, 3) := by decide +kernel
theorem dX12_rest_25 : decode cX12_rest 25 = .ok (.pop, 1) := by decide +kernel
theorem dX12_rest_26 : decode cX12_rest 26 = .ok (.aload_n 0, 1) := by decide +kernel
theorem dX12_rest_27 : decode cX12_rest 27 = .ok (.getfield 412, 3) := by decide +kernel
theorem dX12_rest_30 : decode cX12_rest 30 = .ok (.ireturn, 1) := by decide +kernel
theorem dX12_yearsWhy_0 : decode cX12_yearsWhy 0 = .ok (.iload_n 1, 1) := by decide +kernel
theorem dX12_yearsWhy_1 : decode cX12_yearsWhy 1 = .ok (.ifCond .ne 5, 3) := by decide +kernel
theorem dX12_yearsWhy_4 : decode cX12_yearsWhy 4 = .ok (.iconst 1, 1) := by decide +kernel
theorem dX12_yearsWhy_5 : decode cX12_yearsWhy 5 = .ok (.ireturn, 1) := by decide +kernel
theorem dX12_yearsWhy_6 : decode cX12_yearsWhy 6 = .ok (.iload_n 2, 1) := by decide +kernel
theorem dX12_yearsWhy_7 : decode cX12_yearsWhy 7 = .ok (.iconst 0, 1) := by decide +kernel
theorem dX12_yearsWhy_8 : decode cX12_yearsWhy 8 = .ok (.ldc_w 421, 3) := by decide +kernel
theorem dX12_yearsWhy_11 : decode cX12_yearsWhy 11 = .ok (.invokestatic 160, 3) := by decide +kernel
theorem dX12_yearsWhy_14 : decode cX12_yearsWhy 14 = .ok (.ifCond .eq 13, 3) := by decide +kernel
theorem dX12_yearsWhy_17 : decode cX12_yearsWhy 17 = .ok (.iload_n 3, 1) := by decide +kernel
theorem dX12_yearsWhy_18 : decode cX12_yearsWhy 18 = .ok (.iconst 0, 1) := by decide +kernel
theorem dX12_yearsWhy_19 : decode cX12_yearsWhy 19 = .ok (.bipush 90, 2) := by decide +kernel
theorem dX12_yearsWhy_21 : decode cX12_yearsWhy 21 = .ok (.invokestatic 160, 3) := by decide +kernel
theorem dX12_yearsWhy_24 : decode cX12_yearsWhy 24 = .ok (.ifCond .ne 5, 3) := by decide +kernel
theorem dX12_yearsWhy_27 : decode cX12_yearsWhy 27 = .ok (.iconst 2, 1) := by decide +kernel
theorem dX12_yearsWhy_28 : decode cX12_yearsWhy 28 = .ok (.ireturn, 1) := by decide +kernel
theorem dX12_yearsWhy_29 : decode cX12_yearsWhy 29 = .ok (.aload_n 0, 1) := by decide +kernel
theorem dX12_yearsWhy_30 : decode cX12_yearsWhy 30 = .ok (.getfield 26, 3) := by decide +kernel
theorem dX12_yearsWhy_33 : decode cX12_yearsWhy 33 = .ok (.iconst 0, 1) := by decide +kernel
theorem dX12_yearsWhy_34 : decode cX12_yearsWhy 34 = .ok (.aload_n 0, 1) := by decide +kernel
theorem dX12_yearsWhy_35 : decode cX12_yearsWhy 35 = .ok (.getfield 59, 3) := by decide +kernel
theorem dX12_yearsWhy_38 : decode cX12_yearsWhy 38 = .ok (.iconst 0, 1) := by decide +kernel
theorem dX12_yearsWhy_39 : decode cX12_yearsWhy 39 = .ok (.bipush 7, 2) := by decide +kernel
theorem dX12_yearsWhy_41 : decode cX12_yearsWhy 41 = .ok (.invokestatic 190, 3) := by decide +kernel
theorem dX12_yearsWhy_44 : decode cX12_yearsWhy 44 = .ok (.iconst 0, 1) := by decide +kernel
theorem dX12_yearsWhy_45 : decode cX12_yearsWhy 45 = .ok (.istore 4, 2) := by decide +kernel
theorem dX12_yearsWhy_47 : decode cX12_yearsWhy 47 = .ok (.iload 4, 2) := by decide +kernel
theorem dX12_yearsWhy_49 : decode cX12_yearsWhy 49 = .ok (.bipush 7, 2) := by decide +kernel
theorem dX12_yearsWhy_51 : decode cX12_yearsWhy 51 = .ok (.if_icmp .ge 17, 3) := by decide +kernel
theorem dX12_yearsWhy_54 : decode cX12_yearsWhy 54 = .ok (.aload_n 0, 1) := by decide +kernel
theorem dX12_yearsWhy_55 : decode cX12_yearsWhy 55 = .ok (.getfield 62, 3) := by decide +kernel
theorem dX12_yearsWhy_58 : decode cX12_yearsWhy 58 = .ok (.iload 4, 2) := by decide +kernel
theorem dX12_yearsWhy_60 : decode cX12_yearsWhy 60 = .ok (.iconst 0, 1) := by decide +kernel
theorem dX12_yearsWhy_61 : decode cX12_yearsWhy 61 = .ok (.iastore, 1) := by decide +kernel
theorem dX12_yearsWhy_62 : decode cX12_yearsWhy 62 = .ok (.iinc 4 1, 3) := by decide +kernel
theorem dX12_yearsWhy_65 : decode cX12_yearsWhy 65 = .ok (.goto (-18), 3) := by decide +kernel
theorem dX12_yearsWhy_68 : decode cX12_yearsWhy 68 = .ok (.iload_n 2, 1) := by decide +kernel
theorem dX12_yearsWhy_69 : decode cX12_yearsWhy 69 = .ok (.istore 4, 2) := by decide +kernel
theorem dX12_yearsWhy_71 : decode cX12_yearsWhy 71 = .ok (.iconst 0, 1) := by decide +kernel
theorem dX12_yearsWhy_72 : decode cX12_yearsWhy 72 = .ok (.istore 5, 2) := by decide +kernel
theorem dX12_yearsWhy_74 : decode cX12_yearsWhy 74 = .ok (.iload 5, 2) := by decide +kernel
theorem dX12_yearsWhy_76 : decode cX12_yearsWhy 76 = .ok (.iload_n 3, 1) := by decide +kernel
theorem dX12_yearsWhy_77 : decode cX12_yearsWhy 77 = .ok (.if_icmp .ge 156, 3) := by decide +kernel
theorem dX12_yearsWhy_80 : decode cX12_yearsWhy 80 = .ok (.bipush 75, 2) := by decide +kernel
theorem dX12_yearsWhy_82 : decode cX12_yearsWhy 82 = .ok (.iload 4, 2) := by decide +kernel
theorem dX12_yearsWhy_84 : decode cX12_yearsWhy 84 = .ok (.imul, 1) := by decide +kernel
theorem dX12_yearsWhy_85 : decode cX12_yearsWhy 85 = .ok (.bipush 74, 2) := by decide +kernel
theorem dX12_yearsWhy_87 : decode cX12_yearsWhy 87 = .ok (.iadd, 1) := by decide +kernel
theorem dX12_yearsWhy_88 : decode cX12_yearsWhy 88 = .ok (.ldc_w 422, 3) := by decide +kernel
theorem dX12_yearsWhy_91 : decode cX12_yearsWhy 91 = .ok (.irem, 1) := by decide +kernel
theorem dX12_yearsWhy_92 : decode cX12_yearsWhy 92 = .ok (.istore 4, 2) := by decide +kernel
theorem dX12_yearsWhy_94 : decode cX12_yearsWhy 94 = .ok (.iload 4, 2) := by decide +kernel
theorem dX12_yearsWhy_96 : decode cX12_yearsWhy 96 = .ok (.aload_n 0, 1) := by decide +kernel
theorem dX12_yearsWhy_97 : decode cX12_yearsWhy 97 = .ok (.getfield 20, 3) := by decide +kernel
theorem dX12_yearsWhy_100 : decode cX12_yearsWhy 100 = .ok (.iconst 4, 1) := by decide +kernel
theorem dX12_yearsWhy_101 : decode cX12_yearsWhy 101 = .ok (.iaload, 1) := by decide +kernel
theorem dX12_yearsWhy_102 : decode cX12_yearsWhy 102 = .ok (.irem, 1) := by decide +kernel
theorem dX12_yearsWhy_103 : decode cX12_yearsWhy 103 = .ok (.istore 6, 2) := by decide +kernel
theorem dX12_yearsWhy_105 : decode cX12_yearsWhy 105 = .ok (.bipush 75, 2) := by decide +kernel
theorem dX12_yearsWhy_107 : decode cX12_yearsWhy 107 = .ok (.iload 4, 2) := by decide +kernel
theorem dX12_yearsWhy_109 : decode cX12_yearsWhy 109 = .ok (.imul, 1) := by decide +kernel
theorem dX12_yearsWhy_110 : decode cX12_yearsWhy 110 = .ok (.bipush 74, 2) := by decide +kernel
theorem dX12_yearsWhy_112 : decode cX12_yearsWhy 112 = .ok (.iadd, 1) := by decide +kernel
theorem dX12_yearsWhy_113 : decode cX12_yearsWhy 113 = .ok (.ldc_w 422, 3) := by decide +kernel
theorem dX12_yearsWhy_116 : decode cX12_yearsWhy 116 = .ok (.irem, 1) := by decide +kernel
theorem dX12_yearsWhy_117 : decode cX12_yearsWhy 117 = .ok (.istore 4, 2) := by decide +kernel
theorem dX12_yearsWhy_119 : decode cX12_yearsWhy 119 = .ok (.iload 4, 2) := by decide +kernel
theorem dX12_yearsWhy_121 : decode cX12_yearsWhy 121 = .ok (.aload_n 0, 1) := by decide +kernel
theorem dX12_yearsWhy_122 : decode cX12_yearsWhy 122 = .ok (.getfield 20, 3) := by decide +kernel
theorem dX12_yearsWhy_125 : decode cX12_yearsWhy 125 = .ok (.iconst 3, 1) := by decide +kernel
theorem dX12_yearsWhy_126 : decode cX12_yearsWhy 126 = .ok (.iaload, 1) := by decide +kernel
theorem dX12_yearsWhy_127 : decode cX12_yearsWhy 127 = .ok (.irem, 1) := by decide +kernel
theorem dX12_yearsWhy_128 : decode cX12_yearsWhy 128 = .ok (.istore 7, 2) := by decide +kernel
theorem dX12_yearsWhy_130 : decode cX12_yearsWhy 130 = .ok (.aload_n 0, 1) := by decide +kernel
theorem dX12_yearsWhy_131 : decode cX12_yearsWhy 131 = .ok (.getfield 59, 3) := by decide +kernel
theorem dX12_yearsWhy_134 : decode cX12_yearsWhy 134 = .ok (.iload 6, 2) := by decide +kernel
theorem dX12_yearsWhy_136 : decode cX12_yearsWhy 136 = .ok (.iconst 0, 1) := by decide +kernel
theorem dX12_yearsWhy_137 : decode cX12_yearsWhy 137 = .ok (.iastore, 1) := by decide +kernel
theorem dX12_yearsWhy_138 : decode cX12_yearsWhy 138 = .ok (.aload_n 0, 1) := by decide +kernel
theorem dX12_yearsWhy_139 : decode cX12_yearsWhy 139 = .ok (.iload 6, 2) := by decide +kernel
theorem dX12_yearsWhy_141 : decode cX12_yearsWhy 141 = .ok (.iload 7, 2) := by decide +kernel
theorem dX12_yearsWhy_143 : decode cX12_yearsWhy 143 = .ok (.invokevirtual 327, 3) := by decide +kernel
theorem dX12_yearsWhy_146 : decode cX12_yearsWhy 146 = .ok (.ifCond .eq 27, 3) := by decide +kernel
theorem dX12_yearsWhy_149 : decode cX12_yearsWhy 149 = .ok (.aload_n 0, 1) := by decide +kernel
theorem dX12_yearsWhy_150 : decode cX12_yearsWhy 150 = .ok (.aload_n 0, 1) := by decide +kernel
theorem dX12_yearsWhy_151 : decode cX12_yearsWhy 151 = .ok (.getfield 59, 3) := by decide +kernel
theorem dX12_yearsWhy_154 : decode cX12_yearsWhy 154 = .ok (.iload 7, 2) := by decide +kernel
theorem dX12_yearsWhy_156 : decode cX12_yearsWhy 156 = .ok (.invokevirtual 336, 3) := by decide +kernel
theorem dX12_yearsWhy_159 : decode cX12_yearsWhy 159 = .ok (.ifCond .eq 14, 3) := by decide +kernel
theorem dX12_yearsWhy_162 : decode cX12_yearsWhy 162 = .ok (.aload_n 0, 1) := by decide +kernel
theorem dX12_yearsWhy_163 : decode cX12_yearsWhy 163 = .ok (.getfield 59, 3) := by decide +kernel
theorem dX12_yearsWhy_166 : decode cX12_yearsWhy 166 = .ok (.iload 6, 2) := by decide +kernel
theorem dX12_yearsWhy_168 : decode cX12_yearsWhy 168 = .ok (.iload 7, 2) := by decide +kernel
theorem dX12_yearsWhy_170 : decode cX12_yearsWhy 170 = .ok (.iconst 1, 1) := by decide +kernel
theorem dX12_yearsWhy_171 : decode cX12_yearsWhy 171 = .ok (.iadd, 1) := by decide +kernel
theorem dX12_yearsWhy_172 : decode cX12_yearsWhy 172 = .ok (.iastore, 1) := by decide +kernel
theorem dX12_yearsWhy_173 : decode cX12_yearsWhy 173 = .ok (.iconst 0, 1) := by decide +kernel
theorem dX12_yearsWhy_174 : decode cX12_yearsWhy 174 = .ok (.istore 8, 2) := by decide +kernel
theorem dX12_yearsWhy_176 : decode cX12_yearsWhy 176 = .ok (.iload 8, 2) := by decide +kernel
theorem dX12_yearsWhy_178 : decode cX12_yearsWhy 178 = .ok (.aload_n 0, 1) := by decide +kernel
theorem dX12_yearsWhy_179 : decode cX12_yearsWhy 179 = .ok (.getfield 20, 3) := by decide +kernel
theorem dX12_yearsWhy_182 : decode cX12_yearsWhy 182 = .ok (.iconst 4, 1) := by decide +kernel
theorem dX12_yearsWhy_183 : decode cX12_yearsWhy 183 = .ok (.iaload, 1) := by decide +kernel
theorem dX12_yearsWhy_184 : decode cX12_yearsWhy 184 = .ok (.if_icmp .ge 43, 3) := by decide +kernel
theorem dX12_yearsWhy_187 : decode cX12_yearsWhy 187 = .ok (.aload_n 0, 1) := by decide +kernel
theorem dX12_yearsWhy_188 : decode cX12_yearsWhy 188 = .ok (.getfield 62, 3) := by decide +kernel
theorem dX12_yearsWhy_191 : decode cX12_yearsWhy 191 = .ok (.iload 8, 2) := by decide +kernel
theorem dX12_yearsWhy_193 : decode cX12_yearsWhy 193 = .ok (.dup2, 1) := by decide +kernel
theorem dX12_yearsWhy_194 : decode cX12_yearsWhy 194 = .ok (.iaload, 1) := by decide +kernel
theorem dX12_yearsWhy_195 : decode cX12_yearsWhy 195 = .ok (.aload_n 0, 1) := by decide +kernel
theorem dX12_yearsWhy_196 : decode cX12_yearsWhy 196 = .ok (.aload_n 0, 1) := by decide +kernel
theorem dX12_yearsWhy_197 : decode cX12_yearsWhy 197 = .ok (.getfield 59, 3) := by decide +kernel
theorem dX12_yearsWhy_200 : decode cX12_yearsWhy 200 = .ok (.iload 8, 2) := by decide +kernel
theorem dX12_yearsWhy_202 : decode cX12_yearsWhy 202 = .ok (.aload_n 0, 1) := by decide +kernel
theorem dX12_yearsWhy_203 : decode cX12_yearsWhy 203 = .ok (.getfield 20, 3) := by decide +kernel
theorem dX12_yearsWhy_206 : decode cX12_yearsWhy 206 = .ok (.iconst 2, 1) := by decide +kernel
theorem dX12_yearsWhy_207 : decode cX12_yearsWhy 207 = .ok (.iaload, 1) := by decide +kernel
theorem dX12_yearsWhy_208 : decode cX12_yearsWhy 208 = .ok (.invokevirtual 308, 3) := by decide +kernel
theorem dX12_yearsWhy_211 : decode cX12_yearsWhy 211 = .ok (.ifCond .eq 7, 3) := by decide +kernel
theorem dX12_yearsWhy_214 : decode cX12_yearsWhy 214 = .ok (.iconst 1, 1) := by decide +kernel
theorem dX12_yearsWhy_215 : decode cX12_yearsWhy 215 = .ok (.goto 4, 3) := by decide +kernel
theorem dX12_yearsWhy_218 : decode cX12_yearsWhy 218 = .ok (.iconst 0, 1) := by decide +kernel
theorem dX12_yearsWhy_219 : decode cX12_yearsWhy 219 = .ok (.iadd, 1) := by decide +kernel
theorem dX12_yearsWhy_220 : decode cX12_yearsWhy 220 = .ok (.iastore, 1) := by decide +kernel
theorem dX12_yearsWhy_221 : decode cX12_yearsWhy 221 = .ok (.iinc 8 1, 3) := by decide +kernel
theorem dX12_yearsWhy_224 : decode cX12_yearsWhy 224 = .ok (.goto (-48), 3) := by decide +kernel
theorem dX12_yearsWhy_227 : decode cX12_yearsWhy 227 = .ok (.iinc 5 1, 3) := by decide +kernel
theorem dX12_yearsWhy_230 : decode cX12_yearsWhy 230 = .ok (.goto (-156), 3) := by decide +kernel
theorem dX12_yearsWhy_233 : decode cX12_yearsWhy 233 = .ok (.iconst 0, 1) := by decide +kernel
theorem dX12_yearsWhy_234 : decode cX12_yearsWhy 234 = .ok (.ireturn, 1) := by decide +kernel
theorem dX12_years_0 : decode cX12_years 0 = .ok (.aload_n 0, 1) := by decide +kernel
theorem dX12_years_1 : decode cX12_years 1 = .ok (.invokevirtual 181, 3) := by decide +kernel
theorem dX12_years_4 : decode cX12_years 4 = .ok (.aload_n 0, 1) := by decide +kernel
theorem dX12_years_5 : decode cX12_years 5 = .ok (.aload_n 0, 1) := by decide +kernel
theorem dX12_years_6 : decode cX12_years 6 = .ok (.getfield 194, 3) := by decide +kernel
theorem dX12_years_9 : decode cX12_years 9 = .ok (.ifCond .eq 16, 3) := by decide +kernel
theorem dX12_years_12 : decode cX12_years 12 = .ok (.aload_n 0, 1) := by decide +kernel
theorem dX12_years_13 : decode cX12_years 13 = .ok (.getfield 20, 3) := by decide +kernel
theorem dX12_years_16 : decode cX12_years 16 = .ok (.iconst 4, 1) := by decide +kernel
theorem dX12_years_17 : decode cX12_years 17 = .ok (.iaload, 1) := by decide +kernel
theorem dX12_years_18 : decode cX12_years 18 = .ok (.ifCond .le 7, 3) := by decide +kernel
theorem dX12_years_21 : decode cX12_years 21 = .ok (.iconst 1, 1) := by decide +kernel
theorem dX12_years_22 : decode cX12_years 22 = .ok (.goto 4, 3) := by decide +kernel
theorem dX12_years_25 : decode cX12_years 25 = .ok (.iconst 0, 1) := by decide +kernel
theorem dX12_years_26 : decode cX12_years 26 = .ok (.iload_n 1, 1) := by decide +kernel
theorem dX12_years_27 : decode cX12_years 27 = .ok (.iload_n 2, 1) := by decide +kernel
theorem dX12_years_28 : decode cX12_years 28 = .ok (.invokevirtual 423, 3) := by decide +kernel
theorem dX12_years_31 : decode cX12_years 31 = .ok (.istore_n 3, 1) := by decide +kernel
theorem dX12_years_32 : decode cX12_years 32 = .ok (.iload_n 3, 1) := by decide +kernel
theorem dX12_years_33 : decode cX12_years 33 = .ok (.ifCond .eq 11, 3) := by decide +kernel
theorem dX12_years_36 : decode cX12_years 36 = .ok (.aload_n 0, 1) := by decide +kernel
theorem dX12_years_37 : decode cX12_years 37 = .ok (.iload_n 3, 1) := by decide +kernel
theorem dX12_years_38 : decode cX12_years 38 = .ok (.invokevirtual 184, 3) := by decide +kernel
theorem dX12_years_41 : decode cX12_years 41 = .ok (.goto 20, 3) := by decide +kernel
theorem dX12_years_44 : decode cX12_years 44 = .ok (.aload_n 0, 1) := by decide +kernel
theorem dX12_years_45 : decode cX12_years 45 = .ok (.aload_n 0, 1) := by decide +kernel
theorem dX12_years_46 : decode cX12_years 46 = .ok (.getfield 59, 3) := by decide +kernel
theorem dX12_years_49 : decode cX12_years 49 = .ok (.aload_n 0, 1) := by decide +kernel
theorem dX12_years_50 : decode cX12_years 50 = .ok (.getfield 20, 3) := by decide +kernel
theorem dX12_years_53 : decode cX12_years 53 = .ok (.iconst 2, 1) := by decide +kernel
theorem dX12_years_54 : decode cX12_years 54 = .ok (.iaload, 1) := by decide +kernel
theorem dX12_years_55 : decode cX12_years 55 = .ok (.invokevirtual 330, 3) := by decide +kernel
theorem dX12_years_58 : decode cX12_years 58 = .ok (.invokestatic 299, 3) := by decide +kernel
theorem dX12_years_61 : decode cX12_years 61 = .ok (.ireturn, 1) := by decide +kernel
theorem dX12_yearsAt_0 : decode cX12_yearsAt 0 = .ok (.aload_n 0, 1) := by decide +kernel
theorem dX12_yearsAt_1 : decode cX12_yearsAt 1 = .ok (.invokevirtual 181, 3) := by decide +kernel
theorem dX12_yearsAt_4 : decode cX12_yearsAt 4 = .ok (.aload_n 0, 1) := by decide +kernel
theorem dX12_yearsAt_5 : decode cX12_yearsAt 5 = .ok (.aload_n 0, 1) := by decide +kernel
theorem dX12_yearsAt_6 : decode cX12_yearsAt 6 = .ok (.iload_n 1, 1) := by decide +kernel
theorem dX12_yearsAt_7 : decode cX12_yearsAt 7 = .ok (.invokevirtual 318, 3) := by decide +kernel
theorem dX12_yearsAt_10 : decode cX12_yearsAt 10 = .ok (.iload_n 2, 1) := by decide +kernel
theorem dX12_yearsAt_11 : decode cX12_yearsAt 11 = .ok (.iload_n 3, 1) := by decide +kernel
theorem dX12_yearsAt_12 : decode cX12_yearsAt 12 = .ok (.invokevirtual 423, 3) := by decide +kernel
theorem dX12_yearsAt_15 : decode cX12_yearsAt 15 = .ok (.istore 4, 2) := by decide +kernel
theorem dX12_yearsAt_17 : decode cX12_yearsAt 17 = .ok (.iload 4, 2) := by decide +kernel
theorem dX12_yearsAt_19 : decode cX12_yearsAt 19 = .ok (.ifCond .eq 12, 3) := by decide +kernel
theorem dX12_yearsAt_22 : decode cX12_yearsAt 22 = .ok (.aload_n 0, 1) := by decide +kernel
theorem dX12_yearsAt_23 : decode cX12_yearsAt 23 = .ok (.iload 4, 2) := by decide +kernel
theorem dX12_yearsAt_25 : decode cX12_yearsAt 25 = .ok (.invokevirtual 184, 3) := by decide +kernel
theorem dX12_yearsAt_28 : decode cX12_yearsAt 28 = .ok (.goto 25, 3) := by decide +kernel
theorem dX12_yearsAt_31 : decode cX12_yearsAt 31 = .ok (.aload_n 0, 1) := by decide +kernel
theorem dX12_yearsAt_32 : decode cX12_yearsAt 32 = .ok (.getfield 59, 3) := by decide +kernel
theorem dX12_yearsAt_35 : decode cX12_yearsAt 35 = .ok (.iload_n 1, 1) := by decide +kernel
theorem dX12_yearsAt_36 : decode cX12_yearsAt 36 = .ok (.iaload, 1) := by decide +kernel
theorem dX12_yearsAt_37 : decode cX12_yearsAt 37 = .ok (.ifCond .ne 8, 3) := by decide +kernel
theorem dX12_yearsAt_40 : decode cX12_yearsAt 40 = .ok (.bipush (-2), 2) := by decide +kernel
theorem dX12_yearsAt_42 : decode cX12_yearsAt 42 = .ok (.goto 11, 3) := by decide +kernel
theorem dX12_yearsAt_45 : decode cX12_yearsAt 45 = .ok (.aload_n 0, 1) := by decide +kernel
theorem dX12_yearsAt_46 : decode cX12_yearsAt 46 = .ok (.getfield 59, 3) := by decide +kernel
theorem dX12_yearsAt_49 : decode cX12_yearsAt 49 = .ok (.iload_n 1, 1) := by decide +kernel
theorem dX12_yearsAt_50 : decode cX12_yearsAt 50 = .ok (.iaload, 1) := by decide +kernel
theorem dX12_yearsAt_51 : decode cX12_yearsAt 51 = .ok (.iconst 1, 1) := by decide +kernel
theorem dX12_yearsAt_52 : decode cX12_yearsAt 52 = .ok (.isub, 1) := by decide +kernel
theorem dX12_yearsAt_53 : decode cX12_yearsAt 53 = .ok (.ireturn, 1) := by decide +kernel
theorem dX12_happy_0 : decode cX12_happy 0 = .ok (.aload_n 0, 1) := by decide +kernel
theorem dX12_happy_1 : decode cX12_happy 1 = .ok (.invokevirtual 181, 3) := by decide +kernel
theorem dX12_happy_4 : decode cX12_happy 4 = .ok (.aload_n 0, 1) := by decide +kernel
theorem dX12_happy_5 : decode cX12_happy 5 = .ok (.aload_n 0, 1) := by decide +kernel
theorem dX12_happy_6 : decode cX12_happy 6 = .ok (.iload_n 1, 1) := by decide +kernel
theorem dX12_happy_7 : decode cX12_happy 7 = .ok (.invokevirtual 318, 3) := by decide +kernel
theorem dX12_happy_10 : decode cX12_happy 10 = .ok (.iload_n 2, 1) := by decide +kernel
theorem dX12_happy_11 : decode cX12_happy 11 = .ok (.iload_n 3, 1) := by decide +kernel
theorem dX12_happy_12 : decode cX12_happy 12 = .ok (.invokevirtual 423, 3) := by decide +kernel
theorem dX12_happy_15 : decode cX12_happy 15 = .ok (.istore 4, 2) := by decide +kernel
theorem dX12_happy_17 : decode cX12_happy 17 = .ok (.iload 4, 2) := by decide +kernel
theorem dX12_happy_19 : decode cX12_happy 19 = .ok (.ifCond .eq 12, 3) := by decide +kernel
theorem dX12_happy_22 : decode cX12_happy 22 = .ok (.aload_n 0, 1) := by decide +kernel
theorem dX12_happy_23 : decode cX12_happy 23 = .ok (.iload 4, 2) := by decide +kernel
theorem dX12_happy_25 : decode cX12_happy 25 = .ok (.invokevirtual 184, 3) := by decide +kernel
theorem dX12_happy_28 : decode cX12_happy 28 = .ok (.goto 9, 3) := by decide +kernel
theorem dX12_happy_31 : decode cX12_happy 31 = .ok (.aload_n 0, 1) := by decide +kernel
theorem dX12_happy_32 : decode cX12_happy 32 = .ok (.getfield 62, 3) := by decide +kernel
theorem dX12_happy_35 : decode cX12_happy 35 = .ok (.iload_n 1, 1) := by decide +kernel
theorem dX12_happy_36 : decode cX12_happy 36 = .ok (.iaload, 1) := by decide +kernel
theorem dX12_happy_37 : decode cX12_happy 37 = .ok (.ireturn, 1) := by decide +kernel
theorem dX12_note_0 : decode cX12_note 0 = .ok (.aload_n 0, 1) := by decide +kernel
theorem dX12_note_1 : decode cX12_note 1 = .ok (.getfield 197, 3) := by decide +kernel
theorem dX12_note_4 : decode cX12_note 4 = .ok (.bipush 16, 2) := by decide +kernel
theorem dX12_note_6 : decode cX12_note 6 = .ok (.if_icmp .ne 43, 3) := by decide +kernel
theorem dX12_note_9 : decode cX12_note 9 = .ok (.iconst 0, 1) := by decide +kernel
theorem dX12_note_10 : decode cX12_note 10 = .ok (.istore_n 1, 1) := by decide +kernel
theorem dX12_note_11 : decode cX12_note 11 = .ok (.iload_n 1, 1) := by decide +kernel
theorem dX12_note_12 : decode cX12_note 12 = .ok (.sipush 240, 3) := by decide +kernel
theorem dX12_note_15 : decode cX12_note 15 = .ok (.if_icmp .ge 24, 3) := by decide +kernel
theorem dX12_note_18 : decode cX12_note 18 = .ok (.aload_n 0, 1) := by decide +kernel
theorem dX12_note_19 : decode cX12_note 19 = .ok (.getfield 29, 3) := by decide +kernel
theorem dX12_note_22 : decode cX12_note 22 = .ok (.iload_n 1, 1) := by decide +kernel
theorem dX12_note_23 : decode cX12_note 23 = .ok (.aload_n 0, 1) := by decide +kernel
theorem dX12_note_24 : decode cX12_note 24 = .ok (.getfield 29, 3) := by decide +kernel
theorem dX12_note_27 : decode cX12_note 27 = .ok (.iload_n 1, 1) := by decide +kernel
theorem dX12_note_28 : decode cX12_note 28 = .ok (.bipush 16, 2) := by decide +kernel
theorem dX12_note_30 : decode cX12_note 30 = .ok (.iadd, 1) := by decide +kernel
theorem dX12_note_31 : decode cX12_note 31 = .ok (.iaload, 1) := by decide +kernel
theorem dX12_note_32 : decode cX12_note 32 = .ok (.iastore, 1) := by decide +kernel
theorem dX12_note_33 : decode cX12_note 33 = .ok (.iinc 1 1, 3) := by decide +kernel
theorem dX12_note_36 : decode cX12_note 36 = .ok (.goto (-25), 3) := by decide +kernel
theorem dX12_note_39 : decode cX12_note 39 = .ok (.aload_n 0, 1) := by decide +kernel
theorem dX12_note_40 : decode cX12_note 40 = .ok (.dup, 1) := by decide +kernel
theorem dX12_note_41 : decode cX12_note 41 = .ok (.getfield 197, 3) := by decide +kernel
theorem dX12_note_44 : decode cX12_note 44 = .ok (.iconst 1, 1) := by decide +kernel
theorem dX12_note_45 : decode cX12_note 45 = .ok (.isub, 1) := by decide +kernel
theorem dX12_note_46 : decode cX12_note 46 = .ok (.putfield 197, 3) := by decide +kernel
theorem dX12_note_49 : decode cX12_note 49 = .ok (.aload_n 0, 1) := by decide +kernel
theorem dX12_note_50 : decode cX12_note 50 = .ok (.getfield 26, 3) := by decide +kernel
theorem dX12_note_53 : decode cX12_note 53 = .ok (.iconst 0, 1) := by decide +kernel
theorem dX12_note_54 : decode cX12_note 54 = .ok (.aload_n 0, 1) := by decide +kernel
theorem dX12_note_55 : decode cX12_note 55 = .ok (.getfield 29, 3) := by decide +kernel
theorem dX12_note_58 : decode cX12_note 58 = .ok (.bipush 16, 2) := by decide +kernel
theorem dX12_note_60 : decode cX12_note 60 = .ok (.aload_n 0, 1) := by decide +kernel
theorem dX12_note_61 : decode cX12_note 61 = .ok (.getfield 197, 3) := by decide +kernel
theorem dX12_note_64 : decode cX12_note 64 = .ok (.imul, 1) := by decide +kernel
theorem dX12_note_65 : decode cX12_note 65 = .ok (.bipush 16, 2) := by decide +kernel
theorem dX12_note_67 : decode cX12_note 67 = .ok (.invokestatic 190, 3) := by decide +kernel
theorem dX12_note_70 : decode cX12_note 70 = .ok (.aload_n 0, 1) := by decide +kernel
theorem dX12_note_71 : decode cX12_note 71 = .ok (.dup, 1) := by decide +kernel
theorem dX12_note_72 : decode cX12_note 72 = .ok (.getfield 197, 3) := by decide +kernel
theorem dX12_note_75 : decode cX12_note 75 = .ok (.iconst 1, 1) := by decide +kernel
theorem dX12_note_76 : decode cX12_note 76 = .ok (.iadd, 1) := by decide +kernel
theorem dX12_note_77 : decode cX12_note 77 = .ok (.putfield 197, 3) := by decide +kernel
theorem dX12_note_80 : decode cX12_note 80 = .ok (.return_, 1) := by decide +kernel
theorem dX12_sit_0 : decode cX12_sit 0 = .ok (.aload_n 0, 1) := by decide +kernel
theorem dX12_sit_1 : decode cX12_sit 1 = .ok (.invokevirtual 181, 3) := by decide +kernel
theorem dX12_sit_4 : decode cX12_sit 4 = .ok (.aload_n 0, 1) := by decide +kernel
theorem dX12_sit_5 : decode cX12_sit 5 = .ok (.iload_n 1, 1) := by decide +kernel
theorem dX12_sit_6 : decode cX12_sit 6 = .ok (.invokevirtual 318, 3) := by decide +kernel
theorem dX12_sit_9 : decode cX12_sit 9 = .ok (.ifCond .eq 11, 3) := by decide +kernel
theorem dX12_sit_12 : decode cX12_sit 12 = .ok (.aload_n 0, 1) := by decide +kernel
theorem dX12_sit_13 : decode cX12_sit 13 = .ok (.iload_n 2, 1) := by decide +kernel
theorem dX12_sit_14 : decode cX12_sit 14 = .ok (.invokevirtual 312, 3) := by decide +kernel
theorem dX12_sit_17 : decode cX12_sit 17 = .ok (.ifCond .ne 9, 3) := by decide +kernel
theorem dX12_sit_20 : decode cX12_sit 20 = .ok (.aload_n 0, 1) := by decide +kernel
theorem dX12_sit_21 : decode cX12_sit 21 = .ok (.iconst 1, 1) := by decide +kernel
theorem dX12_sit_22 : decode cX12_sit 22 = .ok (.invokevirtual 427, 3) := by decide +kernel
theorem dX12_sit_25 : decode cX12_sit 25 = .ok (.ireturn, 1) := by decide +kernel
theorem dX12_sit_26 : decode cX12_sit 26 = .ok (.aload_n 0, 1) := by decide +kernel
theorem dX12_sit_27 : decode cX12_sit 27 = .ok (.getfield 26, 3) := by decide +kernel
theorem dX12_sit_30 : decode cX12_sit 30 = .ok (.iload_n 1, 1) := by decide +kernel
theorem dX12_sit_31 : decode cX12_sit 31 = .ok (.iaload, 1) := by decide +kernel
theorem dX12_sit_32 : decode cX12_sit 32 = .ok (.iload_n 2, 1) := by decide +kernel
theorem dX12_sit_33 : decode cX12_sit 33 = .ok (.iconst 1, 1) := by decide +kernel
theorem dX12_sit_34 : decode cX12_sit 34 = .ok (.iadd, 1) := by decide +kernel
theorem dX12_sit_35 : decode cX12_sit 35 = .ok (.if_icmp .eq 12, 3) := by decide +kernel
theorem dX12_sit_38 : decode cX12_sit 38 = .ok (.aload_n 0, 1) := by decide +kernel
theorem dX12_sit_39 : decode cX12_sit 39 = .ok (.iload_n 1, 1) := by decide +kernel
theorem dX12_sit_40 : decode cX12_sit 40 = .ok (.iload_n 2, 1) := by decide +kernel
theorem dX12_sit_41 : decode cX12_sit 41 = .ok (.invokevirtual 327, 3) := by decide +kernel
theorem dX12_sit_44 : decode cX12_sit 44 = .ok (.ifCond .ne 9, 3) := by decide +kernel
theorem dX12_sit_47 : decode cX12_sit 47 = .ok (.aload_n 0, 1) := by decide +kernel
theorem dX12_sit_48 : decode cX12_sit 48 = .ok (.iconst 5, 1) := by decide +kernel
theorem dX12_sit_49 : decode cX12_sit 49 = .ok (.invokevirtual 427, 3) := by decide +kernel
theorem dX12_sit_52 : decode cX12_sit 52 = .ok (.ireturn, 1) := by decide +kernel
theorem dX12_sit_53 : decode cX12_sit 53 = .ok (.aload_n 0, 1) := by decide +kernel
theorem dX12_sit_54 : decode cX12_sit 54 = .ok (.aload_n 0, 1) := by decide +kernel
theorem dX12_sit_55 : decode cX12_sit 55 = .ok (.getfield 26, 3) := by decide +kernel
theorem dX12_sit_58 : decode cX12_sit 58 = .ok (.iload_n 2, 1) := by decide +kernel
theorem dX12_sit_59 : decode cX12_sit 59 = .ok (.invokevirtual 336, 3) := by decide +kernel
theorem dX12_sit_62 : decode cX12_sit 62 = .ok (.ifCond .ne 9, 3) := by decide +kernel
theorem dX12_sit_65 : decode cX12_sit 65 = .ok (.aload_n 0, 1) := by decide +kernel
theorem dX12_sit_66 : decode cX12_sit 66 = .ok (.iconst 3, 1) := by decide +kernel
theorem dX12_sit_67 : decode cX12_sit 67 = .ok (.invokevirtual 427, 3) := by decide +kernel
theorem dX12_sit_70 : decode cX12_sit 70 = .ok (.ireturn, 1) := by decide +kernel
theorem dX12_sit_71 : decode cX12_sit 71 = .ok (.aload_n 0, 1) := by decide +kernel
theorem dX12_sit_72 : decode cX12_sit 72 = .ok (.invokevirtual 430, 3) := by decide +kernel
theorem dX12_sit_75 : decode cX12_sit 75 = .ok (.aload_n 0, 1) := by decide +kernel
theorem dX12_sit_76 : decode cX12_sit 76 = .ok (.getfield 26, 3) := by decide +kernel
theorem dX12_sit_79 : decode cX12_sit 79 = .ok (.iload_n 1, 1) := by decide +kernel
theorem dX12_sit_80 : decode cX12_sit 80 = .ok (.iload_n 2, 1) := by decide +kernel
theorem dX12_sit_81 : decode cX12_sit 81 = .ok (.iconst 1, 1) := by decide +kernel
theorem dX12_sit_82 : decode cX12_sit 82 = .ok (.iadd, 1) := by decide +kernel
theorem dX12_sit_83 : decode cX12_sit 83 = .ok (.iastore, 1) := by decide +kernel
theorem dX12_sit_84 : decode cX12_sit 84 = .ok (.iconst 1, 1) := by decide +kernel
theorem dX12_sit_85 : decode cX12_sit 85 = .ok (.ireturn, 1) := by decide +kernel
theorem dX12_stand_0 : decode cX12_stand 0 = .ok (.aload_n 0, 1) := by decide +kernel
theorem dX12_stand_1 : decode cX12_stand 1 = .ok (.invokevirtual 181, 3) := by decide +kernel
theorem dX12_stand_4 : decode cX12_stand 4 = .ok (.aload_n 0, 1) := by decide +kernel
theorem dX12_stand_5 : decode cX12_stand 5 = .ok (.iload_n 1, 1) := by decide +kernel
theorem dX12_stand_6 : decode cX12_stand 6 = .ok (.invokevirtual 318, 3) := by decide +kernel
theorem dX12_stand_9 : decode cX12_stand 9 = .ok (.ifCond .ne 9, 3) := by decide +kernel
theorem dX12_stand_12 : decode cX12_stand 12 = .ok (.aload_n 0, 1) := by decide +kernel
theorem dX12_stand_13 : decode cX12_stand 13 = .ok (.iconst 1, 1) := by decide +kernel
theorem dX12_stand_14 : decode cX12_stand 14 = .ok (.invokevirtual 427, 3) := by decide +kernel
theorem dX12_stand_17 : decode cX12_stand 17 = .ok (.ireturn, 1) := by decide +kernel
theorem dX12_stand_18 : decode cX12_stand 18 = .ok (.aload_n 0, 1) := by decide +kernel
theorem dX12_stand_19 : decode cX12_stand 19 = .ok (.getfield 26, 3) := by decide +kernel
theorem dX12_stand_22 : decode cX12_stand 22 = .ok (.iload_n 1, 1) := by decide +kernel
theorem dX12_stand_23 : decode cX12_stand 23 = .ok (.iaload, 1) := by decide +kernel
theorem dX12_stand_24 : decode cX12_stand 24 = .ok (.ifCond .ne 9, 3) := by decide +kernel
theorem dX12_stand_27 : decode cX12_stand 27 = .ok (.aload_n 0, 1) := by decide +kernel
theorem dX12_stand_28 : decode cX12_stand 28 = .ok (.iconst 5, 1) := by decide +kernel
theorem dX12_stand_29 : decode cX12_stand 29 = .ok (.invokevirtual 427, 3) := by decide +kernel
theorem dX12_stand_32 : decode cX12_stand 32 = .ok (.ireturn, 1) := by decide +kernel
theorem dX12_stand_33 : decode cX12_stand 33 = .ok (.aload_n 0, 1) := by decide +kernel
theorem dX12_stand_34 : decode cX12_stand 34 = .ok (.invokevirtual 430, 3) := by decide +kernel
theorem dX12_stand_37 : decode cX12_stand 37 = .ok (.aload_n 0, 1) := by decide +kernel
theorem dX12_stand_38 : decode cX12_stand 38 = .ok (.getfield 26, 3) := by decide +kernel
theorem dX12_stand_41 : decode cX12_stand 41 = .ok (.iload_n 1, 1) := by decide +kernel
theorem dX12_stand_42 : decode cX12_stand 42 = .ok (.iconst 0, 1) := by decide +kernel
theorem dX12_stand_43 : decode cX12_stand 43 = .ok (.iastore, 1) := by decide +kernel
theorem dX12_stand_44 : decode cX12_stand 44 = .ok (.iconst 1, 1) := by decide +kernel
theorem dX12_stand_45 : decode cX12_stand 45 = .ok (.ireturn, 1) := by decide +kernel
theorem dX12_preach_0 : decode cX12_preach 0 = .ok (.aload_n 0, 1) := by decide +kernel
theorem dX12_preach_1 : decode cX12_preach 1 = .ok (.invokevirtual 181, 3) := by decide +kernel
theorem dX12_preach_4 : decode cX12_preach 4 = .ok (.aload_n 0, 1) := by decide +kernel
theorem dX12_preach_5 : decode cX12_preach 5 = .ok (.iload_n 1, 1) := by decide +kernel
theorem dX12_preach_6 : decode cX12_preach 6 = .ok (.invokevirtual 318, 3) := by decide +kernel
theorem dX12_preach_9 : decode cX12_preach 9 = .ok (.ifCond .ne 9, 3) := by decide +kernel
theorem dX12_preach_12 : decode cX12_preach 12 = .ok (.aload_n 0, 1) := by decide +kernel
theorem dX12_preach_13 : decode cX12_preach 13 = .ok (.iconst 1, 1) := by decide +kernel
theorem dX12_preach_14 : decode cX12_preach 14 = .ok (.invokevirtual 427, 3) := by decide +kernel
theorem dX12_preach_17 : decode cX12_preach 17 = .ok (.ireturn, 1) := by decide +kernel
theorem dX12_preach_18 : decode cX12_preach 18 = .ok (.iload_n 2, 1) := by decide +kernel
theorem dX12_preach_19 : decode cX12_preach 19 = .ok (.iconst (-1), 1) := by decide +kernel
theorem dX12_preach_20 : decode cX12_preach 20 = .ok (.iconst 1, 1) := by decide +kernel
theorem dX12_preach_21 : decode cX12_preach 21 = .ok (.invokestatic 160, 3) := by decide +kernel
theorem dX12_preach_24 : decode cX12_preach 24 = .ok (.ifCond .ne 9, 3) := by decide +kernel
theorem dX12_preach_27 : decode cX12_preach 27 = .ok (.aload_n 0, 1) := by decide +kernel
theorem dX12_preach_28 : decode cX12_preach 28 = .ok (.iconst 2, 1) := by decide +kernel
theorem dX12_preach_29 : decode cX12_preach 29 = .ok (.invokevirtual 427, 3) := by decide +kernel
theorem dX12_preach_32 : decode cX12_preach 32 = .ok (.ireturn, 1) := by decide +kernel
theorem dX12_preach_33 : decode cX12_preach 33 = .ok (.aload_n 0, 1) := by decide +kernel
theorem dX12_preach_34 : decode cX12_preach 34 = .ok (.getfield 26, 3) := by decide +kernel
theorem dX12_preach_37 : decode cX12_preach 37 = .ok (.bipush 7, 2) := by decide +kernel
theorem dX12_preach_39 : decode cX12_preach 39 = .ok (.iload_n 1, 1) := by decide +kernel
theorem dX12_preach_40 : decode cX12_preach 40 = .ok (.iadd, 1) := by decide +kernel
theorem dX12_preach_41 : decode cX12_preach 41 = .ok (.iaload, 1) := by decide +kernel
theorem dX12_preach_42 : decode cX12_preach 42 = .ok (.iload_n 2, 1) := by decide +kernel
theorem dX12_preach_43 : decode cX12_preach 43 = .ok (.if_icmp .ne 9, 3) := by decide +kernel
theorem dX12_preach_46 : decode cX12_preach 46 = .ok (.aload_n 0, 1) := by decide +kernel
theorem dX12_preach_47 : decode cX12_preach 47 = .ok (.iconst 5, 1) := by decide +kernel
theorem dX12_preach_48 : decode cX12_preach 48 = .ok (.invokevirtual 427, 3) := by decide +kernel
theorem dX12_preach_51 : decode cX12_preach 51 = .ok (.ireturn, 1) := by decide +kernel
theorem dX12_preach_52 : decode cX12_preach 52 = .ok (.aload_n 0, 1) := by decide +kernel
theorem dX12_preach_53 : decode cX12_preach 53 = .ok (.invokevirtual 430, 3) := by decide +kernel
theorem dX12_preach_56 : decode cX12_preach 56 = .ok (.aload_n 0, 1) := by decide +kernel
theorem dX12_preach_57 : decode cX12_preach 57 = .ok (.getfield 26, 3) := by decide +kernel
theorem dX12_preach_60 : decode cX12_preach 60 = .ok (.bipush 7, 2) := by decide +kernel
theorem dX12_preach_62 : decode cX12_preach 62 = .ok (.iload_n 1, 1) := by decide +kernel
theorem dX12_preach_63 : decode cX12_preach 63 = .ok (.iadd, 1) := by decide +kernel
theorem dX12_preach_64 : decode cX12_preach 64 = .ok (.iload_n 2, 1) := by decide +kernel
theorem dX12_preach_65 : decode cX12_preach 65 = .ok (.iastore, 1) := by decide +kernel
theorem dX12_preach_66 : decode cX12_preach 66 = .ok (.iconst 1, 1) := by decide +kernel
theorem dX12_preach_67 : decode cX12_preach 67 = .ok (.ireturn, 1) := by decide +kernel
theorem dX12_round_0 : decode cX12_round 0 = .ok (.aload_n 0, 1) := by decide +kernel
theorem dX12_round_1 : decode cX12_round 1 = .ok (.invokevirtual 181, 3) := by decide +kernel
theorem dX12_round_4 : decode cX12_round 4 = .ok (.aload_n 0, 1) := by decide +kernel
theorem dX12_round_5 : decode cX12_round 5 = .ok (.getfield 194, 3) := by decide +kernel
theorem dX12_round_8 : decode cX12_round 8 = .ok (.ifCond .ne 9, 3) := by decide +kernel
theorem dX12_round_11 : decode cX12_round 11 = .ok (.aload_n 0, 1) := by decide +kernel
theorem dX12_round_12 : decode cX12_round 12 = .ok (.iconst 1, 1) := by decide +kernel
theorem dX12_round_13 : decode cX12_round 13 = .ok (.invokevirtual 184, 3) := by decide +kernel
theorem dX12_round_16 : decode cX12_round 16 = .ok (.ireturn, 1) := by decide +kernel
theorem dX12_round_17 : decode cX12_round 17 = .ok (.aload_n 0, 1) := by decide +kernel
theorem dX12_round_18 : decode cX12_round 18 = .ok (.invokevirtual 430, 3) := by decide +kernel
theorem dX12_round_21 : decode cX12_round 21 = .ok (.aload_n 0, 1) := by decide +kernel
theorem dX12_round_22 : decode cX12_round 22 = .ok (.aload_n 0, 1) := by decide +kernel
theorem dX12_round_23 : decode cX12_round 23 = .ok (.getfield 26, 3) := by decide +kernel
theorem dX12_round_26 : decode cX12_round 26 = .ok (.bipush 7, 2) := by decide +kernel
theorem dX12_round_28 : decode cX12_round 28 = .ok (.invokevirtual 396, 3) := by decide +kernel
theorem dX12_round_31 : decode cX12_round 31 = .ok (.ireturn, 1) := by decide +kernel
theorem dX12_day_0 : decode cX12_day 0 = .ok (.aload_n 0, 1) := by decide +kernel
theorem dX12_day_1 : decode cX12_day 1 = .ok (.invokevirtual 181, 3) := by decide +kernel
theorem dX12_day_4 : decode cX12_day 4 = .ok (.aload_n 0, 1) := by decide +kernel
theorem dX12_day_5 : decode cX12_day 5 = .ok (.getfield 194, 3) := by decide +kernel
theorem dX12_day_8 : decode cX12_day 8 = .ok (.ifCond .ne 9, 3) := by decide +kernel
theorem dX12_day_11 : decode cX12_day 11 = .ok (.aload_n 0, 1) := by decide +kernel
theorem dX12_day_12 : decode cX12_day 12 = .ok (.iconst 1, 1) := by decide +kernel
theorem dX12_day_13 : decode cX12_day 13 = .ok (.invokevirtual 184, 3) := by decide +kernel
theorem dX12_day_16 : decode cX12_day 16 = .ok (.ireturn, 1) := by decide +kernel
theorem dX12_day_17 : decode cX12_day 17 = .ok (.aload_n 0, 1) := by decide +kernel
theorem dX12_day_18 : decode cX12_day 18 = .ok (.getfield 26, 3) := by decide +kernel
theorem dX12_day_21 : decode cX12_day 21 = .ok (.bipush 15, 2) := by decide +kernel
theorem dX12_day_23 : decode cX12_day 23 = .ok (.iaload, 1) := by decide +kernel
theorem dX12_day_24 : decode cX12_day 24 = .ok (.bipush 99, 2) := by decide +kernel
theorem dX12_day_26 : decode cX12_day 26 = .ok (.if_icmp .ne 9, 3) := by decide +kernel
theorem dX12_day_29 : decode cX12_day 29 = .ok (.aload_n 0, 1) := by decide +kernel
theorem dX12_day_30 : decode cX12_day 30 = .ok (.iconst 3, 1) := by decide +kernel
theorem dX12_day_31 : decode cX12_day 31 = .ok (.invokevirtual 184, 3) := by decide +kernel
theorem dX12_day_34 : decode cX12_day 34 = .ok (.ireturn, 1) := by decide +kernel
theorem dX12_day_35 : decode cX12_day 35 = .ok (.aload_n 0, 1) := by decide +kernel
theorem dX12_day_36 : decode cX12_day 36 = .ok (.invokevirtual 430, 3) := by decide +kernel
theorem dX12_day_39 : decode cX12_day 39 = .ok (.aload_n 0, 1) := by decide +kernel
theorem dX12_day_40 : decode cX12_day 40 = .ok (.aload_n 0, 1) := by decide +kernel
theorem dX12_day_41 : decode cX12_day 41 = .ok (.getfield 26, 3) := by decide +kernel
theorem dX12_day_44 : decode cX12_day 44 = .ok (.bipush 14, 2) := by decide +kernel
theorem dX12_day_46 : decode cX12_day 46 = .ok (.iaload, 1) := by decide +kernel
theorem dX12_day_47 : decode cX12_day 47 = .ok (.invokevirtual 373, 3) := by decide +kernel
theorem dX12_day_50 : decode cX12_day 50 = .ok (.istore_n 1, 1) := by decide +kernel
theorem dX12_day_51 : decode cX12_day 51 = .ok (.aload_n 0, 1) := by decide +kernel
theorem dX12_day_52 : decode cX12_day 52 = .ok (.getfield 26, 3) := by decide +kernel
theorem dX12_day_55 : decode cX12_day 55 = .ok (.bipush 14, 2) := by decide +kernel
theorem dX12_day_57 : decode cX12_day 57 = .ok (.dup2, 1) := by decide +kernel
theorem dX12_day_58 : decode cX12_day 58 = .ok (.iaload, 1) := by decide +kernel
theorem dX12_day_59 : decode cX12_day 59 = .ok (.iload_n 1, 1) := by decide +kernel
theorem dX12_day_60 : decode cX12_day 60 = .ok (.invokestatic 299, 3) := by decide +kernel
theorem dX12_day_63 : decode cX12_day 63 = .ok (.isub, 1) := by decide +kernel
theorem dX12_day_64 : decode cX12_day 64 = .ok (.iastore, 1) := by decide +kernel
theorem dX12_day_65 : decode cX12_day 65 = .ok (.aload_n 0, 1) := by decide +kernel
theorem dX12_day_66 : decode cX12_day 66 = .ok (.getfield 26, 3) := by decide +kernel
theorem dX12_day_69 : decode cX12_day 69 = .ok (.bipush 15, 2) := by decide +kernel
theorem dX12_day_71 : decode cX12_day 71 = .ok (.dup2, 1) := by decide +kernel
theorem dX12_day_72 : decode cX12_day 72 = .ok (.iaload, 1) := by decide +kernel
theorem dX12_day_73 : decode cX12_day 73 = .ok (.iconst 1, 1) := by decide +kernel
theorem dX12_day_74 : decode cX12_day 74 = .ok (.iadd, 1) := by decide +kernel
theorem dX12_day_75 : decode cX12_day 75 = .ok (.iastore, 1) := by decide +kernel
theorem dX12_day_76 : decode cX12_day 76 = .ok (.iload_n 1, 1) := by decide +kernel
theorem dX12_day_77 : decode cX12_day 77 = .ok (.ireturn, 1) := by decide +kernel
theorem dX12_undo_0 : decode cX12_undo 0 = .ok (.aload_n 0, 1) := by decide +kernel
theorem dX12_undo_1 : decode cX12_undo 1 = .ok (.invokevirtual 181, 3) := by decide +kernel
theorem dX12_undo_4 : decode cX12_undo 4 = .ok (.aload_n 0, 1) := by decide +kernel
theorem dX12_undo_5 : decode cX12_undo 5 = .ok (.getfield 197, 3) := by decide +kernel
theorem dX12_undo_8 : decode cX12_undo 8 = .ok (.ifCond .ne 10, 3) := by decide +kernel
theorem dX12_undo_11 : decode cX12_undo 11 = .ok (.aload_n 0, 1) := by decide +kernel
theorem dX12_undo_12 : decode cX12_undo 12 = .ok (.bipush 6, 2) := by decide +kernel
theorem dX12_undo_14 : decode cX12_undo 14 = .ok (.invokevirtual 427, 3) := by decide +kernel
theorem dX12_undo_17 : decode cX12_undo 17 = .ok (.ireturn, 1) := by decide +kernel
theorem dX12_undo_18 : decode cX12_undo 18 = .ok (.aload_n 0, 1) := by decide +kernel
theorem dX12_undo_19 : decode cX12_undo 19 = .ok (.dup, 1) := by decide +kernel
theorem dX12_undo_20 : decode cX12_undo 20 = .ok (.getfield 197, 3) := by decide +kernel
theorem dX12_undo_23 : decode cX12_undo 23 = .ok (.iconst 1, 1) := by decide +kernel
theorem dX12_undo_24 : decode cX12_undo 24 = .ok (.isub, 1) := by decide +kernel
theorem dX12_undo_25 : decode cX12_undo 25 = .ok (.putfield 197, 3) := by decide +kernel
theorem dX12_undo_28 : decode cX12_undo 28 = .ok (.aload_n 0, 1) := by decide +kernel
theorem dX12_undo_29 : decode cX12_undo 29 = .ok (.getfield 29, 3) := by decide +kernel
theorem dX12_undo_32 : decode cX12_undo 32 = .ok (.bipush 16, 2) := by decide +kernel
theorem dX12_undo_34 : decode cX12_undo 34 = .ok (.aload_n 0, 1) := by decide +kernel
theorem dX12_undo_35 : decode cX12_undo 35 = .ok (.getfield 197, 3) := by decide +kernel
theorem dX12_undo_38 : decode cX12_undo 38 = .ok (.imul, 1) := by decide +kernel
theorem dX12_undo_39 : decode cX12_undo 39 = .ok (.aload_n 0, 1) := by decide +kernel
theorem dX12_undo_40 : decode cX12_undo 40 = .ok (.getfield 26, 3) := by decide +kernel
theorem dX12_undo_43 : decode cX12_undo 43 = .ok (.iconst 0, 1) := by decide +kernel
theorem dX12_undo_44 : decode cX12_undo 44 = .ok (.bipush 16, 2) := by decide +kernel
theorem dX12_undo_46 : decode cX12_undo 46 = .ok (.invokestatic 190, 3) := by decide +kernel
theorem dX12_undo_49 : decode cX12_undo 49 = .ok (.iconst 1, 1) := by decide +kernel
theorem dX12_undo_50 : decode cX12_undo 50 = .ok (.ireturn, 1) := by decide +kernel
theorem dX12_image_0 : decode cX12_image 0 = .ok (.aload_n 0, 1) := by decide +kernel
theorem dX12_image_1 : decode cX12_image 1 = .ok (.invokevirtual 181, 3) := by decide +kernel
theorem dX12_image_4 : decode cX12_image 4 = .ok (.aload_n 0, 1) := by decide +kernel
theorem dX12_image_5 : decode cX12_image 5 = .ok (.getfield 194, 3) := by decide +kernel
theorem dX12_image_8 : decode cX12_image 8 = .ok (.ifCond .ne 9, 3) := by decide +kernel
theorem dX12_image_11 : decode cX12_image 11 = .ok (.aload_n 0, 1) := by decide +kernel
theorem dX12_image_12 : decode cX12_image 12 = .ok (.iconst 1, 1) := by decide +kernel
theorem dX12_image_13 : decode cX12_image 13 = .ok (.invokevirtual 184, 3) := by decide +kernel
theorem dX12_image_16 : decode cX12_image 16 = .ok (.ireturn, 1) := by decide +kernel
theorem dX12_image_17 : decode cX12_image 17 = .ok (.aload_n 0, 1) := by decide +kernel
theorem dX12_image_18 : decode cX12_image 18 = .ok (.getfield 200, 3) := by decide +kernel
theorem dX12_image_21 : decode cX12_image 21 = .ok (.iconst 3, 1) := by decide +kernel
theorem dX12_image_22 : decode cX12_image 22 = .ok (.if_icmp .ne 9, 3) := by decide +kernel
theorem dX12_image_25 : decode cX12_image 25 = .ok (.aload_n 0, 1) := by decide +kernel
theorem dX12_image_26 : decode cX12_image 26 = .ok (.iconst 3, 1) := by decide +kernel
theorem dX12_image_27 : decode cX12_image 27 = .ok (.invokevirtual 184, 3) := by decide +kernel
theorem dX12_image_30 : decode cX12_image 30 = .ok (.ireturn, 1) := by decide +kernel
theorem dX12_image_31 : decode cX12_image 31 = .ok (.aload_n 0, 1) := by decide +kernel
theorem dX12_image_32 : decode cX12_image 32 = .ok (.getfield 26, 3) := by decide +kernel
theorem dX12_image_35 : decode cX12_image 35 = .ok (.iconst 0, 1) := by decide +kernel
theorem dX12_image_36 : decode cX12_image 36 = .ok (.aload_n 0, 1) := by decide +kernel
theorem dX12_image_37 : decode cX12_image 37 = .ok (.getfield 32, 3) := by decide +kernel
theorem dX12_image_40 : decode cX12_image 40 = .ok (.bipush 16, 2) := by decide +kernel
theorem dX12_image_42 : decode cX12_image 42 = .ok (.aload_n 0, 1) := by decide +kernel
theorem dX12_image_43 : decode cX12_image 43 = .ok (.getfield 200, 3) := by decide +kernel
theorem dX12_image_46 : decode cX12_image 46 = .ok (.imul, 1) := by decide +kernel
theorem dX12_image_47 : decode cX12_image 47 = .ok (.bipush 16, 2) := by decide +kernel
theorem dX12_image_49 : decode cX12_image 49 = .ok (.invokestatic 190, 3) := by decide +kernel
theorem dX12_image_52 : decode cX12_image 52 = .ok (.aload_n 0, 1) := by decide +kernel
theorem dX12_image_53 : decode cX12_image 53 = .ok (.dup, 1) := by decide +kernel
theorem dX12_image_54 : decode cX12_image 54 = .ok (.getfield 200, 3) := by decide +kernel
theorem dX12_image_57 : decode cX12_image 57 = .ok (.iconst 1, 1) := by decide +kernel
theorem dX12_image_58 : decode cX12_image 58 = .ok (.iadd, 1) := by decide +kernel
theorem dX12_image_59 : decode cX12_image 59 = .ok (.putfield 200, 3) := by decide +kernel
theorem dX12_image_62 : decode cX12_image 62 = .ok (.aload_n 0, 1) := by decide +kernel
theorem dX12_image_63 : decode cX12_image 63 = .ok (.getfield 200, 3) := by decide +kernel
theorem dX12_image_66 : decode cX12_image 66 = .ok (.iconst 1, 1) := by decide +kernel
theorem dX12_image_67 : decode cX12_image 67 = .ok (.isub, 1) := by decide +kernel
theorem dX12_image_68 : decode cX12_image 68 = .ok (.ireturn, 1) := by decide +kernel
theorem dX12_back_0 : decode cX12_back 0 = .ok (.aload_n 0, 1) := by decide +kernel
theorem dX12_back_1 : decode cX12_back 1 = .ok (.invokevirtual 181, 3) := by decide +kernel
theorem dX12_back_4 : decode cX12_back 4 = .ok (.iload_n 1, 1) := by decide +kernel
theorem dX12_back_5 : decode cX12_back 5 = .ok (.iconst 0, 1) := by decide +kernel
theorem dX12_back_6 : decode cX12_back 6 = .ok (.aload_n 0, 1) := by decide +kernel
theorem dX12_back_7 : decode cX12_back 7 = .ok (.getfield 200, 3) := by decide +kernel
theorem dX12_back_10 : decode cX12_back 10 = .ok (.iconst 1, 1) := by decide +kernel
theorem dX12_back_11 : decode cX12_back 11 = .ok (.isub, 1) := by decide +kernel
theorem dX12_back_12 : decode cX12_back 12 = .ok (.invokestatic 160, 3) := by decide +kernel
theorem dX12_back_15 : decode cX12_back 15 = .ok (.ifCond .ne 9, 3) := by decide +kernel
theorem dX12_back_18 : decode cX12_back 18 = .ok (.aload_n 0, 1) := by decide +kernel
theorem dX12_back_19 : decode cX12_back 19 = .ok (.iconst 1, 1) := by decide +kernel
theorem dX12_back_20 : decode cX12_back 20 = .ok (.invokevirtual 427, 3) := by decide +kernel
theorem dX12_back_23 : decode cX12_back 23 = .ok (.ireturn, 1) := by decide +kernel
theorem dX12_back_24 : decode cX12_back 24 = .ok (.aload_n 0, 1) := by decide +kernel
theorem dX12_back_25 : decode cX12_back 25 = .ok (.getfield 32, 3) := by decide +kernel
theorem dX12_back_28 : decode cX12_back 28 = .ok (.bipush 16, 2) := by decide +kernel
theorem dX12_back_30 : decode cX12_back 30 = .ok (.iload_n 1, 1) := by decide +kernel
theorem dX12_back_31 : decode cX12_back 31 = .ok (.imul, 1) := by decide +kernel
theorem dX12_back_32 : decode cX12_back 32 = .ok (.aload_n 0, 1) := by decide +kernel
theorem dX12_back_33 : decode cX12_back 33 = .ok (.getfield 26, 3) := by decide +kernel
theorem dX12_back_36 : decode cX12_back 36 = .ok (.iconst 0, 1) := by decide +kernel
theorem dX12_back_37 : decode cX12_back 37 = .ok (.bipush 16, 2) := by decide +kernel
theorem dX12_back_39 : decode cX12_back 39 = .ok (.invokestatic 190, 3) := by decide +kernel
theorem dX12_back_42 : decode cX12_back 42 = .ok (.aload_n 0, 1) := by decide +kernel
theorem dX12_back_43 : decode cX12_back 43 = .ok (.iconst 0, 1) := by decide +kernel
theorem dX12_back_44 : decode cX12_back 44 = .ok (.putfield 197, 3) := by decide +kernel
theorem dX12_back_47 : decode cX12_back 47 = .ok (.iconst 1, 1) := by decide +kernel
theorem dX12_back_48 : decode cX12_back 48 = .ok (.ireturn, 1) := by decide +kernel
theorem dX12_led_0 : decode cX12_led 0 = .ok (.iconst 0, 1) := by decide +kernel
theorem dX12_led_1 : decode cX12_led 1 = .ok (.istore_n 2, 1) := by decide +kernel
theorem dX12_led_2 : decode cX12_led 2 = .ok (.iconst 0, 1) := by decide +kernel
theorem dX12_led_3 : decode cX12_led 3 = .ok (.istore_n 3, 1) := by decide +kernel
theorem dX12_led_4 : decode cX12_led 4 = .ok (.aload_n 0, 1) := by decide +kernel
theorem dX12_led_5 : decode cX12_led 5 = .ok (.getfield 194, 3) := by decide +kernel
theorem dX12_led_8 : decode cX12_led 8 = .ok (.ifCond .eq 46, 3) := by decide +kernel
theorem dX12_led_11 : decode cX12_led 11 = .ok (.iload_n 3, 1) := by decide +kernel
theorem dX12_led_12 : decode cX12_led 12 = .ok (.aload_n 0, 1) := by decide +kernel
theorem dX12_led_13 : decode cX12_led 13 = .ok (.getfield 20, 3) := by decide +kernel
theorem dX12_led_16 : decode cX12_led 16 = .ok (.iconst 4, 1) := by decide +kernel
theorem dX12_led_17 : decode cX12_led 17 = .ok (.iaload, 1) := by decide +kernel
theorem dX12_led_18 : decode cX12_led 18 = .ok (.if_icmp .ge 36, 3) := by decide +kernel
theorem dX12_led_21 : decode cX12_led 21 = .ok (.aload_n 0, 1) := by decide +kernel
theorem dX12_led_22 : decode cX12_led 22 = .ok (.getfield 26, 3) := by decide +kernel
theorem dX12_led_25 : decode cX12_led 25 = .ok (.iload_n 3, 1) := by decide +kernel
theorem dX12_led_26 : decode cX12_led 26 = .ok (.iaload, 1) := by decide +kernel
theorem dX12_led_27 : decode cX12_led 27 = .ok (.ifCond .le 6, 3) := by decide +kernel
theorem dX12_led_30 : decode cX12_led 30 = .ok (.goto 18, 3) := by decide +kernel
theorem dX12_led_33 : decode cX12_led 33 = .ok (.iload_n 2, 1) := by decide +kernel
theorem dX12_led_34 : decode cX12_led 34 = .ok (.iload_n 1, 1) := by decide +kernel
theorem dX12_led_35 : decode cX12_led 35 = .ok (.if_icmp .ne 10, 3) := by decide +kernel
theorem dX12_led_38 : decode cX12_led 38 = .ok (.aload_n 0, 1) := by decide +kernel
theorem dX12_led_39 : decode cX12_led 39 = .ok (.iconst 0, 1) := by decide +kernel
theorem dX12_led_40 : decode cX12_led 40 = .ok (.putfield 65, 3) := by decide +kernel
theorem dX12_led_43 : decode cX12_led 43 = .ok (.iload_n 3, 1) := by decide +kernel
theorem dX12_led_44 : decode cX12_led 44 = .ok (.ireturn, 1) := by decide +kernel
theorem dX12_led_45 : decode cX12_led 45 = .ok (.iinc 2 1, 3) := by decide +kernel
theorem dX12_led_48 : decode cX12_led 48 = .ok (.iinc 3 1, 3) := by decide +kernel
theorem dX12_led_51 : decode cX12_led 51 = .ok (.goto (-47), 3) := by decide +kernel
theorem dX12_led_54 : decode cX12_led 54 = .ok (.aload_n 0, 1) := by decide +kernel
theorem dX12_led_55 : decode cX12_led 55 = .ok (.iconst 1, 1) := by decide +kernel
theorem dX12_led_56 : decode cX12_led 56 = .ok (.putfield 65, 3) := by decide +kernel
theorem dX12_led_59 : decode cX12_led 59 = .ok (.iconst 0, 1) := by decide +kernel
theorem dX12_led_60 : decode cX12_led 60 = .ok (.ireturn, 1) := by decide +kernel
theorem dX12_size_0 : decode cX12_size 0 = .ok (.aload_n 0, 1) := by decide +kernel
theorem dX12_size_1 : decode cX12_size 1 = .ok (.iconst 0, 1) := by decide +kernel
theorem dX12_size_2 : decode cX12_size 2 = .ok (.putfield 65, 3) := by decide +kernel
theorem dX12_size_5 : decode cX12_size 5 = .ok (.iload_n 1, 1) := by decide +kernel
theorem dX12_size_6 : decode cX12_size 6 = .ok (.bipush 13, 2) := by decide +kernel
theorem dX12_size_8 : decode cX12_size 8 = .ok (.if_icmp .ne 8, 3) := by decide +kernel
theorem dX12_size_11 : decode cX12_size 11 = .ok (.aload_n 0, 1) := by decide +kernel
theorem dX12_size_12 : decode cX12_size 12 = .ok (.getfield 71, 3) := by decide +kernel
theorem dX12_size_15 : decode cX12_size 15 = .ok (.ireturn, 1) := by decide +kernel
theorem dX12_size_16 : decode cX12_size 16 = .ok (.aload_n 0, 1) := by decide +kernel
theorem dX12_size_17 : decode cX12_size 17 = .ok (.getfield 194, 3) := by decide +kernel
theorem dX12_size_20 : decode cX12_size 20 = .ok (.ifCond .ne 19, 3) := by decide +kernel
theorem dX12_size_23 : decode cX12_size 23 = .ok (.iload_n 1, 1) := by decide +kernel
theorem dX12_size_24 : decode cX12_size 24 = .ok (.iconst 0, 1) := by decide +kernel
theorem dX12_size_25 : decode cX12_size 25 = .ok (.bipush 12, 2) := by decide +kernel
theorem dX12_size_27 : decode cX12_size 27 = .ok (.invokestatic 160, 3) := by decide +kernel
theorem dX12_size_30 : decode cX12_size 30 = .ok (.ifCond .eq 7, 3) := by decide +kernel
theorem dX12_size_33 : decode cX12_size 33 = .ok (.iconst 0, 1) := by decide +kernel
theorem dX12_size_34 : decode cX12_size 34 = .ok (.goto 4, 3) := by decide +kernel
theorem dX12_size_37 : decode cX12_size 37 = .ok (.iconst (-1), 1) := by decide +kernel
theorem dX12_size_38 : decode cX12_size 38 = .ok (.ireturn, 1) := by decide +kernel
theorem dX12_size_39 : decode cX12_size 39 = .ok (.iload_n 1, 1) := by decide +kernel
theorem dX12_size_40 : decode cX12_size 40 = .ok (.iconst 0, 1) := by decide +kernel
theorem dX12_size_41 : decode cX12_size 41 = .ok (.bipush 8, 2) := by decide +kernel
theorem dX12_size_43 : decode cX12_size 43 = .ok (.invokestatic 160, 3) := by decide +kernel
theorem dX12_size_46 : decode cX12_size 46 = .ok (.ifCond .eq 10, 3) := by decide +kernel
theorem dX12_size_49 : decode cX12_size 49 = .ok (.aload_n 0, 1) := by decide +kernel
theorem dX12_size_50 : decode cX12_size 50 = .ok (.getfield 20, 3) := by decide +kernel
theorem dX12_size_53 : decode cX12_size 53 = .ok (.iload_n 1, 1) := by decide +kernel
theorem dX12_size_54 : decode cX12_size 54 = .ok (.iaload, 1) := by decide +kernel
theorem dX12_size_55 : decode cX12_size 55 = .ok (.ireturn, 1) := by decide +kernel
theorem dX12_size_56 : decode cX12_size 56 = .ok (.iload_n 1, 1) := by decide +kernel
theorem dX12_size_57 : decode cX12_size 57 = .ok (.bipush 9, 2) := by decide +kernel
theorem dX12_size_59 : decode cX12_size 59 = .ok (.if_icmp .ne 13, 3) := by decide +kernel
theorem dX12_size_62 : decode cX12_size 62 = .ok (.aload_n 0, 1) := by decide +kernel
theorem dX12_size_63 : decode cX12_size 63 = .ok (.getfield 26, 3) := by decide +kernel
theorem dX12_size_66 : decode cX12_size 66 = .ok (.bipush 14, 2) := by decide +kernel
theorem dX12_size_68 : decode cX12_size 68 = .ok (.iaload, 1) := by decide +kernel
theorem dX12_size_69 : decode cX12_size 69 = .ok (.goto 46, 3) := by decide +kernel
theorem dX12_size_72 : decode cX12_size 72 = .ok (.iload_n 1, 1) := by decide +kernel
theorem dX12_size_73 : decode cX12_size 73 = .ok (.bipush 10, 2) := by decide +kernel
theorem dX12_size_75 : decode cX12_size 75 = .ok (.if_icmp .ne 13, 3) := by decide +kernel
theorem dX12_size_78 : decode cX12_size 78 = .ok (.aload_n 0, 1) := by decide +kernel
theorem dX12_size_79 : decode cX12_size 79 = .ok (.getfield 26, 3) := by decide +kernel
theorem dX12_size_82 : decode cX12_size 82 = .ok (.bipush 15, 2) := by decide +kernel
theorem dX12_size_84 : decode cX12_size 84 = .ok (.iaload, 1) := by decide +kernel
theorem dX12_size_85 : decode cX12_size 85 = .ok (.goto 30, 3) := by decide +kernel
theorem dX12_size_88 : decode cX12_size 88 = .ok (.iload_n 1, 1) := by decide +kernel
theorem dX12_size_89 : decode cX12_size 89 = .ok (.bipush 11, 2) := by decide +kernel
theorem dX12_size_91 : decode cX12_size 91 = .ok (.if_icmp .ne 10, 3) := by decide +kernel
theorem dX12_size_94 : decode cX12_size 94 = .ok (.aload_n 0, 1) := by decide +kernel
theorem dX12_size_95 : decode cX12_size 95 = .ok (.getfield 197, 3) := by decide +kernel
theorem dX12_size_98 : decode cX12_size 98 = .ok (.goto 17, 3) := by decide +kernel
theorem dX12_size_101 : decode cX12_size 101 = .ok (.iload_n 1, 1) := by decide +kernel
theorem dX12_size_102 : decode cX12_size 102 = .ok (.bipush 12, 2) := by decide +kernel
theorem dX12_size_104 : decode cX12_size 104 = .ok (.if_icmp .ne 10, 3) := by decide +kernel
theorem dX12_size_107 : decode cX12_size 107 = .ok (.aload_n 0, 1) := by decide +kernel
theorem dX12_size_108 : decode cX12_size 108 = .ok (.getfield 200, 3) := by decide +kernel
theorem dX12_size_111 : decode cX12_size 111 = .ok (.goto 4, 3) := by decide +kernel
theorem dX12_size_114 : decode cX12_size 114 = .ok (.iconst (-1), 1) := by decide +kernel
theorem dX12_size_115 : decode cX12_size 115 = .ok (.ireturn, 1) := by decide +kernel
theorem dX12_trouble_0 : decode cX12_trouble 0 = .ok (.aload_n 0, 1) := by decide +kernel
theorem dX12_trouble_1 : decode cX12_trouble 1 = .ok (.iconst 0, 1) := by decide +kernel
theorem dX12_trouble_2 : decode cX12_trouble 2 = .ok (.putfield 65, 3) := by decide +kernel
theorem dX12_trouble_5 : decode cX12_trouble 5 = .ok (.aload_n 0, 1) := by decide +kernel
theorem dX12_trouble_6 : decode cX12_trouble 6 = .ok (.getfield 68, 3) := by decide +kernel
theorem dX12_trouble_9 : decode cX12_trouble 9 = .ok (.ireturn, 1) := by decide +kernel
