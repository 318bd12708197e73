theorem dX10_init_0 : decode cX10_init 0 = .ok (.aload_n 0, 1) := by decide +kernel
theorem dX10_init_1 : decode cX10_init 1 = .ok (.invokespecial 3, 3) := by decide +kernel
theorem dX10_init_4 : decode cX10_init 4 = .ok (.aload_n 0, 1) := by decide +kernel
theorem dX10_init_5 : decode cX10_init 5 = .ok (.new 9, 3) := by decide +kernel
theorem dX10_init_8 : decode cX10_init 8 = .ok (.dup, 1) := by decide +kernel
theorem dX10_init_9 : decode cX10_init 9 = .ok (.invokespecial 11, 3) := by decide +kernel
theorem dX10_init_12 : decode cX10_init 12 = .ok (.putfield 12, 3) := by decide +kernel
theorem dX10_init_15 : decode cX10_init 15 = .ok (.aload_n 0, 1) := by decide +kernel
theorem dX10_init_16 : decode cX10_init 16 = .ok (.new 16, 3) := by decide +kernel
theorem dX10_init_19 : decode cX10_init 19 = .ok (.dup, 1) := by decide +kernel
theorem dX10_init_20 : decode cX10_init 20 = .ok (.invokespecial 18, 3) := by decide +kernel
theorem dX10_init_23 : decode cX10_init 23 = .ok (.putfield 19, 3) := by decide +kernel
theorem dX10_init_26 : decode cX10_init 26 = .ok (.aload_n 0, 1) := by decide +kernel
theorem dX10_init_27 : decode cX10_init 27 = .ok (.bipush 6, 2) := by decide +kernel
theorem dX10_init_29 : decode cX10_init 29 = .ok (.anewarray 23, 3) := by decide +kernel
theorem dX10_init_32 : decode cX10_init 32 = .ok (.putfield 25, 3) := by decide +kernel
theorem dX10_init_35 : decode cX10_init 35 = .ok (.aload_n 0, 1) := by decide +kernel
theorem dX10_init_36 : decode cX10_init 36 = .ok (.new 29, 3) := by decide +kernel
theorem dX10_init_39 : decode cX10_init 39 = .ok (.dup, 1) := by decide +kernel
theorem dX10_init_40 : decode cX10_init 40 = .ok (.invokespecial 31, 3) := by decide +kernel
theorem dX10_init_43 : decode cX10_init 43 = .ok (.putfield 32, 3) := by decide +kernel
theorem dX10_init_46 : decode cX10_init 46 = .ok (.aload_n 0, 1) := by decide +kernel
theorem dX10_init_47 : decode cX10_init 47 = .ok (.new 36, 3) := by decide +kernel
theorem dX10_init_50 : decode cX10_init 50 = .ok (.dup, 1) := by decide +kernel
theorem dX10_init_51 : decode cX10_init 51 = .ok (.aload_n 0, 1) := by decide +kernel
theorem dX10_init_52 : decode cX10_init 52 = .ok (.getfield 12, 3) := by decide +kernel
theorem dX10_init_55 : decode cX10_init 55 = .ok (.aload_n 0, 1) := by decide +kernel
theorem dX10_init_56 : decode cX10_init 56 = .ok (.getfield 19, 3) := by decide +kernel
theorem dX10_init_59 : decode cX10_init 59 = .ok (.invokespecial 38, 3) := by decide +kernel
theorem dX10_init_62 : decode cX10_init 62 = .ok (.putfield 41, 3) := by decide +kernel
theorem dX10_init_65 : decode cX10_init 65 = .ok (.aload_n 0, 1) := by decide +kernel
theorem dX10_init_66 : decode cX10_init 66 = .ok (.new 45, 3) := by decide +kernel
theorem dX10_init_69 : decode cX10_init 69 = .ok (.dup, 1) := by decide +kernel
theorem dX10_init_70 : decode cX10_init 70 = .ok (.aload_n 0, 1) := by decide +kernel
theorem dX10_init_71 : decode cX10_init 71 = .ok (.getfield 41, 3) := by decide +kernel
theorem dX10_init_74 : decode cX10_init 74 = .ok (.aload_n 0, 1) := by decide +kernel
theorem dX10_init_75 : decode cX10_init 75 = .ok (.getfield 19, 3) := by decide +kernel
theorem dX10_init_78 : decode cX10_init 78 = .ok (.invokespecial 47, 3) := by decide +kernel
theorem dX10_init_81 : decode cX10_init 81 = .ok (.putfield 50, 3) := by decide +kernel
theorem dX10_init_84 : decode cX10_init 84 = .ok (.aload_n 0, 1) := by decide +kernel
theorem dX10_init_85 : decode cX10_init 85 = .ok (.new 54, 3) := by decide +kernel
theorem dX10_init_88 : decode cX10_init 88 = .ok (.dup, 1) := by decide +kernel
theorem dX10_init_89 : decode cX10_init 89 = .ok (.aload_n 0, 1) := by decide +kernel
theorem dX10_init_90 : decode cX10_init 90 = .ok (.getfield 41, 3) := by decide +kernel
theorem dX10_init_93 : decode cX10_init 93 = .ok (.aload_n 0, 1) := by decide +kernel
theorem dX10_init_94 : decode cX10_init 94 = .ok (.getfield 19, 3) := by decide +kernel
theorem dX10_init_97 : decode cX10_init 97 = .ok (.invokespecial 56, 3) := by decide +kernel
theorem dX10_init_100 : decode cX10_init 100 = .ok (.putfield 57, 3) := by decide +kernel
theorem dX10_init_103 : decode cX10_init 103 = .ok (.aload_n 0, 1) := by decide +kernel
theorem dX10_init_104 : decode cX10_init 104 = .ok (.iconst 4, 1) := by decide +kernel
theorem dX10_init_105 : decode cX10_init 105 = .ok (.anewarray 61, 3) := by decide +kernel
theorem dX10_init_108 : decode cX10_init 108 = .ok (.putfield 63, 3) := by decide +kernel
theorem dX10_init_111 : decode cX10_init 111 = .ok (.aload_n 0, 1) := by decide +kernel
theorem dX10_init_112 : decode cX10_init 112 = .ok (.new 67, 3) := by decide +kernel
theorem dX10_init_115 : decode cX10_init 115 = .ok (.dup, 1) := by decide +kernel
theorem dX10_init_116 : decode cX10_init 116 = .ok (.invokespecial 69, 3) := by decide +kernel
theorem dX10_init_119 : decode cX10_init 119 = .ok (.putfield 70, 3) := by decide +kernel
theorem dX10_init_122 : decode cX10_init 122 = .ok (.aload_n 0, 1) := by decide +kernel
theorem dX10_init_123 : decode cX10_init 123 = .ok (.bipush 6, 2) := by decide +kernel
theorem dX10_init_125 : decode cX10_init 125 = .ok (.newarray .int, 2) := by decide +kernel
theorem dX10_init_127 : decode cX10_init 127 = .ok (.putfield 74, 3) := by decide +kernel
theorem dX10_init_130 : decode cX10_init 130 = .ok (.iconst 0, 1) := by decide +kernel
theorem dX10_init_131 : decode cX10_init 131 = .ok (.istore_n 1, 1) := by decide +kernel
theorem dX10_init_132 : decode cX10_init 132 = .ok (.iload_n 1, 1) := by decide +kernel
theorem dX10_init_133 : decode cX10_init 133 = .ok (.bipush 6, 2) := by decide +kernel
theorem dX10_init_135 : decode cX10_init 135 = .ok (.if_icmp .ge 22, 3) := by decide +kernel
theorem dX10_init_138 : decode cX10_init 138 = .ok (.aload_n 0, 1) := by decide +kernel
theorem dX10_init_139 : decode cX10_init 139 = .ok (.getfield 25, 3) := by decide +kernel
theorem dX10_init_142 : decode cX10_init 142 = .ok (.iload_n 1, 1) := by decide +kernel
theorem dX10_init_143 : decode cX10_init 143 = .ok (.new 23, 3) := by decide +kernel
theorem dX10_init_146 : decode cX10_init 146 = .ok (.dup, 1) := by decide +kernel
theorem dX10_init_147 : decode cX10_init 147 = .ok (.invokespecial 78, 3) := by decide +kernel
theorem dX10_init_150 : decode cX10_init 150 = .ok (.aastore, 1) := by decide +kernel
theorem dX10_init_151 : decode cX10_init 151 = .ok (.iinc 1 1, 3) := by decide +kernel
theorem dX10_init_154 : decode cX10_init 154 = .ok (.goto (-22), 3) := by decide +kernel
theorem dX10_init_157 : decode cX10_init 157 = .ok (.iconst 0, 1) := by decide +kernel
theorem dX10_init_158 : decode cX10_init 158 = .ok (.istore_n 1, 1) := by decide +kernel
theorem dX10_init_159 : decode cX10_init 159 = .ok (.iload_n 1, 1) := by decide +kernel
theorem dX10_init_160 : decode cX10_init 160 = .ok (.iconst 4, 1) := by decide +kernel
theorem dX10_init_161 : decode cX10_init 161 = .ok (.if_icmp .ge 22, 3) := by decide +kernel
theorem dX10_init_164 : decode cX10_init 164 = .ok (.aload_n 0, 1) := by decide +kernel
theorem dX10_init_165 : decode cX10_init 165 = .ok (.getfield 63, 3) := by decide +kernel
theorem dX10_init_168 : decode cX10_init 168 = .ok (.iload_n 1, 1) := by decide +kernel
theorem dX10_init_169 : decode cX10_init 169 = .ok (.new 61, 3) := by decide +kernel
theorem dX10_init_172 : decode cX10_init 172 = .ok (.dup, 1) := by decide +kernel
theorem dX10_init_173 : decode cX10_init 173 = .ok (.invokespecial 79, 3) := by decide +kernel
theorem dX10_init_176 : decode cX10_init 176 = .ok (.aastore, 1) := by decide +kernel
theorem dX10_init_177 : decode cX10_init 177 = .ok (.iinc 1 1, 3) := by decide +kernel
theorem dX10_init_180 : decode cX10_init 180 = .ok (.goto (-21), 3) := by decide +kernel
theorem dX10_init_183 : decode cX10_init 183 = .ok (.iconst 0, 1) := by decide +kernel
theorem dX10_init_184 : decode cX10_init 184 = .ok (.istore_n 1, 1) := by decide +kernel
theorem dX10_init_185 : decode cX10_init 185 = .ok (.iload_n 1, 1) := by decide +kernel
theorem dX10_init_186 : decode cX10_init 186 = .ok (.ldc 80, 2) := by decide +kernel
theorem dX10_init_188 : decode cX10_init 188 = .ok (.invokevirtual 82, 3) := by decide +kernel
theorem dX10_init_191 : decode cX10_init 191 = .ok (.if_icmp .ge 22, 3) := by decide +kernel
theorem dX10_init_194 : decode cX10_init 194 = .ok (.aload_n 0, 1) := by decide +kernel
theorem dX10_init_195 : decode cX10_init 195 = .ok (.getfield 32, 3) := by decide +kernel
theorem dX10_init_198 : decode cX10_init 198 = .ok (.ldc 80, 2) := by decide +kernel
theorem dX10_init_200 : decode cX10_init 200 = .ok (.iload_n 1, 1) := by decide +kernel
theorem dX10_init_201 : decode cX10_init 201 = .ok (.invokevirtual 88, 3) := by decide +kernel
theorem dX10_init_204 : decode cX10_init 204 = .ok (.invokevirtual 92, 3) := by decide +kernel
theorem dX10_init_207 : decode cX10_init 207 = .ok (.iinc 1 1, 3) := by decide +kernel
theorem dX10_init_210 : decode cX10_init 210 = .ok (.goto (-25), 3) := by decide +kernel
theorem dX10_init_213 : decode cX10_init 213 = .ok (.aload_n 0, 1) := by decide +kernel
theorem dX10_init_214 : decode cX10_init 214 = .ok (.getfield 32, 3) := by decide +kernel
theorem dX10_init_217 : decode cX10_init 217 = .ok (.aload_n 0, 1) := by decide +kernel
theorem dX10_init_218 : decode cX10_init 218 = .ok (.getfield 25, 3) := by decide +kernel
theorem dX10_init_221 : decode cX10_init 221 = .ok (.iconst 0, 1) := by decide +kernel
theorem dX10_init_222 : decode cX10_init 222 = .ok (.aaload, 1) := by decide +kernel
theorem dX10_init_223 : decode cX10_init 223 = .ok (.invokevirtual 96, 3) := by decide +kernel
theorem dX10_init_226 : decode cX10_init 226 = .ok (.pop, 1) := by decide +kernel
theorem dX10_init_227 : decode cX10_init 227 = .ok (.aload_n 0, 1) := by decide +kernel
theorem dX10_init_228 : decode cX10_init 228 = .ok (.iconst 1, 1) := by decide +kernel
theorem dX10_init_229 : decode cX10_init 229 = .ok (.putfield 100, 3) := by decide +kernel
theorem dX10_init_232 : decode cX10_init 232 = .ok (.return_, 1) := by decide +kernel
theorem dX10_scale_0 : decode cX10_scale 0 = .ok (.iload_n 1, 1) := by decide +kernel
theorem dX10_scale_1 : decode cX10_scale 1 = .ok (.iconst 0, 1) := by decide +kernel
theorem dX10_scale_2 : decode cX10_scale 2 = .ok (.iconst 2, 1) := by decide +kernel
theorem dX10_scale_3 : decode cX10_scale 3 = .ok (.invokestatic 104, 3) := by decide +kernel
theorem dX10_scale_6 : decode cX10_scale 6 = .ok (.ifCond .ne 5, 3) := by decide +kernel
theorem dX10_scale_9 : decode cX10_scale 9 = .ok (.iconst (-1), 1) := by decide +kernel
theorem dX10_scale_10 : decode cX10_scale 10 = .ok (.ireturn, 1) := by decide +kernel
theorem dX10_scale_11 : decode cX10_scale 11 = .ok (.iload_n 1, 1) := by decide +kernel
theorem dX10_scale_12 : decode cX10_scale 12 = .ok (.iconst 2, 1) := by decide +kernel
theorem dX10_scale_13 : decode cX10_scale 13 = .ok (.if_icmp .ne 13, 3) := by decide +kernel
theorem dX10_scale_16 : decode cX10_scale 16 = .ok (.iload_n 2, 1) := by decide +kernel
theorem dX10_scale_17 : decode cX10_scale 17 = .ok (.iconst 0, 1) := by decide +kernel
theorem dX10_scale_18 : decode cX10_scale 18 = .ok (.bipush 9, 2) := by decide +kernel
theorem dX10_scale_20 : decode cX10_scale 20 = .ok (.invokestatic 104, 3) := by decide +kernel
theorem dX10_scale_23 : decode cX10_scale 23 = .ok (.goto 9, 3) := by decide +kernel
theorem dX10_scale_26 : decode cX10_scale 26 = .ok (.iload_n 2, 1) := by decide +kernel
theorem dX10_scale_27 : decode cX10_scale 27 = .ok (.iconst 1, 1) := by decide +kernel
theorem dX10_scale_28 : decode cX10_scale 28 = .ok (.iconst 3, 1) := by decide +kernel
theorem dX10_scale_29 : decode cX10_scale 29 = .ok (.invokestatic 104, 3) := by decide +kernel
theorem dX10_scale_32 : decode cX10_scale 32 = .ok (.istore_n 3, 1) := by decide +kernel
theorem dX10_scale_33 : decode cX10_scale 33 = .ok (.iload_n 3, 1) := by decide +kernel
theorem dX10_scale_34 : decode cX10_scale 34 = .ok (.ifCond .ne 6, 3) := by decide +kernel
theorem dX10_scale_37 : decode cX10_scale 37 = .ok (.bipush (-2), 2) := by decide +kernel
theorem dX10_scale_39 : decode cX10_scale 39 = .ok (.ireturn, 1) := by decide +kernel
theorem dX10_scale_40 : decode cX10_scale 40 = .ok (.aload_n 0, 1) := by decide +kernel
theorem dX10_scale_41 : decode cX10_scale 41 = .ok (.getfield 12, 3) := by decide +kernel
theorem dX10_scale_44 : decode cX10_scale 44 = .ok (.getfield 108, 3) := by decide +kernel
theorem dX10_scale_47 : decode cX10_scale 47 = .ok (.iload_n 1, 1) := by decide +kernel
theorem dX10_scale_48 : decode cX10_scale 48 = .ok (.iaload, 1) := by decide +kernel
theorem dX10_scale_49 : decode cX10_scale 49 = .ok (.istore 4, 2) := by decide +kernel
theorem dX10_scale_51 : decode cX10_scale 51 = .ok (.aload_n 0, 1) := by decide +kernel
theorem dX10_scale_52 : decode cX10_scale 52 = .ok (.getfield 12, 3) := by decide +kernel
theorem dX10_scale_55 : decode cX10_scale 55 = .ok (.getfield 108, 3) := by decide +kernel
theorem dX10_scale_58 : decode cX10_scale 58 = .ok (.iload_n 1, 1) := by decide +kernel
theorem dX10_scale_59 : decode cX10_scale 59 = .ok (.iload_n 2, 1) := by decide +kernel
theorem dX10_scale_60 : decode cX10_scale 60 = .ok (.iastore, 1) := by decide +kernel
theorem dX10_scale_61 : decode cX10_scale 61 = .ok (.iload 4, 2) := by decide +kernel
theorem dX10_scale_63 : decode cX10_scale 63 = .ok (.ireturn, 1) := by decide +kernel
theorem dX10_stone_0 : decode cX10_stone 0 = .ok (.iload_n 1, 1) := by decide +kernel
theorem dX10_stone_1 : decode cX10_stone 1 = .ok (.iconst 1, 1) := by decide +kernel
theorem dX10_stone_2 : decode cX10_stone 2 = .ok (.bipush 99, 2) := by decide +kernel
theorem dX10_stone_4 : decode cX10_stone 4 = .ok (.invokestatic 104, 3) := by decide +kernel
theorem dX10_stone_7 : decode cX10_stone 7 = .ok (.ifCond .ne 6, 3) := by decide +kernel
theorem dX10_stone_10 : decode cX10_stone 10 = .ok (.bipush (-2), 2) := by decide +kernel
theorem dX10_stone_12 : decode cX10_stone 12 = .ok (.ireturn, 1) := by decide +kernel
theorem dX10_stone_13 : decode cX10_stone 13 = .ok (.aload_n 0, 1) := by decide +kernel
theorem dX10_stone_14 : decode cX10_stone 14 = .ok (.getfield 12, 3) := by decide +kernel
theorem dX10_stone_17 : decode cX10_stone 17 = .ok (.getfield 111, 3) := by decide +kernel
theorem dX10_stone_20 : decode cX10_stone 20 = .ok (.iconst 5, 1) := by decide +kernel
theorem dX10_stone_21 : decode cX10_stone 21 = .ok (.if_icmp .lt 6, 3) := by decide +kernel
theorem dX10_stone_24 : decode cX10_stone 24 = .ok (.bipush (-4), 2) := by decide +kernel
theorem dX10_stone_26 : decode cX10_stone 26 = .ok (.ireturn, 1) := by decide +kernel
theorem dX10_stone_27 : decode cX10_stone 27 = .ok (.aload_n 0, 1) := by decide +kernel
theorem dX10_stone_28 : decode cX10_stone 28 = .ok (.getfield 12, 3) := by decide +kernel
theorem dX10_stone_31 : decode cX10_stone 31 = .ok (.getfield 111, 3) := by decide +kernel
theorem dX10_stone_34 : decode cX10_stone 34 = .ok (.istore_n 2, 1) := by decide +kernel
theorem dX10_stone_35 : decode cX10_stone 35 = .ok (.aload_n 0, 1) := by decide +kernel
theorem dX10_stone_36 : decode cX10_stone 36 = .ok (.getfield 12, 3) := by decide +kernel
theorem dX10_stone_39 : decode cX10_stone 39 = .ok (.getfield 114, 3) := by decide +kernel
theorem dX10_stone_42 : decode cX10_stone 42 = .ok (.iload_n 2, 1) := by decide +kernel
theorem dX10_stone_43 : decode cX10_stone 43 = .ok (.iload_n 1, 1) := by decide +kernel
theorem dX10_stone_44 : decode cX10_stone 44 = .ok (.iastore, 1) := by decide +kernel
theorem dX10_stone_45 : decode cX10_stone 45 = .ok (.aload_n 0, 1) := by decide +kernel
theorem dX10_stone_46 : decode cX10_stone 46 = .ok (.getfield 12, 3) := by decide +kernel
theorem dX10_stone_49 : decode cX10_stone 49 = .ok (.iload_n 2, 1) := by decide +kernel
theorem dX10_stone_50 : decode cX10_stone 50 = .ok (.iconst 1, 1) := by decide +kernel
theorem dX10_stone_51 : decode cX10_stone 51 = .ok (.iadd, 1) := by decide +kernel
theorem dX10_stone_52 : decode cX10_stone 52 = .ok (.putfield 111, 3) := by decide +kernel
theorem dX10_stone_55 : decode cX10_stone 55 = .ok (.aload_n 0, 1) := by decide +kernel
theorem dX10_stone_56 : decode cX10_stone 56 = .ok (.getfield 12, 3) := by decide +kernel
theorem dX10_stone_59 : decode cX10_stone 59 = .ok (.invokevirtual 117, 3) := by decide +kernel
theorem dX10_stone_62 : decode cX10_stone 62 = .ok (.iload_n 2, 1) := by decide +kernel
theorem dX10_stone_63 : decode cX10_stone 63 = .ok (.ireturn, 1) := by decide +kernel
theorem dX10_sell_0 : decode cX10_sell 0 = .ok (.aload_n 0, 1) := by decide +kernel
theorem dX10_sell_1 : decode cX10_sell 1 = .ok (.getfield 12, 3) := by decide +kernel
theorem dX10_sell_4 : decode cX10_sell 4 = .ok (.getfield 111, 3) := by decide +kernel
theorem dX10_sell_7 : decode cX10_sell 7 = .ok (.ifCond .gt 6, 3) := by decide +kernel
theorem dX10_sell_10 : decode cX10_sell 10 = .ok (.bipush (-3), 2) := by decide +kernel
theorem dX10_sell_12 : decode cX10_sell 12 = .ok (.ireturn, 1) := by decide +kernel
theorem dX10_sell_13 : decode cX10_sell 13 = .ok (.aload_n 0, 1) := by decide +kernel
theorem dX10_sell_14 : decode cX10_sell 14 = .ok (.getfield 12, 3) := by decide +kernel
theorem dX10_sell_17 : decode cX10_sell 17 = .ok (.dup, 1) := by decide +kernel
theorem dX10_sell_18 : decode cX10_sell 18 = .ok (.getfield 111, 3) := by decide +kernel
theorem dX10_sell_21 : decode cX10_sell 21 = .ok (.iconst 1, 1) := by decide +kernel
theorem dX10_sell_22 : decode cX10_sell 22 = .ok (.isub, 1) := by decide +kernel
theorem dX10_sell_23 : decode cX10_sell 23 = .ok (.putfield 111, 3) := by decide +kernel
theorem dX10_sell_26 : decode cX10_sell 26 = .ok (.aload_n 0, 1) := by decide +kernel
theorem dX10_sell_27 : decode cX10_sell 27 = .ok (.getfield 12, 3) := by decide +kernel
theorem dX10_sell_30 : decode cX10_sell 30 = .ok (.invokevirtual 117, 3) := by decide +kernel
theorem dX10_sell_33 : decode cX10_sell 33 = .ok (.aload_n 0, 1) := by decide +kernel
theorem dX10_sell_34 : decode cX10_sell 34 = .ok (.getfield 12, 3) := by decide +kernel
theorem dX10_sell_37 : decode cX10_sell 37 = .ok (.getfield 111, 3) := by decide +kernel
theorem dX10_sell_40 : decode cX10_sell 40 = .ok (.ireturn, 1) := by decide +kernel
theorem dX10_stoneTold_0 : decode cX10_stoneTold 0 = .ok (.iload_n 1, 1) := by decide +kernel
theorem dX10_stoneTold_1 : decode cX10_stoneTold 1 = .ok (.iconst 0, 1) := by decide +kernel
theorem dX10_stoneTold_2 : decode cX10_stoneTold 2 = .ok (.aload_n 0, 1) := by decide +kernel
theorem dX10_stoneTold_3 : decode cX10_stoneTold 3 = .ok (.getfield 12, 3) := by decide +kernel
theorem dX10_stoneTold_6 : decode cX10_stoneTold 6 = .ok (.getfield 111, 3) := by decide +kernel
theorem dX10_stoneTold_9 : decode cX10_stoneTold 9 = .ok (.iconst 1, 1) := by decide +kernel
theorem dX10_stoneTold_10 : decode cX10_stoneTold 10 = .ok (.isub, 1) := by decide +kernel
theorem dX10_stoneTold_11 : decode cX10_stoneTold 11 = .ok (.invokestatic 104, 3) := by decide +kernel
theorem dX10_stoneTold_14 : decode cX10_stoneTold 14 = .ok (.ifCond .eq 15, 3) := by decide +kernel
theorem dX10_stoneTold_17 : decode cX10_stoneTold 17 = .ok (.aload_n 0, 1) := by decide +kernel
theorem dX10_stoneTold_18 : decode cX10_stoneTold 18 = .ok (.getfield 12, 3) := by decide +kernel
theorem dX10_stoneTold_21 : decode cX10_stoneTold 21 = .ok (.getfield 114, 3) := by decide +kernel
theorem dX10_stoneTold_24 : decode cX10_stoneTold 24 = .ok (.iload_n 1, 1) := by decide +kernel
theorem dX10_stoneTold_25 : decode cX10_stoneTold 25 = .ok (.iaload, 1) := by decide +kernel
theorem dX10_stoneTold_26 : decode cX10_stoneTold 26 = .ok (.goto 5, 3) := by decide +kernel
theorem dX10_stoneTold_29 : decode cX10_stoneTold 29 = .ok (.bipush (-5), 2) := by decide +kernel
theorem dX10_stoneTold_31 : decode cX10_stoneTold 31 = .ok (.ireturn, 1) := by decide +kernel
theorem dX10_count_0 : decode cX10_count 0 = .ok (.iload_n 1, 1) := by decide +kernel
theorem dX10_count_1 : decode cX10_count 1 = .ok (.tableswitch 91 0 7 #[47, 47, 47, 57, 65, 73, 78, 83], 47) := by decide +kernel
theorem dX10_count_48 : decode cX10_count 48 = .ok (.aload_n 0, 1) := by decide +kernel
theorem dX10_count_49 : decode cX10_count 49 = .ok (.getfield 12, 3) := by decide +kernel
theorem dX10_count_52 : decode cX10_count 52 = .ok (.getfield 108, 3) := by decide +kernel
theorem dX10_count_55 : decode cX10_count 55 = .ok (.iload_n 1, 1) := by decide +kernel
theorem dX10_count_56 : decode cX10_count 56 = .ok (.iaload, 1) := by decide +kernel
theorem dX10_count_57 : decode cX10_count 57 = .ok (.ireturn, 1) := by decide +kernel
theorem dX10_count_58 : decode cX10_count 58 = .ok (.aload_n 0, 1) := by decide +kernel
theorem dX10_count_59 : decode cX10_count 59 = .ok (.getfield 12, 3) := by decide +kernel
theorem dX10_count_62 : decode cX10_count 62 = .ok (.getfield 111, 3) := by decide +kernel
theorem dX10_count_65 : decode cX10_count 65 = .ok (.ireturn, 1) := by decide +kernel
theorem dX10_count_66 : decode cX10_count 66 = .ok (.aload_n 0, 1) := by decide +kernel
theorem dX10_count_67 : decode cX10_count 67 = .ok (.getfield 19, 3) := by decide +kernel
theorem dX10_count_70 : decode cX10_count 70 = .ok (.getfield 120, 3) := by decide +kernel
theorem dX10_count_73 : decode cX10_count 73 = .ok (.ireturn, 1) := by decide +kernel
theorem dX10_count_74 : decode cX10_count 74 = .ok (.aload_n 0, 1) := by decide +kernel
theorem dX10_count_75 : decode cX10_count 75 = .ok (.getfield 100, 3) := by decide +kernel
theorem dX10_count_78 : decode cX10_count 78 = .ok (.ireturn, 1) := by decide +kernel
theorem dX10_count_79 : decode cX10_count 79 = .ok (.aload_n 0, 1) := by decide +kernel
theorem dX10_count_80 : decode cX10_count 80 = .ok (.getfield 123, 3) := by decide +kernel
theorem dX10_count_83 : decode cX10_count 83 = .ok (.ireturn, 1) := by decide +kernel
theorem dX10_count_84 : decode cX10_count 84 = .ok (.aload_n 0, 1) := by decide +kernel
theorem dX10_count_85 : decode cX10_count 85 = .ok (.getfield 32, 3) := by decide +kernel
theorem dX10_count_88 : decode cX10_count 88 = .ok (.getfield 126, 3) := by decide +kernel
theorem dX10_count_91 : decode cX10_count 91 = .ok (.ireturn, 1) := by decide +kernel
theorem dX10_count_92 : decode cX10_count 92 = .ok (.bipush (-2), 2) := by decide +kernel
theorem dX10_count_94 : decode cX10_count 94 = .ok (.ireturn, 1) := by decide +kernel
theorem dX10_feed_0 : decode cX10_feed 0 = .ok (.iload_n 1, 1) := by decide +kernel
theorem dX10_feed_1 : decode cX10_feed 1 = .ok (.iconst 1, 1) := by decide +kernel
theorem dX10_feed_2 : decode cX10_feed 2 = .ok (.iconst 5, 1) := by decide +kernel
theorem dX10_feed_3 : decode cX10_feed 3 = .ok (.invokestatic 104, 3) := by decide +kernel
theorem dX10_feed_6 : decode cX10_feed 6 = .ok (.ifCond .eq 41, 3) := by decide +kernel
theorem dX10_feed_9 : decode cX10_feed 9 = .ok (.iload_n 2, 1) := by decide +kernel
theorem dX10_feed_10 : decode cX10_feed 10 = .ok (.invokestatic 127, 3) := by decide +kernel
theorem dX10_feed_13 : decode cX10_feed 13 = .ok (.ifCond .eq 34, 3) := by decide +kernel
theorem dX10_feed_16 : decode cX10_feed 16 = .ok (.iload_n 3, 1) := by decide +kernel
theorem dX10_feed_17 : decode cX10_feed 17 = .ok (.invokestatic 127, 3) := by decide +kernel
theorem dX10_feed_20 : decode cX10_feed 20 = .ok (.ifCond .eq 27, 3) := by decide +kernel
theorem dX10_feed_23 : decode cX10_feed 23 = .ok (.iload 4, 2) := by decide +kernel
theorem dX10_feed_25 : decode cX10_feed 25 = .ok (.invokestatic 127, 3) := by decide +kernel
theorem dX10_feed_28 : decode cX10_feed 28 = .ok (.ifCond .eq 19, 3) := by decide +kernel
theorem dX10_feed_31 : decode cX10_feed 31 = .ok (.iload 5, 2) := by decide +kernel
theorem dX10_feed_33 : decode cX10_feed 33 = .ok (.invokestatic 127, 3) := by decide +kernel
theorem dX10_feed_36 : decode cX10_feed 36 = .ok (.ifCond .eq 11, 3) := by decide +kernel
theorem dX10_feed_39 : decode cX10_feed 39 = .ok (.iload 6, 2) := by decide +kernel
theorem dX10_feed_41 : decode cX10_feed 41 = .ok (.invokestatic 127, 3) := by decide +kernel
theorem dX10_feed_44 : decode cX10_feed 44 = .ok (.ifCond .ne 6, 3) := by decide +kernel
theorem dX10_feed_47 : decode cX10_feed 47 = .ok (.bipush (-2), 2) := by decide +kernel
theorem dX10_feed_49 : decode cX10_feed 49 = .ok (.ireturn, 1) := by decide +kernel
theorem dX10_feed_50 : decode cX10_feed 50 = .ok (.aload_n 0, 1) := by decide +kernel
theorem dX10_feed_51 : decode cX10_feed 51 = .ok (.getfield 32, 3) := by decide +kernel
theorem dX10_feed_54 : decode cX10_feed 54 = .ok (.getfield 126, 3) := by decide +kernel
theorem dX10_feed_57 : decode cX10_feed 57 = .ok (.iload_n 1, 1) := by decide +kernel
theorem dX10_feed_58 : decode cX10_feed 58 = .ok (.iadd, 1) := by decide +kernel
theorem dX10_feed_59 : decode cX10_feed 59 = .ok (.sipush 160, 3) := by decide +kernel
theorem dX10_feed_62 : decode cX10_feed 62 = .ok (.if_icmp .le 6, 3) := by decide +kernel
theorem dX10_feed_65 : decode cX10_feed 65 = .ok (.bipush (-4), 2) := by decide +kernel
theorem dX10_feed_67 : decode cX10_feed 67 = .ok (.ireturn, 1) := by decide +kernel
theorem dX10_feed_68 : decode cX10_feed 68 = .ok (.aload_n 0, 1) := by decide +kernel
theorem dX10_feed_69 : decode cX10_feed 69 = .ok (.getfield 32, 3) := by decide +kernel
theorem dX10_feed_72 : decode cX10_feed 72 = .ok (.iload_n 2, 1) := by decide +kernel
theorem dX10_feed_73 : decode cX10_feed 73 = .ok (.invokevirtual 92, 3) := by decide +kernel
theorem dX10_feed_76 : decode cX10_feed 76 = .ok (.iload_n 1, 1) := by decide +kernel
theorem dX10_feed_77 : decode cX10_feed 77 = .ok (.iconst 1, 1) := by decide +kernel
theorem dX10_feed_78 : decode cX10_feed 78 = .ok (.if_icmp .le 11, 3) := by decide +kernel
theorem dX10_feed_81 : decode cX10_feed 81 = .ok (.aload_n 0, 1) := by decide +kernel
theorem dX10_feed_82 : decode cX10_feed 82 = .ok (.getfield 32, 3) := by decide +kernel
theorem dX10_feed_85 : decode cX10_feed 85 = .ok (.iload_n 3, 1) := by decide +kernel
theorem dX10_feed_86 : decode cX10_feed 86 = .ok (.invokevirtual 92, 3) := by decide +kernel
theorem dX10_feed_89 : decode cX10_feed 89 = .ok (.iload_n 1, 1) := by decide +kernel
theorem dX10_feed_90 : decode cX10_feed 90 = .ok (.iconst 2, 1) := by decide +kernel
theorem dX10_feed_91 : decode cX10_feed 91 = .ok (.if_icmp .le 12, 3) := by decide +kernel
theorem dX10_feed_94 : decode cX10_feed 94 = .ok (.aload_n 0, 1) := by decide +kernel
theorem dX10_feed_95 : decode cX10_feed 95 = .ok (.getfield 32, 3) := by decide +kernel
theorem dX10_feed_98 : decode cX10_feed 98 = .ok (.iload 4, 2) := by decide +kernel
theorem dX10_feed_100 : decode cX10_feed 100 = .ok (.invokevirtual 92, 3) := by decide +kernel
theorem dX10_feed_103 : decode cX10_feed 103 = .ok (.iload_n 1, 1) := by decide +kernel
theorem dX10_feed_104 : decode cX10_feed 104 = .ok (.iconst 3, 1) := by decide +kernel
theorem dX10_feed_105 : decode cX10_feed 105 = .ok (.if_icmp .le 12, 3) := by decide +kernel
theorem dX10_feed_108 : decode cX10_feed 108 = .ok (.aload_n 0, 1) := by decide +kernel
theorem dX10_feed_109 : decode cX10_feed 109 = .ok (.getfield 32, 3) := by decide +kernel
theorem dX10_feed_112 : decode cX10_feed 112 = .ok (.iload 5, 2) := by decide +kernel
theorem dX10_feed_114 : decode cX10_feed 114 = .ok (.invokevirtual 92, 3) := by decide +kernel
theorem dX10_feed_117 : decode cX10_feed 117 = .ok (.iload_n 1, 1) := by decide +kernel
theorem dX10_feed_118 : decode cX10_feed 118 = .ok (.iconst 4, 1) := by decide +kernel
theorem dX10_feed_119 : decode cX10_feed 119 = .ok (.if_icmp .le 12, 3) := by decide +kernel
theorem dX10_feed_122 : decode cX10_feed 122 = .ok (.aload_n 0, 1) := by decide +kernel
theorem dX10_feed_123 : decode cX10_feed 123 = .ok (.getfield 32, 3) := by decide +kernel
theorem dX10_feed_126 : decode cX10_feed 126 = .ok (.iload 6, 2) := by decide +kernel
theorem dX10_feed_128 : decode cX10_feed 128 = .ok (.invokevirtual 92, 3) := by decide +kernel
theorem dX10_feed_131 : decode cX10_feed 131 = .ok (.aload_n 0, 1) := by decide +kernel
theorem dX10_feed_132 : decode cX10_feed 132 = .ok (.getfield 32, 3) := by decide +kernel
theorem dX10_feed_135 : decode cX10_feed 135 = .ok (.getfield 126, 3) := by decide +kernel
theorem dX10_feed_138 : decode cX10_feed 138 = .ok (.ireturn, 1) := by decide +kernel
theorem dX10_text_0 : decode cX10_text 0 = .ok (.aload_n 0, 1) := by decide +kernel
theorem dX10_text_1 : decode cX10_text 1 = .ok (.getfield 100, 3) := by decide +kernel
theorem dX10_text_4 : decode cX10_text 4 = .ok (.bipush 6, 2) := by decide +kernel
theorem dX10_text_6 : decode cX10_text 6 = .ok (.if_icmp .lt 6, 3) := by decide +kernel
theorem dX10_text_9 : decode cX10_text 9 = .ok (.bipush (-4), 2) := by decide +kernel
theorem dX10_text_11 : decode cX10_text 11 = .ok (.ireturn, 1) := by decide +kernel
theorem dX10_text_12 : decode cX10_text 12 = .ok (.aload_n 0, 1) := by decide +kernel
theorem dX10_text_13 : decode cX10_text 13 = .ok (.getfield 32, 3) := by decide +kernel
theorem dX10_text_16 : decode cX10_text 16 = .ok (.aload_n 0, 1) := by decide +kernel
theorem dX10_text_17 : decode cX10_text 17 = .ok (.getfield 25, 3) := by decide +kernel
theorem dX10_text_20 : decode cX10_text 20 = .ok (.aload_n 0, 1) := by decide +kernel
theorem dX10_text_21 : decode cX10_text 21 = .ok (.getfield 100, 3) := by decide +kernel
theorem dX10_text_24 : decode cX10_text 24 = .ok (.aaload, 1) := by decide +kernel
theorem dX10_text_25 : decode cX10_text 25 = .ok (.invokevirtual 96, 3) := by decide +kernel
theorem dX10_text_28 : decode cX10_text 28 = .ok (.istore_n 1, 1) := by decide +kernel
theorem dX10_text_29 : decode cX10_text 29 = .ok (.iload_n 1, 1) := by decide +kernel
theorem dX10_text_30 : decode cX10_text 30 = .ok (.ifCond .lt 8, 3) := by decide +kernel
theorem dX10_text_33 : decode cX10_text 33 = .ok (.bipush (-100), 2) := by decide +kernel
theorem dX10_text_35 : decode cX10_text 35 = .ok (.iload_n 1, 1) := by decide +kernel
theorem dX10_text_36 : decode cX10_text 36 = .ok (.isub, 1) := by decide +kernel
theorem dX10_text_37 : decode cX10_text 37 = .ok (.ireturn, 1) := by decide +kernel
theorem dX10_text_38 : decode cX10_text 38 = .ok (.aload_n 0, 1) := by decide +kernel
theorem dX10_text_39 : decode cX10_text 39 = .ok (.dup, 1) := by decide +kernel
theorem dX10_text_40 : decode cX10_text 40 = .ok (.getfield 100, 3) := by decide +kernel
theorem dX10_text_43 : decode cX10_text 43 = .ok (.iconst 1, 1) := by decide +kernel
theorem dX10_text_44 : decode cX10_text 44 = .ok (.iadd, 1) := by decide +kernel
theorem dX10_text_45 : decode cX10_text 45 = .ok (.putfield 100, 3) := by decide +kernel
theorem dX10_text_48 : decode cX10_text 48 = .ok (.aload_n 0, 1) := by decide +kernel
theorem dX10_text_49 : decode cX10_text 49 = .ok (.getfield 100, 3) := by decide +kernel
theorem dX10_text_52 : decode cX10_text 52 = .ok (.iconst 1, 1) := by decide +kernel
theorem dX10_text_53 : decode cX10_text 53 = .ok (.isub, 1) := by decide +kernel
theorem dX10_text_54 : decode cX10_text 54 = .ok (.ireturn, 1) := by decide +kernel
theorem dX10_force_0 : decode cX10_force 0 = .ok (.iload_n 1, 1) := by decide +kernel
theorem dX10_force_1 : decode cX10_force 1 = .ok (.iconst 0, 1) := by decide +kernel
theorem dX10_force_2 : decode cX10_force 2 = .ok (.aload_n 0, 1) := by decide +kernel
theorem dX10_force_3 : decode cX10_force 3 = .ok (.getfield 100, 3) := by decide +kernel
theorem dX10_force_6 : decode cX10_force 6 = .ok (.iconst 1, 1) := by decide +kernel
theorem dX10_force_7 : decode cX10_force 7 = .ok (.isub, 1) := by decide +kernel
theorem dX10_force_8 : decode cX10_force 8 = .ok (.invokestatic 104, 3) := by decide +kernel
theorem dX10_force_11 : decode cX10_force 11 = .ok (.ifCond .ne 6, 3) := by decide +kernel
theorem dX10_force_14 : decode cX10_force 14 = .ok (.bipush (-2), 2) := by decide +kernel
theorem dX10_force_16 : decode cX10_force 16 = .ok (.ireturn, 1) := by decide +kernel
theorem dX10_force_17 : decode cX10_force 17 = .ok (.aload_n 0, 1) := by decide +kernel
theorem dX10_force_18 : decode cX10_force 18 = .ok (.getfield 123, 3) := by decide +kernel
theorem dX10_force_21 : decode cX10_force 21 = .ok (.istore_n 2, 1) := by decide +kernel
theorem dX10_force_22 : decode cX10_force 22 = .ok (.aload_n 0, 1) := by decide +kernel
theorem dX10_force_23 : decode cX10_force 23 = .ok (.iload_n 1, 1) := by decide +kernel
theorem dX10_force_24 : decode cX10_force 24 = .ok (.putfield 123, 3) := by decide +kernel
theorem dX10_force_27 : decode cX10_force 27 = .ok (.iload_n 2, 1) := by decide +kernel
theorem dX10_force_28 : decode cX10_force 28 = .ok (.ireturn, 1) := by decide +kernel
theorem dX10_asks_0 : decode cX10_asks 0 = .ok (.iload_n 1, 1) := by decide +kernel
theorem dX10_asks_1 : decode cX10_asks 1 = .ok (.iconst 0, 1) := by decide +kernel
theorem dX10_asks_2 : decode cX10_asks 2 = .ok (.iconst 2, 1) := by decide +kernel
theorem dX10_asks_3 : decode cX10_asks 3 = .ok (.invokestatic 104, 3) := by decide +kernel
theorem dX10_asks_6 : decode cX10_asks 6 = .ok (.ifCond .eq 38, 3) := by decide +kernel
theorem dX10_asks_9 : decode cX10_asks 9 = .ok (.iload_n 2, 1) := by decide +kernel
theorem dX10_asks_10 : decode cX10_asks 10 = .ok (.iconst 0, 1) := by decide +kernel
theorem dX10_asks_11 : decode cX10_asks 11 = .ok (.ldc 131, 2) := by decide +kernel
theorem dX10_asks_13 : decode cX10_asks 13 = .ok (.invokestatic 104, 3) := by decide +kernel
theorem dX10_asks_16 : decode cX10_asks 16 = .ok (.ifCond .eq 28, 3) := by decide +kernel
theorem dX10_asks_19 : decode cX10_asks 19 = .ok (.iload_n 3, 1) := by decide +kernel
theorem dX10_asks_20 : decode cX10_asks 20 = .ok (.iconst 0, 1) := by decide +kernel
theorem dX10_asks_21 : decode cX10_asks 21 = .ok (.bipush 99, 2) := by decide +kernel
theorem dX10_asks_23 : decode cX10_asks 23 = .ok (.invokestatic 104, 3) := by decide +kernel
theorem dX10_asks_26 : decode cX10_asks 26 = .ok (.ifCond .eq 18, 3) := by decide +kernel
theorem dX10_asks_29 : decode cX10_asks 29 = .ok (.iload 4, 2) := by decide +kernel
theorem dX10_asks_31 : decode cX10_asks 31 = .ok (.iconst 0, 1) := by decide +kernel
theorem dX10_asks_32 : decode cX10_asks 32 = .ok (.bipush 99, 2) := by decide +kernel
theorem dX10_asks_34 : decode cX10_asks 34 = .ok (.invokestatic 104, 3) := by decide +kernel
theorem dX10_asks_37 : decode cX10_asks 37 = .ok (.ifCond .eq 7, 3) := by decide +kernel
theorem dX10_asks_40 : decode cX10_asks 40 = .ok (.iconst 1, 1) := by decide +kernel
theorem dX10_asks_41 : decode cX10_asks 41 = .ok (.goto 4, 3) := by decide +kernel
theorem dX10_asks_44 : decode cX10_asks 44 = .ok (.iconst 0, 1) := by decide +kernel
theorem dX10_asks_45 : decode cX10_asks 45 = .ok (.istore 5, 2) := by decide +kernel
theorem dX10_asks_47 : decode cX10_asks 47 = .ok (.iload 5, 2) := by decide +kernel
theorem dX10_asks_49 : decode cX10_asks 49 = .ok (.ifCond .ne 6, 3) := by decide +kernel
theorem dX10_asks_52 : decode cX10_asks 52 = .ok (.bipush (-2), 2) := by decide +kernel
theorem dX10_asks_54 : decode cX10_asks 54 = .ok (.ireturn, 1) := by decide +kernel
theorem dX10_asks_55 : decode cX10_asks 55 = .ok (.aload_n 0, 1) := by decide +kernel
theorem dX10_asks_56 : decode cX10_asks 56 = .ok (.getfield 74, 3) := by decide +kernel
theorem dX10_asks_59 : decode cX10_asks 59 = .ok (.iconst 0, 1) := by decide +kernel
theorem dX10_asks_60 : decode cX10_asks 60 = .ok (.iload_n 2, 1) := by decide +kernel
theorem dX10_asks_61 : decode cX10_asks 61 = .ok (.sipush 1000, 3) := by decide +kernel
theorem dX10_asks_64 : decode cX10_asks 64 = .ok (.idiv, 1) := by decide +kernel
theorem dX10_asks_65 : decode cX10_asks 65 = .ok (.iastore, 1) := by decide +kernel
theorem dX10_asks_66 : decode cX10_asks 66 = .ok (.aload_n 0, 1) := by decide +kernel
theorem dX10_asks_67 : decode cX10_asks 67 = .ok (.getfield 74, 3) := by decide +kernel
theorem dX10_asks_70 : decode cX10_asks 70 = .ok (.iconst 1, 1) := by decide +kernel
theorem dX10_asks_71 : decode cX10_asks 71 = .ok (.iload_n 2, 1) := by decide +kernel
theorem dX10_asks_72 : decode cX10_asks 72 = .ok (.sipush 1000, 3) := by decide +kernel
theorem dX10_asks_75 : decode cX10_asks 75 = .ok (.irem, 1) := by decide +kernel
theorem dX10_asks_76 : decode cX10_asks 76 = .ok (.iastore, 1) := by decide +kernel
theorem dX10_asks_77 : decode cX10_asks 77 = .ok (.aload_n 0, 1) := by decide +kernel
theorem dX10_asks_78 : decode cX10_asks 78 = .ok (.getfield 74, 3) := by decide +kernel
theorem dX10_asks_81 : decode cX10_asks 81 = .ok (.iconst 2, 1) := by decide +kernel
theorem dX10_asks_82 : decode cX10_asks 82 = .ok (.iload_n 3, 1) := by decide +kernel
theorem dX10_asks_83 : decode cX10_asks 83 = .ok (.bipush 10, 2) := by decide +kernel
theorem dX10_asks_85 : decode cX10_asks 85 = .ok (.idiv, 1) := by decide +kernel
theorem dX10_asks_86 : decode cX10_asks 86 = .ok (.iastore, 1) := by decide +kernel
theorem dX10_asks_87 : decode cX10_asks 87 = .ok (.aload_n 0, 1) := by decide +kernel
theorem dX10_asks_88 : decode cX10_asks 88 = .ok (.getfield 74, 3) := by decide +kernel
theorem dX10_asks_91 : decode cX10_asks 91 = .ok (.iconst 3, 1) := by decide +kernel
theorem dX10_asks_92 : decode cX10_asks 92 = .ok (.iload_n 3, 1) := by decide +kernel
theorem dX10_asks_93 : decode cX10_asks 93 = .ok (.bipush 10, 2) := by decide +kernel
theorem dX10_asks_95 : decode cX10_asks 95 = .ok (.irem, 1) := by decide +kernel
theorem dX10_asks_96 : decode cX10_asks 96 = .ok (.iastore, 1) := by decide +kernel
theorem dX10_asks_97 : decode cX10_asks 97 = .ok (.aload_n 0, 1) := by decide +kernel
theorem dX10_asks_98 : decode cX10_asks 98 = .ok (.getfield 74, 3) := by decide +kernel
theorem dX10_asks_101 : decode cX10_asks 101 = .ok (.iconst 4, 1) := by decide +kernel
theorem dX10_asks_102 : decode cX10_asks 102 = .ok (.iload 4, 2) := by decide +kernel
theorem dX10_asks_104 : decode cX10_asks 104 = .ok (.bipush 10, 2) := by decide +kernel
theorem dX10_asks_106 : decode cX10_asks 106 = .ok (.idiv, 1) := by decide +kernel
theorem dX10_asks_107 : decode cX10_asks 107 = .ok (.iastore, 1) := by decide +kernel
theorem dX10_asks_108 : decode cX10_asks 108 = .ok (.aload_n 0, 1) := by decide +kernel
theorem dX10_asks_109 : decode cX10_asks 109 = .ok (.getfield 74, 3) := by decide +kernel
theorem dX10_asks_112 : decode cX10_asks 112 = .ok (.iconst 5, 1) := by decide +kernel
theorem dX10_asks_113 : decode cX10_asks 113 = .ok (.iload 4, 2) := by decide +kernel
theorem dX10_asks_115 : decode cX10_asks 115 = .ok (.bipush 10, 2) := by decide +kernel
theorem dX10_asks_117 : decode cX10_asks 117 = .ok (.irem, 1) := by decide +kernel
theorem dX10_asks_118 : decode cX10_asks 118 = .ok (.iastore, 1) := by decide +kernel
theorem dX10_asks_119 : decode cX10_asks 119 = .ok (.aload_n 0, 1) := by decide +kernel
theorem dX10_asks_120 : decode cX10_asks 120 = .ok (.invokevirtual 132, 3) := by decide +kernel
theorem dX10_asks_123 : decode cX10_asks 123 = .ok (.iload_n 1, 1) := by decide +kernel
theorem dX10_asks_124 : decode cX10_asks 124 = .ok (.aload_n 0, 1) := by decide +kernel
theorem dX10_asks_125 : decode cX10_asks 125 = .ok (.getfield 74, 3) := by decide +kernel
theorem dX10_asks_128 : decode cX10_asks 128 = .ok (.invokevirtual 136, 3) := by decide +kernel
theorem dX10_asks_131 : decode cX10_asks 131 = .ok (.ireturn, 1) := by decide +kernel
theorem dX10_cart_0 : decode cX10_cart 0 = .ok (.iload_n 1, 1) := by decide +kernel
theorem dX10_cart_1 : decode cX10_cart 1 = .ok (.iconst 0, 1) := by decide +kernel
theorem dX10_cart_2 : decode cX10_cart 2 = .ok (.iconst 1, 1) := by decide +kernel
theorem dX10_cart_3 : decode cX10_cart 3 = .ok (.invokestatic 104, 3) := by decide +kernel
theorem dX10_cart_6 : decode cX10_cart 6 = .ok (.ifCond .eq 48, 3) := by decide +kernel
theorem dX10_cart_9 : decode cX10_cart 9 = .ok (.iload_n 2, 1) := by decide +kernel
theorem dX10_cart_10 : decode cX10_cart 10 = .ok (.iconst 0, 1) := by decide +kernel
theorem dX10_cart_11 : decode cX10_cart 11 = .ok (.iconst 5, 1) := by decide +kernel
theorem dX10_cart_12 : decode cX10_cart 12 = .ok (.invokestatic 104, 3) := by decide +kernel
theorem dX10_cart_15 : decode cX10_cart 15 = .ok (.ifCond .eq 39, 3) := by decide +kernel
theorem dX10_cart_18 : decode cX10_cart 18 = .ok (.iload_n 3, 1) := by decide +kernel
theorem dX10_cart_19 : decode cX10_cart 19 = .ok (.iconst 1, 1) := by decide +kernel
theorem dX10_cart_20 : decode cX10_cart 20 = .ok (.bipush 99, 2) := by decide +kernel
theorem dX10_cart_22 : decode cX10_cart 22 = .ok (.invokestatic 104, 3) := by decide +kernel
theorem dX10_cart_25 : decode cX10_cart 25 = .ok (.ifCond .eq 29, 3) := by decide +kernel
theorem dX10_cart_28 : decode cX10_cart 28 = .ok (.iload 4, 2) := by decide +kernel
theorem dX10_cart_30 : decode cX10_cart 30 = .ok (.iconst 0, 1) := by decide +kernel
theorem dX10_cart_31 : decode cX10_cart 31 = .ok (.bipush 99, 2) := by decide +kernel
theorem dX10_cart_33 : decode cX10_cart 33 = .ok (.invokestatic 104, 3) := by decide +kernel
theorem dX10_cart_36 : decode cX10_cart 36 = .ok (.ifCond .eq 18, 3) := by decide +kernel
theorem dX10_cart_39 : decode cX10_cart 39 = .ok (.iload 5, 2) := by decide +kernel
theorem dX10_cart_41 : decode cX10_cart 41 = .ok (.iconst 0, 1) := by decide +kernel
theorem dX10_cart_42 : decode cX10_cart 42 = .ok (.bipush 9, 2) := by decide +kernel
theorem dX10_cart_44 : decode cX10_cart 44 = .ok (.invokestatic 104, 3) := by decide +kernel
theorem dX10_cart_47 : decode cX10_cart 47 = .ok (.ifCond .eq 7, 3) := by decide +kernel
theorem dX10_cart_50 : decode cX10_cart 50 = .ok (.iconst 1, 1) := by decide +kernel
theorem dX10_cart_51 : decode cX10_cart 51 = .ok (.goto 4, 3) := by decide +kernel
theorem dX10_cart_54 : decode cX10_cart 54 = .ok (.iconst 0, 1) := by decide +kernel
theorem dX10_cart_55 : decode cX10_cart 55 = .ok (.istore 6, 2) := by decide +kernel
theorem dX10_cart_57 : decode cX10_cart 57 = .ok (.iload 6, 2) := by decide +kernel
theorem dX10_cart_59 : decode cX10_cart 59 = .ok (.ifCond .ne 6, 3) := by decide +kernel
theorem dX10_cart_62 : decode cX10_cart 62 = .ok (.bipush (-2), 2) := by decide +kernel
theorem dX10_cart_64 : decode cX10_cart 64 = .ok (.ireturn, 1) := by decide +kernel
theorem dX10_cart_65 : decode cX10_cart 65 = .ok (.aload_n 0, 1) := by decide +kernel
theorem dX10_cart_66 : decode cX10_cart 66 = .ok (.getfield 19, 3) := by decide +kernel
theorem dX10_cart_69 : decode cX10_cart 69 = .ok (.getfield 120, 3) := by decide +kernel
theorem dX10_cart_72 : decode cX10_cart 72 = .ok (.bipush 10, 2) := by decide +kernel
theorem dX10_cart_74 : decode cX10_cart 74 = .ok (.if_icmp .lt 6, 3) := by decide +kernel
theorem dX10_cart_77 : decode cX10_cart 77 = .ok (.bipush (-4), 2) := by decide +kernel
theorem dX10_cart_79 : decode cX10_cart 79 = .ok (.ireturn, 1) := by decide +kernel
theorem dX10_cart_80 : decode cX10_cart 80 = .ok (.aload_n 0, 1) := by decide +kernel
theorem dX10_cart_81 : decode cX10_cart 81 = .ok (.getfield 19, 3) := by decide +kernel
theorem dX10_cart_84 : decode cX10_cart 84 = .ok (.getfield 120, 3) := by decide +kernel
theorem dX10_cart_87 : decode cX10_cart 87 = .ok (.istore 7, 2) := by decide +kernel
theorem dX10_cart_89 : decode cX10_cart 89 = .ok (.aload_n 0, 1) := by decide +kernel
theorem dX10_cart_90 : decode cX10_cart 90 = .ok (.getfield 19, 3) := by decide +kernel
theorem dX10_cart_93 : decode cX10_cart 93 = .ok (.getfield 140, 3) := by decide +kernel
theorem dX10_cart_96 : decode cX10_cart 96 = .ok (.iload 7, 2) := by decide +kernel
theorem dX10_cart_98 : decode cX10_cart 98 = .ok (.aaload, 1) := by decide +kernel
theorem dX10_cart_99 : decode cX10_cart 99 = .ok (.astore 8, 2) := by decide +kernel
theorem dX10_cart_101 : decode cX10_cart 101 = .ok (.aload 8, 2) := by decide +kernel
theorem dX10_cart_103 : decode cX10_cart 103 = .ok (.iload_n 1, 1) := by decide +kernel
theorem dX10_cart_104 : decode cX10_cart 104 = .ok (.putfield 144, 3) := by decide +kernel
theorem dX10_cart_107 : decode cX10_cart 107 = .ok (.aload 8, 2) := by decide +kernel
theorem dX10_cart_109 : decode cX10_cart 109 = .ok (.iload_n 2, 1) := by decide +kernel
theorem dX10_cart_110 : decode cX10_cart 110 = .ok (.putfield 149, 3) := by decide +kernel
theorem dX10_cart_113 : decode cX10_cart 113 = .ok (.aload 8, 2) := by decide +kernel
theorem dX10_cart_115 : decode cX10_cart 115 = .ok (.iload_n 3, 1) := by decide +kernel
theorem dX10_cart_116 : decode cX10_cart 116 = .ok (.putfield 152, 3) := by decide +kernel
theorem dX10_cart_119 : decode cX10_cart 119 = .ok (.aload 8, 2) := by decide +kernel
theorem dX10_cart_121 : decode cX10_cart 121 = .ok (.iload 4, 2) := by decide +kernel
theorem dX10_cart_123 : decode cX10_cart 123 = .ok (.putfield 155, 3) := by decide +kernel
theorem dX10_cart_126 : decode cX10_cart 126 = .ok (.aload 8, 2) := by decide +kernel
theorem dX10_cart_128 : decode cX10_cart 128 = .ok (.iload 5, 2) := by decide +kernel
theorem dX10_cart_130 : decode cX10_cart 130 = .ok (.putfield 158, 3) := by decide +kernel
theorem dX10_cart_133 : decode cX10_cart 133 = .ok (.aload_n 0, 1) := by decide +kernel
theorem dX10_cart_134 : decode cX10_cart 134 = .ok (.getfield 19, 3) := by decide +kernel
theorem dX10_cart_137 : decode cX10_cart 137 = .ok (.getfield 161, 3) := by decide +kernel
theorem dX10_cart_140 : decode cX10_cart 140 = .ok (.iload 7, 2) := by decide +kernel
theorem dX10_cart_142 : decode cX10_cart 142 = .ok (.iconst 0, 1) := by decide +kernel
theorem dX10_cart_143 : decode cX10_cart 143 = .ok (.iastore, 1) := by decide +kernel
theorem dX10_cart_144 : decode cX10_cart 144 = .ok (.aload_n 0, 1) := by decide +kernel
theorem dX10_cart_145 : decode cX10_cart 145 = .ok (.getfield 19, 3) := by decide +kernel
theorem dX10_cart_148 : decode cX10_cart 148 = .ok (.iload 7, 2) := by decide +kernel
theorem dX10_cart_150 : decode cX10_cart 150 = .ok (.iconst 1, 1) := by decide +kernel
theorem dX10_cart_151 : decode cX10_cart 151 = .ok (.iadd, 1) := by decide +kernel
theorem dX10_cart_152 : decode cX10_cart 152 = .ok (.putfield 120, 3) := by decide +kernel
theorem dX10_cart_155 : decode cX10_cart 155 = .ok (.iload 7, 2) := by decide +kernel
theorem dX10_cart_157 : decode cX10_cart 157 = .ok (.ireturn, 1) := by decide +kernel
theorem dX10_set_0 : decode cX10_set 0 = .ok (.aload_n 0, 1) := by decide +kernel
theorem dX10_set_1 : decode cX10_set 1 = .ok (.getfield 19, 3) := by decide +kernel
theorem dX10_set_4 : decode cX10_set 4 = .ok (.iload_n 1, 1) := by decide +kernel
theorem dX10_set_5 : decode cX10_set 5 = .ok (.invokevirtual 164, 3) := by decide +kernel
theorem dX10_set_8 : decode cX10_set 8 = .ok (.ifCond .ne 6, 3) := by decide +kernel
theorem dX10_set_11 : decode cX10_set 11 = .ok (.bipush (-5), 2) := by decide +kernel
theorem dX10_set_13 : decode cX10_set 13 = .ok (.ireturn, 1) := by decide +kernel
theorem dX10_set_14 : decode cX10_set 14 = .ok (.iload_n 2, 1) := by decide +kernel
theorem dX10_set_15 : decode cX10_set 15 = .ok (.ifCond .ne 10, 3) := by decide +kernel
theorem dX10_set_18 : decode cX10_set 18 = .ok (.iload_n 3, 1) := by decide +kernel
theorem dX10_set_19 : decode cX10_set 19 = .ok (.invokestatic 167, 3) := by decide +kernel
theorem dX10_set_22 : decode cX10_set 22 = .ok (.ifCond .ne 17, 3) := by decide +kernel
theorem dX10_set_25 : decode cX10_set 25 = .ok (.iload_n 2, 1) := by decide +kernel
theorem dX10_set_26 : decode cX10_set 26 = .ok (.iconst 1, 1) := by decide +kernel
theorem dX10_set_27 : decode cX10_set 27 = .ok (.if_icmp .ne 16, 3) := by decide +kernel
theorem dX10_set_30 : decode cX10_set 30 = .ok (.iload_n 3, 1) := by decide +kernel
theorem dX10_set_31 : decode cX10_set 31 = .ok (.iconst 0, 1) := by decide +kernel
theorem dX10_set_32 : decode cX10_set 32 = .ok (.iconst 1, 1) := by decide +kernel
theorem dX10_set_33 : decode cX10_set 33 = .ok (.invokestatic 104, 3) := by decide +kernel
theorem dX10_set_36 : decode cX10_set 36 = .ok (.ifCond .eq 7, 3) := by decide +kernel
theorem dX10_set_39 : decode cX10_set 39 = .ok (.iconst 1, 1) := by decide +kernel
theorem dX10_set_40 : decode cX10_set 40 = .ok (.goto 4, 3) := by decide +kernel
theorem dX10_set_43 : decode cX10_set 43 = .ok (.iconst 0, 1) := by decide +kernel
theorem dX10_set_44 : decode cX10_set 44 = .ok (.istore 4, 2) := by decide +kernel
theorem dX10_set_46 : decode cX10_set 46 = .ok (.iload 4, 2) := by decide +kernel
theorem dX10_set_48 : decode cX10_set 48 = .ok (.ifCond .ne 6, 3) := by decide +kernel
theorem dX10_set_51 : decode cX10_set 51 = .ok (.bipush (-7), 2) := by decide +kernel
theorem dX10_set_53 : decode cX10_set 53 = .ok (.ireturn, 1) := by decide +kernel
theorem dX10_set_54 : decode cX10_set 54 = .ok (.iload_n 2, 1) := by decide +kernel
theorem dX10_set_55 : decode cX10_set 55 = .ok (.ifCond .ne 27, 3) := by decide +kernel
theorem dX10_set_58 : decode cX10_set 58 = .ok (.aload_n 0, 1) := by decide +kernel
theorem dX10_set_59 : decode cX10_set 59 = .ok (.getfield 19, 3) := by decide +kernel
theorem dX10_set_62 : decode cX10_set 62 = .ok (.getfield 161, 3) := by decide +kernel
theorem dX10_set_65 : decode cX10_set 65 = .ok (.iload_n 1, 1) := by decide +kernel
theorem dX10_set_66 : decode cX10_set 66 = .ok (.iaload, 1) := by decide +kernel
theorem dX10_set_67 : decode cX10_set 67 = .ok (.istore 5, 2) := by decide +kernel
theorem dX10_set_69 : decode cX10_set 69 = .ok (.aload_n 0, 1) := by decide +kernel
theorem dX10_set_70 : decode cX10_set 70 = .ok (.getfield 19, 3) := by decide +kernel
theorem dX10_set_73 : decode cX10_set 73 = .ok (.getfield 161, 3) := by decide +kernel
theorem dX10_set_76 : decode cX10_set 76 = .ok (.iload_n 1, 1) := by decide +kernel
theorem dX10_set_77 : decode cX10_set 77 = .ok (.iload_n 3, 1) := by decide +kernel
theorem dX10_set_78 : decode cX10_set 78 = .ok (.iastore, 1) := by decide +kernel
theorem dX10_set_79 : decode cX10_set 79 = .ok (.iload 5, 2) := by decide +kernel
theorem dX10_set_81 : decode cX10_set 81 = .ok (.ireturn, 1) := by decide +kernel
theorem dX10_set_82 : decode cX10_set 82 = .ok (.aload_n 0, 1) := by decide +kernel
theorem dX10_set_83 : decode cX10_set 83 = .ok (.getfield 19, 3) := by decide +kernel
theorem dX10_set_86 : decode cX10_set 86 = .ok (.getfield 140, 3) := by decide +kernel
theorem dX10_set_89 : decode cX10_set 89 = .ok (.iload_n 1, 1) := by decide +kernel
theorem dX10_set_90 : decode cX10_set 90 = .ok (.aaload, 1) := by decide +kernel
theorem dX10_set_91 : decode cX10_set 91 = .ok (.astore 5, 2) := by decide +kernel
theorem dX10_set_93 : decode cX10_set 93 = .ok (.aload 5, 2) := by decide +kernel
theorem dX10_set_95 : decode cX10_set 95 = .ok (.invokevirtual 170, 3) := by decide +kernel
theorem dX10_set_98 : decode cX10_set 98 = .ok (.ifCond .ne 6, 3) := by decide +kernel
theorem dX10_set_101 : decode cX10_set 101 = .ok (.bipush (-3), 2) := by decide +kernel
theorem dX10_set_103 : decode cX10_set 103 = .ok (.ireturn, 1) := by decide +kernel
theorem dX10_set_104 : decode cX10_set 104 = .ok (.aload 5, 2) := by decide +kernel
theorem dX10_set_106 : decode cX10_set 106 = .ok (.getfield 144, 3) := by decide +kernel
theorem dX10_set_109 : decode cX10_set 109 = .ok (.istore 6, 2) := by decide +kernel
theorem dX10_set_111 : decode cX10_set 111 = .ok (.aload 5, 2) := by decide +kernel
theorem dX10_set_113 : decode cX10_set 113 = .ok (.iload_n 3, 1) := by decide +kernel
theorem dX10_set_114 : decode cX10_set 114 = .ok (.putfield 144, 3) := by decide +kernel
theorem dX10_set_117 : decode cX10_set 117 = .ok (.iload 6, 2) := by decide +kernel
theorem dX10_set_119 : decode cX10_set 119 = .ok (.ireturn, 1) := by decide +kernel
theorem dX10_cartTold_0 : decode cX10_cartTold 0 = .ok (.aload_n 0, 1) := by decide +kernel
theorem dX10_cartTold_1 : decode cX10_cartTold 1 = .ok (.getfield 19, 3) := by decide +kernel
theorem dX10_cartTold_4 : decode cX10_cartTold 4 = .ok (.iload_n 1, 1) := by decide +kernel
theorem dX10_cartTold_5 : decode cX10_cartTold 5 = .ok (.invokevirtual 164, 3) := by decide +kernel
theorem dX10_cartTold_8 : decode cX10_cartTold 8 = .ok (.ifCond .ne 6, 3) := by decide +kernel
theorem dX10_cartTold_11 : decode cX10_cartTold 11 = .ok (.bipush (-5), 2) := by decide +kernel
theorem dX10_cartTold_13 : decode cX10_cartTold 13 = .ok (.ireturn, 1) := by decide +kernel
theorem dX10_cartTold_14 : decode cX10_cartTold 14 = .ok (.aload_n 0, 1) := by decide +kernel
theorem dX10_cartTold_15 : decode cX10_cartTold 15 = .ok (.getfield 19, 3) := by decide +kernel
theorem dX10_cartTold_18 : decode cX10_cartTold 18 = .ok (.getfield 140, 3) := by decide +kernel
theorem dX10_cartTold_21 : decode cX10_cartTold 21 = .ok (.iload_n 1, 1) := by decide +kernel
theorem dX10_cartTold_22 : decode cX10_cartTold 22 = .ok (.aaload, 1) := by decide +kernel
theorem dX10_cartTold_23 : decode cX10_cartTold 23 = .ok (.astore_n 3, 1) := by decide +kernel
theorem dX10_cartTold_24 : decode cX10_cartTold 24 = .ok (.iload_n 2, 1) := by decide +kernel
theorem dX10_cartTold_25 : decode cX10_cartTold 25 = .ok (.tableswitch 74 0 5 #[39, 49, 54, 59, 64, 69], 39) := by decide +kernel
theorem dX10_cartTold_64 : decode cX10_cartTold 64 = .ok (.aload_n 0, 1) := by decide +kernel
theorem dX10_cartTold_65 : decode cX10_cartTold 65 = .ok (.getfield 19, 3) := by decide +kernel
theorem dX10_cartTold_68 : decode cX10_cartTold 68 = .ok (.getfield 161, 3) := by decide +kernel
theorem dX10_cartTold_71 : decode cX10_cartTold 71 = .ok (.iload_n 1, 1) := by decide +kernel
theorem dX10_cartTold_72 : decode cX10_cartTold 72 = .ok (.iaload, 1) := by decide +kernel
theorem dX10_cartTold_73 : decode cX10_cartTold 73 = .ok (.ireturn, 1) := by decide +kernel
theorem dX10_cartTold_74 : decode cX10_cartTold 74 = .ok (.aload_n 3, 1) := by decide +kernel
theorem dX10_cartTold_75 : decode cX10_cartTold 75 = .ok (.getfield 144, 3) := by decide +kernel
theorem dX10_cartTold_78 : decode cX10_cartTold 78 = .ok (.ireturn, 1) := by decide +kernel
theorem dX10_cartTold_79 : decode cX10_cartTold 79 = .ok (.aload_n 3, 1) := by decide +kernel
theorem dX10_cartTold_80 : decode cX10_cartTold 80 = .ok (.getfield 149, 3) := by decide +kernel
theorem dX10_cartTold_83 : decode cX10_cartTold 83 = .ok (.ireturn, 1) := by decide +kernel
theorem dX10_cartTold_84 : decode cX10_cartTold 84 = .ok (.aload_n 3, 1) := by decide +kernel
theorem dX10_cartTold_85 : decode cX10_cartTold 85 = .ok (.getfield 152, 3) := by decide +kernel
theorem dX10_cartTold_88 : decode cX10_cartTold 88 = .ok (.ireturn, 1) := by decide +kernel
theorem dX10_cartTold_89 : decode cX10_cartTold 89 = .ok (.aload_n 3, 1) := by decide +kernel
theorem dX10_cartTold_90 : decode cX10_cartTold 90 = .ok (.getfield 155, 3) := by decide +kernel
theorem dX10_cartTold_93 : decode cX10_cartTold 93 = .ok (.ireturn, 1) := by decide +kernel
theorem dX10_cartTold_94 : decode cX10_cartTold 94 = .ok (.aload_n 3, 1) := by decide +kernel
theorem dX10_cartTold_95 : decode cX10_cartTold 95 = .ok (.getfield 158, 3) := by decide +kernel
theorem dX10_cartTold_98 : decode cX10_cartTold 98 = .ok (.ireturn, 1) := by decide +kernel
theorem dX10_cartTold_99 : decode cX10_cartTold 99 = .ok (.bipush (-7), 2) := by decide +kernel
theorem dX10_cartTold_101 : decode cX10_cartTold 101 = .ok (.ireturn, 1) := by decide +kernel
theorem dX10_at_0 : decode cX10_at 0 = .ok (.aload_n 0, 1) := by decide +kernel
theorem dX10_at_1 : decode cX10_at 1 = .ok (.getfield 19, 3) := by decide +kernel
theorem dX10_at_4 : decode cX10_at 4 = .ok (.iload_n 1, 1) := by decide +kernel
theorem dX10_at_5 : decode cX10_at 5 = .ok (.invokevirtual 164, 3) := by decide +kernel
theorem dX10_at_8 : decode cX10_at 8 = .ok (.ifCond .ne 6, 3) := by decide +kernel
theorem dX10_at_11 : decode cX10_at 11 = .ok (.bipush (-5), 2) := by decide +kernel
theorem dX10_at_13 : decode cX10_at 13 = .ok (.ireturn, 1) := by decide +kernel
theorem dX10_at_14 : decode cX10_at 14 = .ok (.iload_n 2, 1) := by decide +kernel
theorem dX10_at_15 : decode cX10_at 15 = .ok (.invokestatic 167, 3) := by decide +kernel
theorem dX10_at_18 : decode cX10_at 18 = .ok (.ifCond .eq 12, 3) := by decide +kernel
theorem dX10_at_21 : decode cX10_at 21 = .ok (.iload_n 3, 1) := by decide +kernel
theorem dX10_at_22 : decode cX10_at 22 = .ok (.iconst 0, 1) := by decide +kernel
theorem dX10_at_23 : decode cX10_at 23 = .ok (.iconst 1, 1) := by decide +kernel
theorem dX10_at_24 : decode cX10_at 24 = .ok (.invokestatic 104, 3) := by decide +kernel
theorem dX10_at_27 : decode cX10_at 27 = .ok (.ifCond .ne 6, 3) := by decide +kernel
theorem dX10_at_30 : decode cX10_at 30 = .ok (.bipush (-7), 2) := by decide +kernel
theorem dX10_at_32 : decode cX10_at 32 = .ok (.ireturn, 1) := by decide +kernel
theorem dX10_at_33 : decode cX10_at 33 = .ok (.iload_n 2, 1) := by decide +kernel
theorem dX10_at_34 : decode cX10_at 34 = .ok (.aload_n 0, 1) := by decide +kernel
theorem dX10_at_35 : decode cX10_at 35 = .ok (.getfield 19, 3) := by decide +kernel
theorem dX10_at_38 : decode cX10_at 38 = .ok (.getfield 161, 3) := by decide +kernel
theorem dX10_at_41 : decode cX10_at 41 = .ok (.iload_n 1, 1) := by decide +kernel
theorem dX10_at_42 : decode cX10_at 42 = .ok (.iaload, 1) := by decide +kernel
theorem dX10_at_43 : decode cX10_at 43 = .ok (.invokestatic 174, 3) := by decide +kernel
theorem dX10_at_46 : decode cX10_at 46 = .ok (.istore 4, 2) := by decide +kernel
theorem dX10_at_48 : decode cX10_at 48 = .ok (.aload_n 0, 1) := by decide +kernel
theorem dX10_at_49 : decode cX10_at 49 = .ok (.getfield 19, 3) := by decide +kernel
theorem dX10_at_52 : decode cX10_at 52 = .ok (.getfield 140, 3) := by decide +kernel
theorem dX10_at_55 : decode cX10_at 55 = .ok (.iload_n 1, 1) := by decide +kernel
theorem dX10_at_56 : decode cX10_at 56 = .ok (.aaload, 1) := by decide +kernel
theorem dX10_at_57 : decode cX10_at 57 = .ok (.astore 5, 2) := by decide +kernel
theorem dX10_at_59 : decode cX10_at 59 = .ok (.iload_n 3, 1) := by decide +kernel
theorem dX10_at_60 : decode cX10_at 60 = .ok (.ifCond .ne 13, 3) := by decide +kernel
theorem dX10_at_63 : decode cX10_at 63 = .ok (.aload 5, 2) := by decide +kernel
theorem dX10_at_65 : decode cX10_at 65 = .ok (.iload 4, 2) := by decide +kernel
theorem dX10_at_67 : decode cX10_at 67 = .ok (.invokevirtual 178, 3) := by decide +kernel
theorem dX10_at_70 : decode cX10_at 70 = .ok (.goto 10, 3) := by decide +kernel
theorem dX10_at_73 : decode cX10_at 73 = .ok (.aload 5, 2) := by decide +kernel
theorem dX10_at_75 : decode cX10_at 75 = .ok (.iload 4, 2) := by decide +kernel
theorem dX10_at_77 : decode cX10_at 77 = .ok (.invokevirtual 182, 3) := by decide +kernel
theorem dX10_at_80 : decode cX10_at 80 = .ok (.ireturn, 1) := by decide +kernel
theorem dX10_make_0 : decode cX10_make 0 = .ok (.iload_n 1, 1) := by decide +kernel
theorem dX10_make_1 : decode cX10_make 1 = .ok (.invokestatic 185, 3) := by decide +kernel
theorem dX10_make_4 : decode cX10_make 4 = .ok (.ifCond .eq 14, 3) := by decide +kernel
theorem dX10_make_7 : decode cX10_make 7 = .ok (.aload_n 0, 1) := by decide +kernel
theorem dX10_make_8 : decode cX10_make 8 = .ok (.getfield 12, 3) := by decide +kernel
theorem dX10_make_11 : decode cX10_make 11 = .ok (.iload_n 1, 1) := by decide +kernel
theorem dX10_make_12 : decode cX10_make 12 = .ok (.invokevirtual 188, 3) := by decide +kernel
theorem dX10_make_15 : decode cX10_make 15 = .ok (.goto 5, 3) := by decide +kernel
theorem dX10_make_18 : decode cX10_make 18 = .ok (.bipush (-2), 2) := by decide +kernel
theorem dX10_make_20 : decode cX10_make 20 = .ok (.ireturn, 1) := by decide +kernel
theorem dX10_makings_0 : decode cX10_makings 0 = .ok (.iload_n 1, 1) := by decide +kernel
theorem dX10_makings_1 : decode cX10_makings 1 = .ok (.invokestatic 185, 3) := by decide +kernel
theorem dX10_makings_4 : decode cX10_makings 4 = .ok (.ifCond .eq 12, 3) := by decide +kernel
theorem dX10_makings_7 : decode cX10_makings 7 = .ok (.iload_n 2, 1) := by decide +kernel
theorem dX10_makings_8 : decode cX10_makings 8 = .ok (.iconst 0, 1) := by decide +kernel
theorem dX10_makings_9 : decode cX10_makings 9 = .ok (.iconst 1, 1) := by decide +kernel
theorem dX10_makings_10 : decode cX10_makings 10 = .ok (.invokestatic 104, 3) := by decide +kernel
theorem dX10_makings_13 : decode cX10_makings 13 = .ok (.ifCond .ne 6, 3) := by decide +kernel
theorem dX10_makings_16 : decode cX10_makings 16 = .ok (.bipush (-2), 2) := by decide +kernel
theorem dX10_makings_18 : decode cX10_makings 18 = .ok (.ireturn, 1) := by decide +kernel
theorem dX10_makings_19 : decode cX10_makings 19 = .ok (.iconst 0, 1) := by decide +kernel
theorem dX10_makings_20 : decode cX10_makings 20 = .ok (.istore_n 3, 1) := by decide +kernel
theorem dX10_makings_21 : decode cX10_makings 21 = .ok (.iconst (-1), 1) := by decide +kernel
theorem dX10_makings_22 : decode cX10_makings 22 = .ok (.istore 4, 2) := by decide +kernel
theorem dX10_makings_24 : decode cX10_makings 24 = .ok (.iconst 1, 1) := by decide +kernel
theorem dX10_makings_25 : decode cX10_makings 25 = .ok (.istore 5, 2) := by decide +kernel
theorem dX10_makings_27 : decode cX10_makings 27 = .ok (.iload 5, 2) := by decide +kernel
theorem dX10_makings_29 : decode cX10_makings 29 = .ok (.iload_n 1, 1) := by decide +kernel
theorem dX10_makings_30 : decode cX10_makings 30 = .ok (.if_icmp .gt 37, 3) := by decide +kernel
theorem dX10_makings_33 : decode cX10_makings 33 = .ok (.aload_n 0, 1) := by decide +kernel
theorem dX10_makings_34 : decode cX10_makings 34 = .ok (.getfield 12, 3) := by decide +kernel
theorem dX10_makings_37 : decode cX10_makings 37 = .ok (.iload 5, 2) := by decide +kernel
theorem dX10_makings_39 : decode cX10_makings 39 = .ok (.invokevirtual 191, 3) := by decide +kernel
theorem dX10_makings_42 : decode cX10_makings 42 = .ok (.ifCond .eq 9, 3) := by decide +kernel
theorem dX10_makings_45 : decode cX10_makings 45 = .ok (.iinc 3 1, 3) := by decide +kernel
theorem dX10_makings_48 : decode cX10_makings 48 = .ok (.goto 13, 3) := by decide +kernel
theorem dX10_makings_51 : decode cX10_makings 51 = .ok (.iload 4, 2) := by decide +kernel
theorem dX10_makings_53 : decode cX10_makings 53 = .ok (.iconst (-1), 1) := by decide +kernel
theorem dX10_makings_54 : decode cX10_makings 54 = .ok (.if_icmp .ne 7, 3) := by decide +kernel
theorem dX10_makings_57 : decode cX10_makings 57 = .ok (.iload 5, 2) := by decide +kernel
theorem dX10_makings_59 : decode cX10_makings 59 = .ok (.istore 4, 2) := by decide +kernel
theorem dX10_makings_61 : decode cX10_makings 61 = .ok (.iinc 5 1, 3) := by decide +kernel
theorem dX10_makings_64 : decode cX10_makings 64 = .ok (.goto (-37), 3) := by decide +kernel
theorem dX10_makings_67 : decode cX10_makings 67 = .ok (.iload_n 2, 1) := by decide +kernel
theorem dX10_makings_68 : decode cX10_makings 68 = .ok (.ifCond .ne 7, 3) := by decide +kernel
theorem dX10_makings_71 : decode cX10_makings 71 = .ok (.iload_n 3, 1) := by decide +kernel
theorem dX10_makings_72 : decode cX10_makings 72 = .ok (.goto 5, 3) := by decide +kernel
theorem dX10_makings_75 : decode cX10_makings 75 = .ok (.iload 4, 2) := by decide +kernel
theorem dX10_makings_77 : decode cX10_makings 77 = .ok (.ireturn, 1) := by decide +kernel
theorem dX10_own_0 : decode cX10_own 0 = .ok (.iload_n 1, 1) := by decide +kernel
theorem dX10_own_1 : decode cX10_own 1 = .ok (.iconst 0, 1) := by decide +kernel
theorem dX10_own_2 : decode cX10_own 2 = .ok (.bipush 99, 2) := by decide +kernel
theorem dX10_own_4 : decode cX10_own 4 = .ok (.invokestatic 104, 3) := by decide +kernel
theorem dX10_own_7 : decode cX10_own 7 = .ok (.ifCond .eq 12, 3) := by decide +kernel
theorem dX10_own_10 : decode cX10_own 10 = .ok (.iload_n 2, 1) := by decide +kernel
theorem dX10_own_11 : decode cX10_own 11 = .ok (.iconst 0, 1) := by decide +kernel
theorem dX10_own_12 : decode cX10_own 12 = .ok (.iconst 1, 1) := by decide +kernel
theorem dX10_own_13 : decode cX10_own 13 = .ok (.invokestatic 104, 3) := by decide +kernel
theorem dX10_own_16 : decode cX10_own 16 = .ok (.ifCond .ne 6, 3) := by decide +kernel
theorem dX10_own_19 : decode cX10_own 19 = .ok (.bipush (-2), 2) := by decide +kernel
theorem dX10_own_21 : decode cX10_own 21 = .ok (.ireturn, 1) := by decide +kernel
theorem dX10_own_22 : decode cX10_own 22 = .ok (.aload_n 0, 1) := by decide +kernel
theorem dX10_own_23 : decode cX10_own 23 = .ok (.getfield 12, 3) := by decide +kernel
theorem dX10_own_26 : decode cX10_own 26 = .ok (.getfield 111, 3) := by decide +kernel
theorem dX10_own_29 : decode cX10_own 29 = .ok (.iconst 5, 1) := by decide +kernel
theorem dX10_own_30 : decode cX10_own 30 = .ok (.if_icmp .lt 6, 3) := by decide +kernel
theorem dX10_own_33 : decode cX10_own 33 = .ok (.bipush (-3), 2) := by decide +kernel
theorem dX10_own_35 : decode cX10_own 35 = .ok (.ireturn, 1) := by decide +kernel
theorem dX10_own_36 : decode cX10_own 36 = .ok (.iconst 1, 1) := by decide +kernel
theorem dX10_own_37 : decode cX10_own 37 = .ok (.istore_n 3, 1) := by decide +kernel
theorem dX10_own_38 : decode cX10_own 38 = .ok (.iconst 0, 1) := by decide +kernel
theorem dX10_own_39 : decode cX10_own 39 = .ok (.istore 4, 2) := by decide +kernel
theorem dX10_own_41 : decode cX10_own 41 = .ok (.iconst 1, 1) := by decide +kernel
theorem dX10_own_42 : decode cX10_own 42 = .ok (.istore 5, 2) := by decide +kernel
theorem dX10_own_44 : decode cX10_own 44 = .ok (.iload 5, 2) := by decide +kernel
theorem dX10_own_46 : decode cX10_own 46 = .ok (.bipush 99, 2) := by decide +kernel
theorem dX10_own_48 : decode cX10_own 48 = .ok (.if_icmp .gt 35, 3) := by decide +kernel
theorem dX10_own_51 : decode cX10_own 51 = .ok (.aload_n 0, 1) := by decide +kernel
theorem dX10_own_52 : decode cX10_own 52 = .ok (.getfield 12, 3) := by decide +kernel
theorem dX10_own_55 : decode cX10_own 55 = .ok (.iload 5, 2) := by decide +kernel
theorem dX10_own_57 : decode cX10_own 57 = .ok (.iload_n 1, 1) := by decide +kernel
theorem dX10_own_58 : decode cX10_own 58 = .ok (.invokevirtual 194, 3) := by decide +kernel
theorem dX10_own_61 : decode cX10_own 61 = .ok (.istore 6, 2) := by decide +kernel
theorem dX10_own_63 : decode cX10_own 63 = .ok (.iload 6, 2) := by decide +kernel
theorem dX10_own_65 : decode cX10_own 65 = .ok (.iload 4, 2) := by decide +kernel
theorem dX10_own_67 : decode cX10_own 67 = .ok (.if_icmp .le 10, 3) := by decide +kernel
theorem dX10_own_70 : decode cX10_own 70 = .ok (.iload 6, 2) := by decide +kernel
theorem dX10_own_72 : decode cX10_own 72 = .ok (.istore 4, 2) := by decide +kernel
theorem dX10_own_74 : decode cX10_own 74 = .ok (.iload 5, 2) := by decide +kernel
theorem dX10_own_76 : decode cX10_own 76 = .ok (.istore_n 3, 1) := by decide +kernel
theorem dX10_own_77 : decode cX10_own 77 = .ok (.iinc 5 1, 3) := by decide +kernel
theorem dX10_own_80 : decode cX10_own 80 = .ok (.goto (-36), 3) := by decide +kernel
theorem dX10_own_83 : decode cX10_own 83 = .ok (.iload_n 2, 1) := by decide +kernel
theorem dX10_own_84 : decode cX10_own 84 = .ok (.ifCond .ne 7, 3) := by decide +kernel
theorem dX10_own_87 : decode cX10_own 87 = .ok (.iload_n 3, 1) := by decide +kernel
theorem dX10_own_88 : decode cX10_own 88 = .ok (.goto 5, 3) := by decide +kernel
theorem dX10_own_91 : decode cX10_own 91 = .ok (.iload 4, 2) := by decide +kernel
theorem dX10_own_93 : decode cX10_own 93 = .ok (.ireturn, 1) := by decide +kernel
theorem dX10_falsely_0 : decode cX10_falsely 0 = .ok (.iload_n 1, 1) := by decide +kernel
theorem dX10_falsely_1 : decode cX10_falsely 1 = .ok (.invokestatic 185, 3) := by decide +kernel
theorem dX10_falsely_4 : decode cX10_falsely 4 = .ok (.ifCond .eq 14, 3) := by decide +kernel
theorem dX10_falsely_7 : decode cX10_falsely 7 = .ok (.aload_n 0, 1) := by decide +kernel
theorem dX10_falsely_8 : decode cX10_falsely 8 = .ok (.getfield 12, 3) := by decide +kernel
theorem dX10_falsely_11 : decode cX10_falsely 11 = .ok (.iload_n 1, 1) := by decide +kernel
theorem dX10_falsely_12 : decode cX10_falsely 12 = .ok (.invokevirtual 197, 3) := by decide +kernel
theorem dX10_falsely_15 : decode cX10_falsely 15 = .ok (.goto 5, 3) := by decide +kernel
theorem dX10_falsely_18 : decode cX10_falsely 18 = .ok (.bipush (-2), 2) := by decide +kernel
theorem dX10_falsely_20 : decode cX10_falsely 20 = .ok (.ireturn, 1) := by decide +kernel
theorem dX10_scales_0 : decode cX10_scales 0 = .ok (.aload_n 0, 1) := by decide +kernel
theorem dX10_scales_1 : decode cX10_scales 1 = .ok (.getfield 19, 3) := by decide +kernel
theorem dX10_scales_4 : decode cX10_scales 4 = .ok (.iload_n 1, 1) := by decide +kernel
theorem dX10_scales_5 : decode cX10_scales 5 = .ok (.invokevirtual 200, 3) := by decide +kernel
theorem dX10_scales_8 : decode cX10_scales 8 = .ok (.ifCond .ne 6, 3) := by decide +kernel
theorem dX10_scales_11 : decode cX10_scales 11 = .ok (.bipush (-5), 2) := by decide +kernel
theorem dX10_scales_13 : decode cX10_scales 13 = .ok (.ireturn, 1) := by decide +kernel
theorem dX10_scales_14 : decode cX10_scales 14 = .ok (.iload_n 2, 1) := by decide +kernel
theorem dX10_scales_15 : decode cX10_scales 15 = .ok (.invokestatic 167, 3) := by decide +kernel
theorem dX10_scales_18 : decode cX10_scales 18 = .ok (.ifCond .eq 12, 3) := by decide +kernel
theorem dX10_scales_21 : decode cX10_scales 21 = .ok (.iload_n 3, 1) := by decide +kernel
theorem dX10_scales_22 : decode cX10_scales 22 = .ok (.iconst 0, 1) := by decide +kernel
theorem dX10_scales_23 : decode cX10_scales 23 = .ok (.iconst 5, 1) := by decide +kernel
theorem dX10_scales_24 : decode cX10_scales 24 = .ok (.invokestatic 104, 3) := by decide +kernel
theorem dX10_scales_27 : decode cX10_scales 27 = .ok (.ifCond .ne 6, 3) := by decide +kernel
theorem dX10_scales_30 : decode cX10_scales 30 = .ok (.bipush (-7), 2) := by decide +kernel
theorem dX10_scales_32 : decode cX10_scales 32 = .ok (.ireturn, 1) := by decide +kernel
theorem dX10_scales_33 : decode cX10_scales 33 = .ok (.aload_n 0, 1) := by decide +kernel
theorem dX10_scales_34 : decode cX10_scales 34 = .ok (.getfield 41, 3) := by decide +kernel
theorem dX10_scales_37 : decode cX10_scales 37 = .ok (.iload_n 2, 1) := by decide +kernel
theorem dX10_scales_38 : decode cX10_scales 38 = .ok (.aload_n 0, 1) := by decide +kernel
theorem dX10_scales_39 : decode cX10_scales 39 = .ok (.getfield 19, 3) := by decide +kernel
theorem dX10_scales_42 : decode cX10_scales 42 = .ok (.getfield 161, 3) := by decide +kernel
theorem dX10_scales_45 : decode cX10_scales 45 = .ok (.invokevirtual 203, 3) := by decide +kernel
theorem dX10_scales_48 : decode cX10_scales 48 = .ok (.aload_n 0, 1) := by decide +kernel
theorem dX10_scales_49 : decode cX10_scales 49 = .ok (.getfield 41, 3) := by decide +kernel
theorem dX10_scales_52 : decode cX10_scales 52 = .ok (.iload_n 1, 1) := by decide +kernel
theorem dX10_scales_53 : decode cX10_scales 53 = .ok (.invokevirtual 207, 3) := by decide +kernel
theorem dX10_scales_56 : decode cX10_scales 56 = .ok (.iload_n 3, 1) := by decide +kernel
theorem dX10_scales_57 : decode cX10_scales 57 = .ok (.tableswitch 87 0 4 #[35, 55, 63, 71, 79], 35) := by decide +kernel
theorem dX10_scales_92 : decode cX10_scales 92 = .ok (.aload_n 0, 1) := by decide +kernel
theorem dX10_scales_93 : decode cX10_scales 93 = .ok (.getfield 41, 3) := by decide +kernel
theorem dX10_scales_96 : decode cX10_scales 96 = .ok (.aload_n 0, 1) := by decide +kernel
theorem dX10_scales_97 : decode cX10_scales 97 = .ok (.invokevirtual 132, 3) := by decide +kernel
theorem dX10_scales_100 : decode cX10_scales 100 = .ok (.invokevirtual 210, 3) := by decide +kernel
theorem dX10_scales_103 : decode cX10_scales 103 = .ok (.ifCond .eq 7, 3) := by decide +kernel
theorem dX10_scales_106 : decode cX10_scales 106 = .ok (.iconst 1, 1) := by decide +kernel
theorem dX10_scales_107 : decode cX10_scales 107 = .ok (.goto 4, 3) := by decide +kernel
theorem dX10_scales_110 : decode cX10_scales 110 = .ok (.iconst 0, 1) := by decide +kernel
theorem dX10_scales_111 : decode cX10_scales 111 = .ok (.ireturn, 1) := by decide +kernel
theorem dX10_scales_112 : decode cX10_scales 112 = .ok (.aload_n 0, 1) := by decide +kernel
theorem dX10_scales_113 : decode cX10_scales 113 = .ok (.getfield 41, 3) := by decide +kernel
theorem dX10_scales_116 : decode cX10_scales 116 = .ok (.getfield 214, 3) := by decide +kernel
theorem dX10_scales_119 : decode cX10_scales 119 = .ok (.ireturn, 1) := by decide +kernel
theorem dX10_scales_120 : decode cX10_scales 120 = .ok (.aload_n 0, 1) := by decide +kernel
theorem dX10_scales_121 : decode cX10_scales 121 = .ok (.getfield 41, 3) := by decide +kernel
theorem dX10_scales_124 : decode cX10_scales 124 = .ok (.getfield 217, 3) := by decide +kernel
theorem dX10_scales_127 : decode cX10_scales 127 = .ok (.ireturn, 1) := by decide +kernel
theorem dX10_scales_128 : decode cX10_scales 128 = .ok (.aload_n 0, 1) := by decide +kernel
theorem dX10_scales_129 : decode cX10_scales 129 = .ok (.getfield 41, 3) := by decide +kernel
theorem dX10_scales_132 : decode cX10_scales 132 = .ok (.getfield 220, 3) := by decide +kernel
theorem dX10_scales_135 : decode cX10_scales 135 = .ok (.ireturn, 1) := by decide +kernel
theorem dX10_scales_136 : decode cX10_scales 136 = .ok (.aload_n 0, 1) := by decide +kernel
theorem dX10_scales_137 : decode cX10_scales 137 = .ok (.getfield 41, 3) := by decide +kernel
theorem dX10_scales_140 : decode cX10_scales 140 = .ok (.getfield 223, 3) := by decide +kernel
theorem dX10_scales_143 : decode cX10_scales 143 = .ok (.ireturn, 1) := by decide +kernel
theorem dX10_scales_144 : decode cX10_scales 144 = .ok (.aload_n 0, 1) := by decide +kernel
theorem dX10_scales_145 : decode cX10_scales 145 = .ok (.getfield 41, 3) := by decide +kernel
theorem dX10_scales_148 : decode cX10_scales 148 = .ok (.aload_n 0, 1) := by decide +kernel
theorem dX10_scales_149 : decode cX10_scales 149 = .ok (.invokevirtual 132, 3) := by decide +kernel
theorem dX10_scales_152 : decode cX10_scales 152 = .ok (.invokevirtual 210, 3) := by decide +kernel
theorem dX10_scales_155 : decode cX10_scales 155 = .ok (.ifCond .eq 17, 3) := by decide +kernel
theorem dX10_scales_158 : decode cX10_scales 158 = .ok (.aload_n 0, 1) := by decide +kernel
theorem dX10_scales_159 : decode cX10_scales 159 = .ok (.getfield 41, 3) := by decide +kernel
theorem dX10_scales_162 : decode cX10_scales 162 = .ok (.aload_n 0, 1) := by decide +kernel
theorem dX10_scales_163 : decode cX10_scales 163 = .ok (.invokevirtual 132, 3) := by decide +kernel
theorem dX10_scales_166 : decode cX10_scales 166 = .ok (.invokevirtual 225, 3) := by decide +kernel
theorem dX10_scales_169 : decode cX10_scales 169 = .ok (.goto 4, 3) := by decide +kernel
theorem dX10_scales_172 : decode cX10_scales 172 = .ok (.iconst 0, 1) := by decide +kernel
theorem dX10_scales_173 : decode cX10_scales 173 = .ok (.ireturn, 1) := by decide +kernel
theorem dX10_pairs_0 : decode cX10_pairs 0 = .ok (.iload_n 1, 1) := by decide +kernel
theorem dX10_pairs_1 : decode cX10_pairs 1 = .ok (.invokestatic 167, 3) := by decide +kernel
theorem dX10_pairs_4 : decode cX10_pairs 4 = .ok (.ifCond .ne 6, 3) := by decide +kernel
theorem dX10_pairs_7 : decode cX10_pairs 7 = .ok (.bipush (-5), 2) := by decide +kernel
theorem dX10_pairs_9 : decode cX10_pairs 9 = .ok (.ireturn, 1) := by decide +kernel
theorem dX10_pairs_10 : decode cX10_pairs 10 = .ok (.iload_n 2, 1) := by decide +kernel
theorem dX10_pairs_11 : decode cX10_pairs 11 = .ok (.iconst 0, 1) := by decide +kernel
theorem dX10_pairs_12 : decode cX10_pairs 12 = .ok (.iconst 1, 1) := by decide +kernel
theorem dX10_pairs_13 : decode cX10_pairs 13 = .ok (.invokestatic 104, 3) := by decide +kernel
theorem dX10_pairs_16 : decode cX10_pairs 16 = .ok (.ifCond .ne 6, 3) := by decide +kernel
theorem dX10_pairs_19 : decode cX10_pairs 19 = .ok (.bipush (-7), 2) := by decide +kernel
theorem dX10_pairs_21 : decode cX10_pairs 21 = .ok (.ireturn, 1) := by decide +kernel
theorem dX10_pairs_22 : decode cX10_pairs 22 = .ok (.aload_n 0, 1) := by decide +kernel
theorem dX10_pairs_23 : decode cX10_pairs 23 = .ok (.getfield 50, 3) := by decide +kernel
theorem dX10_pairs_26 : decode cX10_pairs 26 = .ok (.iload_n 1, 1) := by decide +kernel
theorem dX10_pairs_27 : decode cX10_pairs 27 = .ok (.aload_n 0, 1) := by decide +kernel
theorem dX10_pairs_28 : decode cX10_pairs 28 = .ok (.invokevirtual 132, 3) := by decide +kernel
theorem dX10_pairs_31 : decode cX10_pairs 31 = .ok (.invokevirtual 228, 3) := by decide +kernel
theorem dX10_pairs_34 : decode cX10_pairs 34 = .ok (.iload_n 2, 1) := by decide +kernel
theorem dX10_pairs_35 : decode cX10_pairs 35 = .ok (.ifCond .ne 13, 3) := by decide +kernel
theorem dX10_pairs_38 : decode cX10_pairs 38 = .ok (.aload_n 0, 1) := by decide +kernel
theorem dX10_pairs_39 : decode cX10_pairs 39 = .ok (.getfield 50, 3) := by decide +kernel
theorem dX10_pairs_42 : decode cX10_pairs 42 = .ok (.invokevirtual 231, 3) := by decide +kernel
theorem dX10_pairs_45 : decode cX10_pairs 45 = .ok (.goto 10, 3) := by decide +kernel
theorem dX10_pairs_48 : decode cX10_pairs 48 = .ok (.aload_n 0, 1) := by decide +kernel
theorem dX10_pairs_49 : decode cX10_pairs 49 = .ok (.getfield 50, 3) := by decide +kernel
theorem dX10_pairs_52 : decode cX10_pairs 52 = .ok (.invokevirtual 234, 3) := by decide +kernel
theorem dX10_pairs_55 : decode cX10_pairs 55 = .ok (.ireturn, 1) := by decide +kernel
theorem dX10_against_0 : decode cX10_against 0 = .ok (.iload_n 1, 1) := by decide +kernel
theorem dX10_against_1 : decode cX10_against 1 = .ok (.invokestatic 167, 3) := by decide +kernel
theorem dX10_against_4 : decode cX10_against 4 = .ok (.ifCond .eq 14, 3) := by decide +kernel
theorem dX10_against_7 : decode cX10_against 7 = .ok (.aload_n 0, 1) := by decide +kernel
theorem dX10_against_8 : decode cX10_against 8 = .ok (.getfield 19, 3) := by decide +kernel
theorem dX10_against_11 : decode cX10_against 11 = .ok (.iload_n 2, 1) := by decide +kernel
theorem dX10_against_12 : decode cX10_against 12 = .ok (.invokevirtual 164, 3) := by decide +kernel
theorem dX10_against_15 : decode cX10_against 15 = .ok (.ifCond .ne 6, 3) := by decide +kernel
theorem dX10_against_18 : decode cX10_against 18 = .ok (.bipush (-5), 2) := by decide +kernel
theorem dX10_against_20 : decode cX10_against 20 = .ok (.ireturn, 1) := by decide +kernel
theorem dX10_against_21 : decode cX10_against 21 = .ok (.aload_n 0, 1) := by decide +kernel
theorem dX10_against_22 : decode cX10_against 22 = .ok (.getfield 50, 3) := by decide +kernel
theorem dX10_against_25 : decode cX10_against 25 = .ok (.iload_n 1, 1) := by decide +kernel
theorem dX10_against_26 : decode cX10_against 26 = .ok (.aload_n 0, 1) := by decide +kernel
theorem dX10_against_27 : decode cX10_against 27 = .ok (.invokevirtual 132, 3) := by decide +kernel
theorem dX10_against_30 : decode cX10_against 30 = .ok (.invokevirtual 228, 3) := by decide +kernel
theorem dX10_against_33 : decode cX10_against 33 = .ok (.aload_n 0, 1) := by decide +kernel
theorem dX10_against_34 : decode cX10_against 34 = .ok (.getfield 50, 3) := by decide +kernel
theorem dX10_against_37 : decode cX10_against 37 = .ok (.invokevirtual 237, 3) := by decide +kernel
theorem dX10_against_40 : decode cX10_against 40 = .ok (.aload_n 0, 1) := by decide +kernel
theorem dX10_against_41 : decode cX10_against 41 = .ok (.getfield 50, 3) := by decide +kernel
theorem dX10_against_44 : decode cX10_against 44 = .ok (.getfield 240, 3) := by decide +kernel
theorem dX10_against_47 : decode cX10_against 47 = .ok (.iload_n 2, 1) := by decide +kernel
theorem dX10_against_48 : decode cX10_against 48 = .ok (.iaload, 1) := by decide +kernel
theorem dX10_against_49 : decode cX10_against 49 = .ok (.ireturn, 1) := by decide +kernel
theorem dX10_best_0 : decode cX10_best 0 = .ok (.iload_n 1, 1) := by decide +kernel
theorem dX10_best_1 : decode cX10_best 1 = .ok (.invokestatic 167, 3) := by decide +kernel
theorem dX10_best_4 : decode cX10_best 4 = .ok (.ifCond .ne 6, 3) := by decide +kernel
theorem dX10_best_7 : decode cX10_best 7 = .ok (.bipush (-5), 2) := by decide +kernel
theorem dX10_best_9 : decode cX10_best 9 = .ok (.ireturn, 1) := by decide +kernel
theorem dX10_best_10 : decode cX10_best 10 = .ok (.iload_n 2, 1) := by decide +kernel
theorem dX10_best_11 : decode cX10_best 11 = .ok (.iconst 0, 1) := by decide +kernel
theorem dX10_best_12 : decode cX10_best 12 = .ok (.iconst 1, 1) := by decide +kernel
theorem dX10_best_13 : decode cX10_best 13 = .ok (.invokestatic 104, 3) := by decide +kernel
theorem dX10_best_16 : decode cX10_best 16 = .ok (.ifCond .ne 6, 3) := by decide +kernel
theorem dX10_best_19 : decode cX10_best 19 = .ok (.bipush (-7), 2) := by decide +kernel
theorem dX10_best_21 : decode cX10_best 21 = .ok (.ireturn, 1) := by decide +kernel
theorem dX10_best_22 : decode cX10_best 22 = .ok (.aload_n 0, 1) := by decide +kernel
theorem dX10_best_23 : decode cX10_best 23 = .ok (.getfield 41, 3) := by decide +kernel
theorem dX10_best_26 : decode cX10_best 26 = .ok (.iload_n 1, 1) := by decide +kernel
theorem dX10_best_27 : decode cX10_best 27 = .ok (.aload_n 0, 1) := by decide +kernel
theorem dX10_best_28 : decode cX10_best 28 = .ok (.getfield 19, 3) := by decide +kernel
theorem dX10_best_31 : decode cX10_best 31 = .ok (.getfield 161, 3) := by decide +kernel
theorem dX10_best_34 : decode cX10_best 34 = .ok (.invokevirtual 203, 3) := by decide +kernel
theorem dX10_best_37 : decode cX10_best 37 = .ok (.aload_n 0, 1) := by decide +kernel
theorem dX10_best_38 : decode cX10_best 38 = .ok (.getfield 41, 3) := by decide +kernel
theorem dX10_best_41 : decode cX10_best 41 = .ok (.sipush 1023, 3) := by decide +kernel
theorem dX10_best_44 : decode cX10_best 44 = .ok (.aload_n 0, 1) := by decide +kernel
theorem dX10_best_45 : decode cX10_best 45 = .ok (.invokevirtual 132, 3) := by decide +kernel
theorem dX10_best_48 : decode cX10_best 48 = .ok (.invokevirtual 243, 3) := by decide +kernel
theorem dX10_best_51 : decode cX10_best 51 = .ok (.iload_n 2, 1) := by decide +kernel
theorem dX10_best_52 : decode cX10_best 52 = .ok (.ifCond .ne 13, 3) := by decide +kernel
theorem dX10_best_55 : decode cX10_best 55 = .ok (.aload_n 0, 1) := by decide +kernel
theorem dX10_best_56 : decode cX10_best 56 = .ok (.getfield 41, 3) := by decide +kernel
theorem dX10_best_59 : decode cX10_best 59 = .ok (.getfield 246, 3) := by decide +kernel
theorem dX10_best_62 : decode cX10_best 62 = .ok (.goto 10, 3) := by decide +kernel
theorem dX10_best_65 : decode cX10_best 65 = .ok (.aload_n 0, 1) := by decide +kernel
theorem dX10_best_66 : decode cX10_best 66 = .ok (.getfield 41, 3) := by decide +kernel
theorem dX10_best_69 : decode cX10_best 69 = .ok (.getfield 249, 3) := by decide +kernel
theorem dX10_best_72 : decode cX10_best 72 = .ok (.ireturn, 1) := by decide +kernel
theorem dX10_dusk_0 : decode cX10_dusk 0 = .ok (.iload_n 1, 1) := by decide +kernel
theorem dX10_dusk_1 : decode cX10_dusk 1 = .ok (.iconst 0, 1) := by decide +kernel
theorem dX10_dusk_2 : decode cX10_dusk 2 = .ok (.bipush 10, 2) := by decide +kernel
theorem dX10_dusk_4 : decode cX10_dusk 4 = .ok (.invokestatic 104, 3) := by decide +kernel
theorem dX10_dusk_7 : decode cX10_dusk 7 = .ok (.ifCond .ne 6, 3) := by decide +kernel
theorem dX10_dusk_10 : decode cX10_dusk 10 = .ok (.bipush (-5), 2) := by decide +kernel
theorem dX10_dusk_12 : decode cX10_dusk 12 = .ok (.ireturn, 1) := by decide +kernel
theorem dX10_dusk_13 : decode cX10_dusk 13 = .ok (.iload_n 2, 1) := by decide +kernel
theorem dX10_dusk_14 : decode cX10_dusk 14 = .ok (.iconst 0, 1) := by decide +kernel
theorem dX10_dusk_15 : decode cX10_dusk 15 = .ok (.iconst 4, 1) := by decide +kernel
theorem dX10_dusk_16 : decode cX10_dusk 16 = .ok (.invokestatic 104, 3) := by decide +kernel
theorem dX10_dusk_19 : decode cX10_dusk 19 = .ok (.ifCond .ne 6, 3) := by decide +kernel
theorem dX10_dusk_22 : decode cX10_dusk 22 = .ok (.bipush (-7), 2) := by decide +kernel
theorem dX10_dusk_24 : decode cX10_dusk 24 = .ok (.ireturn, 1) := by decide +kernel
theorem dX10_dusk_25 : decode cX10_dusk 25 = .ok (.aload_n 0, 1) := by decide +kernel
theorem dX10_dusk_26 : decode cX10_dusk 26 = .ok (.getfield 57, 3) := by decide +kernel
theorem dX10_dusk_29 : decode cX10_dusk 29 = .ok (.invokevirtual 252, 3) := by decide +kernel
theorem dX10_dusk_32 : decode cX10_dusk 32 = .ok (.aload_n 0, 1) := by decide +kernel
theorem dX10_dusk_33 : decode cX10_dusk 33 = .ok (.getfield 57, 3) := by decide +kernel
theorem dX10_dusk_36 : decode cX10_dusk 36 = .ok (.iload_n 1, 1) := by decide +kernel
theorem dX10_dusk_37 : decode cX10_dusk 37 = .ok (.iconst (-1), 1) := by decide +kernel
theorem dX10_dusk_38 : decode cX10_dusk 38 = .ok (.sipush 1023, 3) := by decide +kernel
theorem dX10_dusk_41 : decode cX10_dusk 41 = .ok (.aload_n 0, 1) := by decide +kernel
theorem dX10_dusk_42 : decode cX10_dusk 42 = .ok (.invokevirtual 132, 3) := by decide +kernel
theorem dX10_dusk_45 : decode cX10_dusk 45 = .ok (.invokevirtual 255, 3) := by decide +kernel
theorem dX10_dusk_48 : decode cX10_dusk 48 = .ok (.iload_n 2, 1) := by decide +kernel
theorem dX10_dusk_49 : decode cX10_dusk 49 = .ok (.tableswitch 63 0 3 #[31, 39, 47, 55], 31) := by decide +kernel
theorem dX10_dusk_80 : decode cX10_dusk 80 = .ok (.aload_n 0, 1) := by decide +kernel
theorem dX10_dusk_81 : decode cX10_dusk 81 = .ok (.getfield 57, 3) := by decide +kernel
theorem dX10_dusk_84 : decode cX10_dusk 84 = .ok (.getfield 259, 3) := by decide +kernel
theorem dX10_dusk_87 : decode cX10_dusk 87 = .ok (.ireturn, 1) := by decide +kernel
theorem dX10_dusk_88 : decode cX10_dusk 88 = .ok (.aload_n 0, 1) := by decide +kernel
theorem dX10_dusk_89 : decode cX10_dusk 89 = .ok (.getfield 57, 3) := by decide +kernel
theorem dX10_dusk_92 : decode cX10_dusk 92 = .ok (.getfield 262, 3) := by decide +kernel
theorem dX10_dusk_95 : decode cX10_dusk 95 = .ok (.ireturn, 1) := by decide +kernel
theorem dX10_dusk_96 : decode cX10_dusk 96 = .ok (.aload_n 0, 1) := by decide +kernel
theorem dX10_dusk_97 : decode cX10_dusk 97 = .ok (.getfield 57, 3) := by decide +kernel
theorem dX10_dusk_100 : decode cX10_dusk 100 = .ok (.getfield 265, 3) := by decide +kernel
theorem dX10_dusk_103 : decode cX10_dusk 103 = .ok (.ireturn, 1) := by decide +kernel
theorem dX10_dusk_104 : decode cX10_dusk 104 = .ok (.aload_n 0, 1) := by decide +kernel
theorem dX10_dusk_105 : decode cX10_dusk 105 = .ok (.getfield 57, 3) := by decide +kernel
theorem dX10_dusk_108 : decode cX10_dusk 108 = .ok (.getfield 268, 3) := by decide +kernel
theorem dX10_dusk_111 : decode cX10_dusk 111 = .ok (.ireturn, 1) := by decide +kernel
theorem dX10_dusk_112 : decode cX10_dusk 112 = .ok (.aload_n 0, 1) := by decide +kernel
theorem dX10_dusk_113 : decode cX10_dusk 113 = .ok (.getfield 57, 3) := by decide +kernel
theorem dX10_dusk_116 : decode cX10_dusk 116 = .ok (.iload_n 1, 1) := by decide +kernel
theorem dX10_dusk_117 : decode cX10_dusk 117 = .ok (.invokevirtual 271, 3) := by decide +kernel
theorem dX10_dusk_120 : decode cX10_dusk 120 = .ok (.ireturn, 1) := by decide +kernel
theorem dX10_goes_0 : decode cX10_goes 0 = .ok (.iload_n 2, 1) := by decide +kernel
theorem dX10_goes_1 : decode cX10_goes 1 = .ok (.iconst 0, 1) := by decide +kernel
theorem dX10_goes_2 : decode cX10_goes 2 = .ok (.iconst 1, 1) := by decide +kernel
theorem dX10_goes_3 : decode cX10_goes 3 = .ok (.invokestatic 104, 3) := by decide +kernel
theorem dX10_goes_6 : decode cX10_goes 6 = .ok (.ifCond .ne 6, 3) := by decide +kernel
theorem dX10_goes_9 : decode cX10_goes 9 = .ok (.bipush (-2), 2) := by decide +kernel
theorem dX10_goes_11 : decode cX10_goes 11 = .ok (.ireturn, 1) := by decide +kernel
theorem dX10_goes_12 : decode cX10_goes 12 = .ok (.iload_n 2, 1) := by decide +kernel
theorem dX10_goes_13 : decode cX10_goes 13 = .ok (.ifCond .ne 14, 3) := by decide +kernel
theorem dX10_goes_16 : decode cX10_goes 16 = .ok (.aload_n 0, 1) := by decide +kernel
theorem dX10_goes_17 : decode cX10_goes 17 = .ok (.getfield 19, 3) := by decide +kernel
theorem dX10_goes_20 : decode cX10_goes 20 = .ok (.iload_n 1, 1) := by decide +kernel
theorem dX10_goes_21 : decode cX10_goes 21 = .ok (.invokevirtual 164, 3) := by decide +kernel
theorem dX10_goes_24 : decode cX10_goes 24 = .ok (.goto 7, 3) := by decide +kernel
theorem dX10_goes_27 : decode cX10_goes 27 = .ok (.iload_n 1, 1) := by decide +kernel
theorem dX10_goes_28 : decode cX10_goes 28 = .ok (.invokestatic 167, 3) := by decide +kernel
theorem dX10_goes_31 : decode cX10_goes 31 = .ok (.istore_n 3, 1) := by decide +kernel
theorem dX10_goes_32 : decode cX10_goes 32 = .ok (.iload_n 3, 1) := by decide +kernel
theorem dX10_goes_33 : decode cX10_goes 33 = .ok (.ifCond .ne 6, 3) := by decide +kernel
theorem dX10_goes_36 : decode cX10_goes 36 = .ok (.bipush (-5), 2) := by decide +kernel
theorem dX10_goes_38 : decode cX10_goes 38 = .ok (.ireturn, 1) := by decide +kernel
theorem dX10_goes_39 : decode cX10_goes 39 = .ok (.aload_n 0, 1) := by decide +kernel
theorem dX10_goes_40 : decode cX10_goes 40 = .ok (.invokevirtual 274, 3) := by decide +kernel
theorem dX10_goes_43 : decode cX10_goes 43 = .ok (.iload_n 2, 1) := by decide +kernel
theorem dX10_goes_44 : decode cX10_goes 44 = .ok (.ifCond .ne 14, 3) := by decide +kernel
theorem dX10_goes_47 : decode cX10_goes 47 = .ok (.aload_n 0, 1) := by decide +kernel
theorem dX10_goes_48 : decode cX10_goes 48 = .ok (.getfield 57, 3) := by decide +kernel
theorem dX10_goes_51 : decode cX10_goes 51 = .ok (.iload_n 1, 1) := by decide +kernel
theorem dX10_goes_52 : decode cX10_goes 52 = .ok (.invokevirtual 277, 3) := by decide +kernel
theorem dX10_goes_55 : decode cX10_goes 55 = .ok (.goto 11, 3) := by decide +kernel
theorem dX10_goes_58 : decode cX10_goes 58 = .ok (.aload_n 0, 1) := by decide +kernel
theorem dX10_goes_59 : decode cX10_goes 59 = .ok (.getfield 57, 3) := by decide +kernel
theorem dX10_goes_62 : decode cX10_goes 62 = .ok (.iload_n 1, 1) := by decide +kernel
theorem dX10_goes_63 : decode cX10_goes 63 = .ok (.invokevirtual 280, 3) := by decide +kernel
theorem dX10_goes_66 : decode cX10_goes 66 = .ok (.ireturn, 1) := by decide +kernel
theorem dX10_hold_0 : decode cX10_hold 0 = .ok (.iload_n 1, 1) := by decide +kernel
theorem dX10_hold_1 : decode cX10_hold 1 = .ok (.iconst 0, 1) := by decide +kernel
theorem dX10_hold_2 : decode cX10_hold 2 = .ok (.iconst 1, 1) := by decide +kernel
theorem dX10_hold_3 : decode cX10_hold 3 = .ok (.invokestatic 104, 3) := by decide +kernel
theorem dX10_hold_6 : decode cX10_hold 6 = .ok (.ifCond .ne 6, 3) := by decide +kernel
theorem dX10_hold_9 : decode cX10_hold 9 = .ok (.bipush (-2), 2) := by decide +kernel
theorem dX10_hold_11 : decode cX10_hold 11 = .ok (.ireturn, 1) := by decide +kernel
theorem dX10_hold_12 : decode cX10_hold 12 = .ok (.aload_n 0, 1) := by decide +kernel
theorem dX10_hold_13 : decode cX10_hold 13 = .ok (.invokevirtual 274, 3) := by decide +kernel
theorem dX10_hold_16 : decode cX10_hold 16 = .ok (.iconst (-1), 1) := by decide +kernel
theorem dX10_hold_17 : decode cX10_hold 17 = .ok (.istore_n 2, 1) := by decide +kernel
theorem dX10_hold_18 : decode cX10_hold 18 = .ok (.aload_n 0, 1) := by decide +kernel
theorem dX10_hold_19 : decode cX10_hold 19 = .ok (.getfield 57, 3) := by decide +kernel
theorem dX10_hold_22 : decode cX10_hold 22 = .ok (.getfield 259, 3) := by decide +kernel
theorem dX10_hold_25 : decode cX10_hold 25 = .ok (.istore_n 3, 1) := by decide +kernel
theorem dX10_hold_26 : decode cX10_hold 26 = .ok (.iconst 0, 1) := by decide +kernel
theorem dX10_hold_27 : decode cX10_hold 27 = .ok (.istore 4, 2) := by decide +kernel
theorem dX10_hold_29 : decode cX10_hold 29 = .ok (.iload 4, 2) := by decide +kernel
theorem dX10_hold_31 : decode cX10_hold 31 = .ok (.bipush 10, 2) := by decide +kernel
theorem dX10_hold_33 : decode cX10_hold 33 = .ok (.if_icmp .ge 49, 3) := by decide +kernel
theorem dX10_hold_36 : decode cX10_hold 36 = .ok (.aload_n 0, 1) := by decide +kernel
theorem dX10_hold_37 : decode cX10_hold 37 = .ok (.getfield 57, 3) := by decide +kernel
theorem dX10_hold_40 : decode cX10_hold 40 = .ok (.bipush 10, 2) := by decide +kernel
theorem dX10_hold_42 : decode cX10_hold 42 = .ok (.iload 4, 2) := by decide +kernel
theorem dX10_hold_44 : decode cX10_hold 44 = .ok (.sipush 1023, 3) := by decide +kernel
theorem dX10_hold_47 : decode cX10_hold 47 = .ok (.aload_n 0, 1) := by decide +kernel
theorem dX10_hold_48 : decode cX10_hold 48 = .ok (.invokevirtual 132, 3) := by decide +kernel
theorem dX10_hold_51 : decode cX10_hold 51 = .ok (.invokevirtual 255, 3) := by decide +kernel
theorem dX10_hold_54 : decode cX10_hold 54 = .ok (.aload_n 0, 1) := by decide +kernel
theorem dX10_hold_55 : decode cX10_hold 55 = .ok (.getfield 57, 3) := by decide +kernel
theorem dX10_hold_58 : decode cX10_hold 58 = .ok (.getfield 259, 3) := by decide +kernel
theorem dX10_hold_61 : decode cX10_hold 61 = .ok (.iload_n 3, 1) := by decide +kernel
theorem dX10_hold_62 : decode cX10_hold 62 = .ok (.if_icmp .le 14, 3) := by decide +kernel
theorem dX10_hold_65 : decode cX10_hold 65 = .ok (.aload_n 0, 1) := by decide +kernel
theorem dX10_hold_66 : decode cX10_hold 66 = .ok (.getfield 57, 3) := by decide +kernel
theorem dX10_hold_69 : decode cX10_hold 69 = .ok (.getfield 259, 3) := by decide +kernel
theorem dX10_hold_72 : decode cX10_hold 72 = .ok (.istore_n 3, 1) := by decide +kernel
theorem dX10_hold_73 : decode cX10_hold 73 = .ok (.iload 4, 2) := by decide +kernel
theorem dX10_hold_75 : decode cX10_hold 75 = .ok (.istore_n 2, 1) := by decide +kernel
theorem dX10_hold_76 : decode cX10_hold 76 = .ok (.iinc 4 1, 3) := by decide +kernel
theorem dX10_hold_79 : decode cX10_hold 79 = .ok (.goto (-50), 3) := by decide +kernel
theorem dX10_hold_82 : decode cX10_hold 82 = .ok (.iload_n 1, 1) := by decide +kernel
theorem dX10_hold_83 : decode cX10_hold 83 = .ok (.ifCond .ne 7, 3) := by decide +kernel
theorem dX10_hold_86 : decode cX10_hold 86 = .ok (.iload_n 2, 1) := by decide +kernel
theorem dX10_hold_87 : decode cX10_hold 87 = .ok (.goto 4, 3) := by decide +kernel
theorem dX10_hold_90 : decode cX10_hold 90 = .ok (.iload_n 3, 1) := by decide +kernel
theorem dX10_hold_91 : decode cX10_hold 91 = .ok (.ireturn, 1) := by decide +kernel
theorem dX10_gain_0 : decode cX10_gain 0 = .ok (.aload_n 0, 1) := by decide +kernel
theorem dX10_gain_1 : decode cX10_gain 1 = .ok (.getfield 19, 3) := by decide +kernel
theorem dX10_gain_4 : decode cX10_gain 4 = .ok (.iload_n 1, 1) := by decide +kernel
theorem dX10_gain_5 : decode cX10_gain 5 = .ok (.invokevirtual 164, 3) := by decide +kernel
theorem dX10_gain_8 : decode cX10_gain 8 = .ok (.ifCond .ne 7, 3) := by decide +kernel
theorem dX10_gain_11 : decode cX10_gain 11 = .ok (.ldc_w 283, 3) := by decide +kernel
theorem dX10_gain_14 : decode cX10_gain 14 = .ok (.ireturn, 1) := by decide +kernel
theorem dX10_gain_15 : decode cX10_gain 15 = .ok (.aload_n 0, 1) := by decide +kernel
theorem dX10_gain_16 : decode cX10_gain 16 = .ok (.invokevirtual 274, 3) := by decide +kernel
theorem dX10_gain_19 : decode cX10_gain 19 = .ok (.aload_n 0, 1) := by decide +kernel
theorem dX10_gain_20 : decode cX10_gain 20 = .ok (.getfield 57, 3) := by decide +kernel
theorem dX10_gain_23 : decode cX10_gain 23 = .ok (.getfield 259, 3) := by decide +kernel
theorem dX10_gain_26 : decode cX10_gain 26 = .ok (.istore_n 2, 1) := by decide +kernel
theorem dX10_gain_27 : decode cX10_gain 27 = .ok (.aload_n 0, 1) := by decide +kernel
theorem dX10_gain_28 : decode cX10_gain 28 = .ok (.getfield 57, 3) := by decide +kernel
theorem dX10_gain_31 : decode cX10_gain 31 = .ok (.bipush 10, 2) := by decide +kernel
theorem dX10_gain_33 : decode cX10_gain 33 = .ok (.iconst (-1), 1) := by decide +kernel
theorem dX10_gain_34 : decode cX10_gain 34 = .ok (.sipush 1023, 3) := by decide +kernel
theorem dX10_gain_37 : decode cX10_gain 37 = .ok (.iconst 1, 1) := by decide +kernel
theorem dX10_gain_38 : decode cX10_gain 38 = .ok (.iload_n 1, 1) := by decide +kernel
theorem dX10_gain_39 : decode cX10_gain 39 = .ok (.ishl, 1) := by decide +kernel
theorem dX10_gain_40 : decode cX10_gain 40 = .ok (.iconst (-1), 1) := by decide +kernel
theorem dX10_gain_41 : decode cX10_gain 41 = .ok (.ixor, 1) := by decide +kernel
theorem dX10_gain_42 : decode cX10_gain 42 = .ok (.iand, 1) := by decide +kernel
theorem dX10_gain_43 : decode cX10_gain 43 = .ok (.aload_n 0, 1) := by decide +kernel
theorem dX10_gain_44 : decode cX10_gain 44 = .ok (.invokevirtual 132, 3) := by decide +kernel
theorem dX10_gain_47 : decode cX10_gain 47 = .ok (.invokevirtual 255, 3) := by decide +kernel
theorem dX10_gain_50 : decode cX10_gain 50 = .ok (.iload_n 2, 1) := by decide +kernel
theorem dX10_gain_51 : decode cX10_gain 51 = .ok (.aload_n 0, 1) := by decide +kernel
theorem dX10_gain_52 : decode cX10_gain 52 = .ok (.getfield 57, 3) := by decide +kernel
theorem dX10_gain_55 : decode cX10_gain 55 = .ok (.getfield 259, 3) := by decide +kernel
theorem dX10_gain_58 : decode cX10_gain 58 = .ok (.isub, 1) := by decide +kernel
theorem dX10_gain_59 : decode cX10_gain 59 = .ok (.ireturn, 1) := by decide +kernel
theorem dX10_bring_0 : decode cX10_bring 0 = .ok (.aload_n 0, 1) := by decide +kernel
theorem dX10_bring_1 : decode cX10_bring 1 = .ok (.getfield 19, 3) := by decide +kernel
theorem dX10_bring_4 : decode cX10_bring 4 = .ok (.iload_n 1, 1) := by decide +kernel
theorem dX10_bring_5 : decode cX10_bring 5 = .ok (.invokevirtual 164, 3) := by decide +kernel
theorem dX10_bring_8 : decode cX10_bring 8 = .ok (.ifCond .ne 6, 3) := by decide +kernel
theorem dX10_bring_11 : decode cX10_bring 11 = .ok (.bipush (-5), 2) := by decide +kernel
theorem dX10_bring_13 : decode cX10_bring 13 = .ok (.ireturn, 1) := by decide +kernel
theorem dX10_bring_14 : decode cX10_bring 14 = .ok (.iload_n 2, 1) := by decide +kernel
theorem dX10_bring_15 : decode cX10_bring 15 = .ok (.iconst 0, 1) := by decide +kernel
theorem dX10_bring_16 : decode cX10_bring 16 = .ok (.iconst 1, 1) := by decide +kernel
theorem dX10_bring_17 : decode cX10_bring 17 = .ok (.invokestatic 104, 3) := by decide +kernel
theorem dX10_bring_20 : decode cX10_bring 20 = .ok (.ifCond .ne 6, 3) := by decide +kernel
theorem dX10_bring_23 : decode cX10_bring 23 = .ok (.bipush (-7), 2) := by decide +kernel
theorem dX10_bring_25 : decode cX10_bring 25 = .ok (.ireturn, 1) := by decide +kernel
theorem dX10_bring_26 : decode cX10_bring 26 = .ok (.aload_n 0, 1) := by decide +kernel
theorem dX10_bring_27 : decode cX10_bring 27 = .ok (.getfield 57, 3) := by decide +kernel
theorem dX10_bring_30 : decode cX10_bring 30 = .ok (.invokevirtual 252, 3) := by decide +kernel
theorem dX10_bring_33 : decode cX10_bring 33 = .ok (.iconst 0, 1) := by decide +kernel
theorem dX10_bring_34 : decode cX10_bring 34 = .ok (.istore_n 3, 1) := by decide +kernel
theorem dX10_bring_35 : decode cX10_bring 35 = .ok (.iconst 0, 1) := by decide +kernel
theorem dX10_bring_36 : decode cX10_bring 36 = .ok (.istore 4, 2) := by decide +kernel
theorem dX10_bring_38 : decode cX10_bring 38 = .ok (.iconst 0, 1) := by decide +kernel
theorem dX10_bring_39 : decode cX10_bring 39 = .ok (.istore 5, 2) := by decide +kernel
theorem dX10_bring_41 : decode cX10_bring 41 = .ok (.iload 5, 2) := by decide +kernel
theorem dX10_bring_43 : decode cX10_bring 43 = .ok (.bipush 10, 2) := by decide +kernel
theorem dX10_bring_45 : decode cX10_bring 45 = .ok (.if_icmp .ge 61, 3) := by decide +kernel
theorem dX10_bring_48 : decode cX10_bring 48 = .ok (.aload_n 0, 1) := by decide +kernel
theorem dX10_bring_49 : decode cX10_bring 49 = .ok (.getfield 57, 3) := by decide +kernel
theorem dX10_bring_52 : decode cX10_bring 52 = .ok (.getfield 284, 3) := by decide +kernel
theorem dX10_bring_55 : decode cX10_bring 55 = .ok (.iload_n 1, 1) := by decide +kernel
theorem dX10_bring_56 : decode cX10_bring 56 = .ok (.iload 5, 2) := by decide +kernel
theorem dX10_bring_58 : decode cX10_bring 58 = .ok (.iastore, 1) := by decide +kernel
theorem dX10_bring_59 : decode cX10_bring 59 = .ok (.aload_n 0, 1) := by decide +kernel
theorem dX10_bring_60 : decode cX10_bring 60 = .ok (.getfield 57, 3) := by decide +kernel
theorem dX10_bring_63 : decode cX10_bring 63 = .ok (.bipush 10, 2) := by decide +kernel
theorem dX10_bring_65 : decode cX10_bring 65 = .ok (.iconst (-1), 1) := by decide +kernel
theorem dX10_bring_66 : decode cX10_bring 66 = .ok (.sipush 1023, 3) := by decide +kernel
theorem dX10_bring_69 : decode cX10_bring 69 = .ok (.aload_n 0, 1) := by decide +kernel
theorem dX10_bring_70 : decode cX10_bring 70 = .ok (.invokevirtual 132, 3) := by decide +kernel
theorem dX10_bring_73 : decode cX10_bring 73 = .ok (.invokevirtual 255, 3) := by decide +kernel
theorem dX10_bring_76 : decode cX10_bring 76 = .ok (.aload_n 0, 1) := by decide +kernel
theorem dX10_bring_77 : decode cX10_bring 77 = .ok (.getfield 57, 3) := by decide +kernel
theorem dX10_bring_80 : decode cX10_bring 80 = .ok (.getfield 259, 3) := by decide +kernel
theorem dX10_bring_83 : decode cX10_bring 83 = .ok (.iload 4, 2) := by decide +kernel
theorem dX10_bring_85 : decode cX10_bring 85 = .ok (.if_icmp .lt 15, 3) := by decide +kernel
theorem dX10_bring_88 : decode cX10_bring 88 = .ok (.aload_n 0, 1) := by decide +kernel
theorem dX10_bring_89 : decode cX10_bring 89 = .ok (.getfield 57, 3) := by decide +kernel
theorem dX10_bring_92 : decode cX10_bring 92 = .ok (.getfield 259, 3) := by decide +kernel
theorem dX10_bring_95 : decode cX10_bring 95 = .ok (.istore 4, 2) := by decide +kernel
theorem dX10_bring_97 : decode cX10_bring 97 = .ok (.iload 5, 2) := by decide +kernel
theorem dX10_bring_99 : decode cX10_bring 99 = .ok (.istore_n 3, 1) := by decide +kernel
theorem dX10_bring_100 : decode cX10_bring 100 = .ok (.iinc 5 1, 3) := by decide +kernel
theorem dX10_bring_103 : decode cX10_bring 103 = .ok (.goto (-62), 3) := by decide +kernel
theorem dX10_bring_106 : decode cX10_bring 106 = .ok (.iload_n 2, 1) := by decide +kernel
theorem dX10_bring_107 : decode cX10_bring 107 = .ok (.ifCond .ne 7, 3) := by decide +kernel
theorem dX10_bring_110 : decode cX10_bring 110 = .ok (.iload_n 3, 1) := by decide +kernel
theorem dX10_bring_111 : decode cX10_bring 111 = .ok (.goto 5, 3) := by decide +kernel
theorem dX10_bring_114 : decode cX10_bring 114 = .ok (.iload 4, 2) := by decide +kernel
theorem dX10_bring_116 : decode cX10_bring 116 = .ok (.ireturn, 1) := by decide +kernel
theorem dX10_judge_0 : decode cX10_judge 0 = .ok (.aload_n 0, 1) := by decide +kernel
theorem dX10_judge_1 : decode cX10_judge 1 = .ok (.iload_n 1, 1) := by decide +kernel
theorem dX10_judge_2 : decode cX10_judge 2 = .ok (.invokevirtual 285, 3) := by decide +kernel
theorem dX10_judge_5 : decode cX10_judge 5 = .ok (.istore_n 2, 1) := by decide +kernel
theorem dX10_judge_6 : decode cX10_judge 6 = .ok (.iload_n 2, 1) := by decide +kernel
theorem dX10_judge_7 : decode cX10_judge 7 = .ok (.ifCond .eq 5, 3) := by decide +kernel
theorem dX10_judge_10 : decode cX10_judge 10 = .ok (.iload_n 2, 1) := by decide +kernel
theorem dX10_judge_11 : decode cX10_judge 11 = .ok (.ireturn, 1) := by decide +kernel
theorem dX10_judge_12 : decode cX10_judge 12 = .ok (.aload_n 0, 1) := by decide +kernel
theorem dX10_judge_13 : decode cX10_judge 13 = .ok (.getfield 63, 3) := by decide +kernel
theorem dX10_judge_16 : decode cX10_judge 16 = .ok (.iload_n 1, 1) := by decide +kernel
theorem dX10_judge_17 : decode cX10_judge 17 = .ok (.aaload, 1) := by decide +kernel
theorem dX10_judge_18 : decode cX10_judge 18 = .ok (.astore_n 3, 1) := by decide +kernel
theorem dX10_judge_19 : decode cX10_judge 19 = .ok (.iconst (-1), 1) := by decide +kernel
theorem dX10_judge_20 : decode cX10_judge 20 = .ok (.istore 4, 2) := by decide +kernel
theorem dX10_judge_22 : decode cX10_judge 22 = .ok (.iconst 0, 1) := by decide +kernel
theorem dX10_judge_23 : decode cX10_judge 23 = .ok (.istore 5, 2) := by decide +kernel
theorem dX10_judge_25 : decode cX10_judge 25 = .ok (.iconst 0, 1) := by decide +kernel
theorem dX10_judge_26 : decode cX10_judge 26 = .ok (.istore 6, 2) := by decide +kernel
theorem dX10_judge_28 : decode cX10_judge 28 = .ok (.iload 6, 2) := by decide +kernel
theorem dX10_judge_30 : decode cX10_judge 30 = .ok (.aload_n 3, 1) := by decide +kernel
theorem dX10_judge_31 : decode cX10_judge 31 = .ok (.getfield 288, 3) := by decide +kernel
theorem dX10_judge_34 : decode cX10_judge 34 = .ok (.iconst 2, 1) := by decide +kernel
theorem dX10_judge_35 : decode cX10_judge 35 = .ok (.idiv, 1) := by decide +kernel
theorem dX10_judge_36 : decode cX10_judge 36 = .ok (.if_icmp .ge 73, 3) := by decide +kernel
theorem dX10_judge_39 : decode cX10_judge 39 = .ok (.aload_n 3, 1) := by decide +kernel
theorem dX10_judge_40 : decode cX10_judge 40 = .ok (.getfield 289, 3) := by decide +kernel
theorem dX10_judge_43 : decode cX10_judge 43 = .ok (.iconst 2, 1) := by decide +kernel
theorem dX10_judge_44 : decode cX10_judge 44 = .ok (.iload 6, 2) := by decide +kernel
theorem dX10_judge_46 : decode cX10_judge 46 = .ok (.imul, 1) := by decide +kernel
theorem dX10_judge_47 : decode cX10_judge 47 = .ok (.iaload, 1) := by decide +kernel
theorem dX10_judge_48 : decode cX10_judge 48 = .ok (.istore 7, 2) := by decide +kernel
theorem dX10_judge_50 : decode cX10_judge 50 = .ok (.aload_n 3, 1) := by decide +kernel
theorem dX10_judge_51 : decode cX10_judge 51 = .ok (.getfield 289, 3) := by decide +kernel
theorem dX10_judge_54 : decode cX10_judge 54 = .ok (.iconst 2, 1) := by decide +kernel
theorem dX10_judge_55 : decode cX10_judge 55 = .ok (.iload 6, 2) := by decide +kernel
theorem dX10_judge_57 : decode cX10_judge 57 = .ok (.imul, 1) := by decide +kernel
theorem dX10_judge_58 : decode cX10_judge 58 = .ok (.iconst 1, 1) := by decide +kernel
theorem dX10_judge_59 : decode cX10_judge 59 = .ok (.iadd, 1) := by decide +kernel
theorem dX10_judge_60 : decode cX10_judge 60 = .ok (.iaload, 1) := by decide +kernel
theorem dX10_judge_61 : decode cX10_judge 61 = .ok (.istore 8, 2) := by decide +kernel
theorem dX10_judge_63 : decode cX10_judge 63 = .ok (.iload 7, 2) := by decide +kernel
theorem dX10_judge_65 : decode cX10_judge 65 = .ok (.iload 4, 2) := by decide +kernel
theorem dX10_judge_67 : decode cX10_judge 67 = .ok (.if_icmp .le 22, 3) := by decide +kernel
theorem dX10_judge_70 : decode cX10_judge 70 = .ok (.iload 8, 2) := by decide +kernel
theorem dX10_judge_72 : decode cX10_judge 72 = .ok (.iload 5, 2) := by decide +kernel
theorem dX10_judge_74 : decode cX10_judge 74 = .ok (.iand, 1) := by decide +kernel
theorem dX10_judge_75 : decode cX10_judge 75 = .ok (.ifCond .ne 14, 3) := by decide +kernel
theorem dX10_judge_78 : decode cX10_judge 78 = .ok (.aload_n 0, 1) := by decide +kernel
theorem dX10_judge_79 : decode cX10_judge 79 = .ok (.iload 7, 2) := by decide +kernel
theorem dX10_judge_81 : decode cX10_judge 81 = .ok (.iload 8, 2) := by decide +kernel
theorem dX10_judge_83 : decode cX10_judge 83 = .ok (.invokevirtual 292, 3) := by decide +kernel
theorem dX10_judge_86 : decode cX10_judge 86 = .ok (.ifCond .ne 6, 3) := by decide +kernel
theorem dX10_judge_89 : decode cX10_judge 89 = .ok (.iload 6, 2) := by decide +kernel
theorem dX10_judge_91 : decode cX10_judge 91 = .ok (.ireturn, 1) := by decide +kernel
theorem dX10_judge_92 : decode cX10_judge 92 = .ok (.iload 7, 2) := by decide +kernel
theorem dX10_judge_94 : decode cX10_judge 94 = .ok (.istore 4, 2) := by decide +kernel
theorem dX10_judge_96 : decode cX10_judge 96 = .ok (.iload 5, 2) := by decide +kernel
theorem dX10_judge_98 : decode cX10_judge 98 = .ok (.iload 8, 2) := by decide +kernel
theorem dX10_judge_100 : decode cX10_judge 100 = .ok (.ior, 1) := by decide +kernel
theorem dX10_judge_101 : decode cX10_judge 101 = .ok (.istore 5, 2) := by decide +kernel
theorem dX10_judge_103 : decode cX10_judge 103 = .ok (.iinc 6 1, 3) := by decide +kernel
theorem dX10_judge_106 : decode cX10_judge 106 = .ok (.goto (-78), 3) := by decide +kernel
theorem dX10_judge_109 : decode cX10_judge 109 = .ok (.iconst (-1), 1) := by decide +kernel
theorem dX10_judge_110 : decode cX10_judge 110 = .ok (.ireturn, 1) := by decide +kernel
theorem dX10_laws_0 : decode cX10_laws 0 = .ok (.aload_n 0, 1) := by decide +kernel
theorem dX10_laws_1 : decode cX10_laws 1 = .ok (.iload_n 1, 1) := by decide +kernel
theorem dX10_laws_2 : decode cX10_laws 2 = .ok (.invokevirtual 285, 3) := by decide +kernel
theorem dX10_laws_5 : decode cX10_laws 5 = .ok (.istore_n 2, 1) := by decide +kernel
theorem dX10_laws_6 : decode cX10_laws 6 = .ok (.iload_n 2, 1) := by decide +kernel
theorem dX10_laws_7 : decode cX10_laws 7 = .ok (.ifCond .eq 5, 3) := by decide +kernel
theorem dX10_laws_10 : decode cX10_laws 10 = .ok (.iload_n 2, 1) := by decide +kernel
theorem dX10_laws_11 : decode cX10_laws 11 = .ok (.ireturn, 1) := by decide +kernel
theorem dX10_laws_12 : decode cX10_laws 12 = .ok (.aload_n 0, 1) := by decide +kernel
theorem dX10_laws_13 : decode cX10_laws 13 = .ok (.getfield 57, 3) := by decide +kernel
theorem dX10_laws_16 : decode cX10_laws 16 = .ok (.invokevirtual 252, 3) := by decide +kernel
theorem dX10_laws_19 : decode cX10_laws 19 = .ok (.iconst 0, 1) := by decide +kernel
theorem dX10_laws_20 : decode cX10_laws 20 = .ok (.istore_n 3, 1) := by decide +kernel
theorem dX10_laws_21 : decode cX10_laws 21 = .ok (.iconst 0, 1) := by decide +kernel
theorem dX10_laws_22 : decode cX10_laws 22 = .ok (.istore 4, 2) := by decide +kernel
theorem dX10_laws_24 : decode cX10_laws 24 = .ok (.iload 4, 2) := by decide +kernel
theorem dX10_laws_26 : decode cX10_laws 26 = .ok (.aload_n 0, 1) := by decide +kernel
theorem dX10_laws_27 : decode cX10_laws 27 = .ok (.getfield 100, 3) := by decide +kernel
theorem dX10_laws_30 : decode cX10_laws 30 = .ok (.if_icmp .ge 52, 3) := by decide +kernel
theorem dX10_laws_33 : decode cX10_laws 33 = .ok (.aload_n 0, 1) := by decide +kernel
theorem dX10_laws_34 : decode cX10_laws 34 = .ok (.getfield 57, 3) := by decide +kernel
theorem dX10_laws_37 : decode cX10_laws 37 = .ok (.bipush 10, 2) := by decide +kernel
theorem dX10_laws_39 : decode cX10_laws 39 = .ok (.iconst (-1), 1) := by decide +kernel
theorem dX10_laws_40 : decode cX10_laws 40 = .ok (.sipush 1023, 3) := by decide +kernel
theorem dX10_laws_43 : decode cX10_laws 43 = .ok (.aload_n 0, 1) := by decide +kernel
theorem dX10_laws_44 : decode cX10_laws 44 = .ok (.getfield 25, 3) := by decide +kernel
theorem dX10_laws_47 : decode cX10_laws 47 = .ok (.iload 4, 2) := by decide +kernel
theorem dX10_laws_49 : decode cX10_laws 49 = .ok (.aaload, 1) := by decide +kernel
theorem dX10_laws_50 : decode cX10_laws 50 = .ok (.invokevirtual 255, 3) := by decide +kernel
theorem dX10_laws_53 : decode cX10_laws 53 = .ok (.aload_n 0, 1) := by decide +kernel
theorem dX10_laws_54 : decode cX10_laws 54 = .ok (.getfield 57, 3) := by decide +kernel
theorem dX10_laws_57 : decode cX10_laws 57 = .ok (.aload_n 0, 1) := by decide +kernel
theorem dX10_laws_58 : decode cX10_laws 58 = .ok (.getfield 63, 3) := by decide +kernel
theorem dX10_laws_61 : decode cX10_laws 61 = .ok (.iload_n 1, 1) := by decide +kernel
theorem dX10_laws_62 : decode cX10_laws 62 = .ok (.aaload, 1) := by decide +kernel
theorem dX10_laws_63 : decode cX10_laws 63 = .ok (.invokevirtual 296, 3) := by decide +kernel
theorem dX10_laws_66 : decode cX10_laws 66 = .ok (.ifCond .eq 10, 3) := by decide +kernel
theorem dX10_laws_69 : decode cX10_laws 69 = .ok (.iload_n 3, 1) := by decide +kernel
theorem dX10_laws_70 : decode cX10_laws 70 = .ok (.iconst 1, 1) := by decide +kernel
theorem dX10_laws_71 : decode cX10_laws 71 = .ok (.iload 4, 2) := by decide +kernel
theorem dX10_laws_73 : decode cX10_laws 73 = .ok (.ishl, 1) := by decide +kernel
theorem dX10_laws_74 : decode cX10_laws 74 = .ok (.ior, 1) := by decide +kernel
theorem dX10_laws_75 : decode cX10_laws 75 = .ok (.istore_n 3, 1) := by decide +kernel
theorem dX10_laws_76 : decode cX10_laws 76 = .ok (.iinc 4 1, 3) := by decide +kernel
theorem dX10_laws_79 : decode cX10_laws 79 = .ok (.goto (-55), 3) := by decide +kernel
theorem dX10_laws_82 : decode cX10_laws 82 = .ok (.iload_n 3, 1) := by decide +kernel
theorem dX10_laws_83 : decode cX10_laws 83 = .ok (.ireturn, 1) := by decide +kernel
theorem dX10_film_0 : decode cX10_film 0 = .ok (.iload_n 1, 1) := by decide +kernel
theorem dX10_film_1 : decode cX10_film 1 = .ok (.invokestatic 300, 3) := by decide +kernel
theorem dX10_film_4 : decode cX10_film 4 = .ok (.ifCond .ne 6, 3) := by decide +kernel
theorem dX10_film_7 : decode cX10_film 7 = .ok (.bipush (-2), 2) := by decide +kernel
theorem dX10_film_9 : decode cX10_film 9 = .ok (.ireturn, 1) := by decide +kernel
theorem dX10_film_10 : decode cX10_film 10 = .ok (.aload_n 0, 1) := by decide +kernel
theorem dX10_film_11 : decode cX10_film 11 = .ok (.invokevirtual 274, 3) := by decide +kernel
theorem dX10_film_14 : decode cX10_film 14 = .ok (.aload_n 0, 1) := by decide +kernel
theorem dX10_film_15 : decode cX10_film 15 = .ok (.getfield 63, 3) := by decide +kernel
theorem dX10_film_18 : decode cX10_film 18 = .ok (.iload_n 1, 1) := by decide +kernel
theorem dX10_film_19 : decode cX10_film 19 = .ok (.aaload, 1) := by decide +kernel
theorem dX10_film_20 : decode cX10_film 20 = .ok (.astore_n 2, 1) := by decide +kernel
theorem dX10_film_21 : decode cX10_film 21 = .ok (.aload_n 2, 1) := by decide +kernel
theorem dX10_film_22 : decode cX10_film 22 = .ok (.iconst 2, 1) := by decide +kernel
theorem dX10_film_23 : decode cX10_film 23 = .ok (.iconst 2, 1) := by decide +kernel
theorem dX10_film_24 : decode cX10_film 24 = .ok (.aload_n 0, 1) := by decide +kernel
theorem dX10_film_25 : decode cX10_film 25 = .ok (.getfield 57, 3) := by decide +kernel
theorem dX10_film_28 : decode cX10_film 28 = .ok (.getfield 303, 3) := by decide +kernel
theorem dX10_film_31 : decode cX10_film 31 = .ok (.imul, 1) := by decide +kernel
theorem dX10_film_32 : decode cX10_film 32 = .ok (.invokevirtual 306, 3) := by decide +kernel
theorem dX10_film_35 : decode cX10_film 35 = .ok (.iconst 0, 1) := by decide +kernel
theorem dX10_film_36 : decode cX10_film 36 = .ok (.istore_n 3, 1) := by decide +kernel
theorem dX10_film_37 : decode cX10_film 37 = .ok (.iload_n 3, 1) := by decide +kernel
theorem dX10_film_38 : decode cX10_film 38 = .ok (.aload_n 0, 1) := by decide +kernel
theorem dX10_film_39 : decode cX10_film 39 = .ok (.getfield 57, 3) := by decide +kernel
theorem dX10_film_42 : decode cX10_film 42 = .ok (.getfield 303, 3) := by decide +kernel
theorem dX10_film_45 : decode cX10_film 45 = .ok (.if_icmp .ge 43, 3) := by decide +kernel
theorem dX10_film_48 : decode cX10_film 48 = .ok (.aload_n 2, 1) := by decide +kernel
theorem dX10_film_49 : decode cX10_film 49 = .ok (.iconst 2, 1) := by decide +kernel
theorem dX10_film_50 : decode cX10_film 50 = .ok (.iload_n 3, 1) := by decide +kernel
theorem dX10_film_51 : decode cX10_film 51 = .ok (.imul, 1) := by decide +kernel
theorem dX10_film_52 : decode cX10_film 52 = .ok (.aload_n 0, 1) := by decide +kernel
theorem dX10_film_53 : decode cX10_film 53 = .ok (.getfield 57, 3) := by decide +kernel
theorem dX10_film_56 : decode cX10_film 56 = .ok (.getfield 310, 3) := by decide +kernel
theorem dX10_film_59 : decode cX10_film 59 = .ok (.iload_n 3, 1) := by decide +kernel
theorem dX10_film_60 : decode cX10_film 60 = .ok (.iaload, 1) := by decide +kernel
theorem dX10_film_61 : decode cX10_film 61 = .ok (.invokevirtual 313, 3) := by decide +kernel
theorem dX10_film_64 : decode cX10_film 64 = .ok (.aload_n 2, 1) := by decide +kernel
theorem dX10_film_65 : decode cX10_film 65 = .ok (.iconst 2, 1) := by decide +kernel
theorem dX10_film_66 : decode cX10_film 66 = .ok (.iload_n 3, 1) := by decide +kernel
theorem dX10_film_67 : decode cX10_film 67 = .ok (.imul, 1) := by decide +kernel
theorem dX10_film_68 : decode cX10_film 68 = .ok (.iconst 1, 1) := by decide +kernel
theorem dX10_film_69 : decode cX10_film 69 = .ok (.iadd, 1) := by decide +kernel
theorem dX10_film_70 : decode cX10_film 70 = .ok (.aload_n 0, 1) := by decide +kernel
theorem dX10_film_71 : decode cX10_film 71 = .ok (.getfield 57, 3) := by decide +kernel
theorem dX10_film_74 : decode cX10_film 74 = .ok (.getfield 315, 3) := by decide +kernel
theorem dX10_film_77 : decode cX10_film 77 = .ok (.iload_n 3, 1) := by decide +kernel
theorem dX10_film_78 : decode cX10_film 78 = .ok (.iaload, 1) := by decide +kernel
theorem dX10_film_79 : decode cX10_film 79 = .ok (.invokevirtual 313, 3) := by decide +kernel
theorem dX10_film_82 : decode cX10_film 82 = .ok (.iinc 3 1, 3) := by decide +kernel
theorem dX10_film_85 : decode cX10_film 85 = .ok (.goto (-48), 3) := by decide +kernel
theorem dX10_film_88 : decode cX10_film 88 = .ok (.aload_n 0, 1) := by decide +kernel
theorem dX10_film_89 : decode cX10_film 89 = .ok (.getfield 57, 3) := by decide +kernel
theorem dX10_film_92 : decode cX10_film 92 = .ok (.getfield 303, 3) := by decide +kernel
theorem dX10_film_95 : decode cX10_film 95 = .ok (.ireturn, 1) := by decide +kernel
theorem dX10_lost_0 : decode cX10_lost 0 = .ok (.iload_n 1, 1) := by decide +kernel
theorem dX10_lost_1 : decode cX10_lost 1 = .ok (.invokestatic 167, 3) := by decide +kernel
theorem dX10_lost_4 : decode cX10_lost 4 = .ok (.ifCond .ne 6, 3) := by decide +kernel
theorem dX10_lost_7 : decode cX10_lost 7 = .ok (.bipush (-5), 2) := by decide +kernel
theorem dX10_lost_9 : decode cX10_lost 9 = .ok (.ireturn, 1) := by decide +kernel
theorem dX10_lost_10 : decode cX10_lost 10 = .ok (.iload_n 2, 1) := by decide +kernel
theorem dX10_lost_11 : decode cX10_lost 11 = .ok (.iconst 0, 1) := by decide +kernel
theorem dX10_lost_12 : decode cX10_lost 12 = .ok (.bipush 10, 2) := by decide +kernel
theorem dX10_lost_14 : decode cX10_lost 14 = .ok (.invokestatic 104, 3) := by decide +kernel
theorem dX10_lost_17 : decode cX10_lost 17 = .ok (.ifCond .eq 24, 3) := by decide +kernel
theorem dX10_lost_20 : decode cX10_lost 20 = .ok (.iload_n 3, 1) := by decide +kernel
theorem dX10_lost_21 : decode cX10_lost 21 = .ok (.iconst 0, 1) := by decide +kernel
theorem dX10_lost_22 : decode cX10_lost 22 = .ok (.sipush 9999, 3) := by decide +kernel
theorem dX10_lost_25 : decode cX10_lost 25 = .ok (.invokestatic 104, 3) := by decide +kernel
theorem dX10_lost_28 : decode cX10_lost 28 = .ok (.ifCond .eq 13, 3) := by decide +kernel
theorem dX10_lost_31 : decode cX10_lost 31 = .ok (.iload 4, 2) := by decide +kernel
theorem dX10_lost_33 : decode cX10_lost 33 = .ok (.iconst 0, 1) := by decide +kernel
theorem dX10_lost_34 : decode cX10_lost 34 = .ok (.iconst 2, 1) := by decide +kernel
theorem dX10_lost_35 : decode cX10_lost 35 = .ok (.invokestatic 104, 3) := by decide +kernel
theorem dX10_lost_38 : decode cX10_lost 38 = .ok (.ifCond .ne 6, 3) := by decide +kernel
theorem dX10_lost_41 : decode cX10_lost 41 = .ok (.bipush (-7), 2) := by decide +kernel
theorem dX10_lost_43 : decode cX10_lost 43 = .ok (.ireturn, 1) := by decide +kernel
theorem dX10_lost_44 : decode cX10_lost 44 = .ok (.aload_n 0, 1) := by decide +kernel
theorem dX10_lost_45 : decode cX10_lost 45 = .ok (.getfield 41, 3) := by decide +kernel
theorem dX10_lost_48 : decode cX10_lost 48 = .ok (.iload_n 1, 1) := by decide +kernel
theorem dX10_lost_49 : decode cX10_lost 49 = .ok (.aload_n 0, 1) := by decide +kernel
theorem dX10_lost_50 : decode cX10_lost 50 = .ok (.getfield 19, 3) := by decide +kernel
theorem dX10_lost_53 : decode cX10_lost 53 = .ok (.getfield 161, 3) := by decide +kernel
theorem dX10_lost_56 : decode cX10_lost 56 = .ok (.invokevirtual 203, 3) := by decide +kernel
theorem dX10_lost_59 : decode cX10_lost 59 = .ok (.iconst 0, 1) := by decide +kernel
theorem dX10_lost_60 : decode cX10_lost 60 = .ok (.istore 5, 2) := by decide +kernel
theorem dX10_lost_62 : decode cX10_lost 62 = .ok (.aload_n 0, 1) := by decide +kernel
theorem dX10_lost_63 : decode cX10_lost 63 = .ok (.getfield 19, 3) := by decide +kernel
theorem dX10_lost_66 : decode cX10_lost 66 = .ok (.invokevirtual 318, 3) := by decide +kernel
theorem dX10_lost_69 : decode cX10_lost 69 = .ok (.istore 6, 2) := by decide +kernel
theorem dX10_lost_71 : decode cX10_lost 71 = .ok (.iconst 0, 1) := by decide +kernel
theorem dX10_lost_72 : decode cX10_lost 72 = .ok (.istore 7, 2) := by decide +kernel
theorem dX10_lost_74 : decode cX10_lost 74 = .ok (.iconst 0, 1) := by decide +kernel
theorem dX10_lost_75 : decode cX10_lost 75 = .ok (.istore 8, 2) := by decide +kernel
theorem dX10_lost_77 : decode cX10_lost 77 = .ok (.iload 8, 2) := by decide +kernel
theorem dX10_lost_79 : decode cX10_lost 79 = .ok (.aload_n 0, 1) := by decide +kernel
theorem dX10_lost_80 : decode cX10_lost 80 = .ok (.getfield 19, 3) := by decide +kernel
theorem dX10_lost_83 : decode cX10_lost 83 = .ok (.invokevirtual 318, 3) := by decide +kernel
theorem dX10_lost_86 : decode cX10_lost 86 = .ok (.if_icmp .gt 48, 3) := by decide +kernel
theorem dX10_lost_89 : decode cX10_lost 89 = .ok (.iload 8, 2) := by decide +kernel
theorem dX10_lost_91 : decode cX10_lost 91 = .ok (.invokestatic 321, 3) := by decide +kernel
theorem dX10_lost_94 : decode cX10_lost 94 = .ok (.iload_n 2, 1) := by decide +kernel
theorem dX10_lost_95 : decode cX10_lost 95 = .ok (.if_icmp .ne 33, 3) := by decide +kernel
theorem dX10_lost_98 : decode cX10_lost 98 = .ok (.aload_n 0, 1) := by decide +kernel
theorem dX10_lost_99 : decode cX10_lost 99 = .ok (.getfield 41, 3) := by decide +kernel
theorem dX10_lost_102 : decode cX10_lost 102 = .ok (.iload 8, 2) := by decide +kernel
theorem dX10_lost_104 : decode cX10_lost 104 = .ok (.invokevirtual 326, 3) := by decide +kernel
theorem dX10_lost_107 : decode cX10_lost 107 = .ok (.iload_n 3, 1) := by decide +kernel
theorem dX10_lost_108 : decode cX10_lost 108 = .ok (.if_icmp .ne 20, 3) := by decide +kernel
theorem dX10_lost_111 : decode cX10_lost 111 = .ok (.iinc 5 1, 3) := by decide +kernel
theorem dX10_lost_114 : decode cX10_lost 114 = .ok (.iload 6, 2) := by decide +kernel
theorem dX10_lost_116 : decode cX10_lost 116 = .ok (.iload 8, 2) := by decide +kernel
theorem dX10_lost_118 : decode cX10_lost 118 = .ok (.iand, 1) := by decide +kernel
theorem dX10_lost_119 : decode cX10_lost 119 = .ok (.istore 6, 2) := by decide +kernel
theorem dX10_lost_121 : decode cX10_lost 121 = .ok (.iload 7, 2) := by decide +kernel
theorem dX10_lost_123 : decode cX10_lost 123 = .ok (.iload 8, 2) := by decide +kernel
theorem dX10_lost_125 : decode cX10_lost 125 = .ok (.ior, 1) := by decide +kernel
theorem dX10_lost_126 : decode cX10_lost 126 = .ok (.istore 7, 2) := by decide +kernel
theorem dX10_lost_128 : decode cX10_lost 128 = .ok (.iinc 8 1, 3) := by decide +kernel
theorem dX10_lost_131 : decode cX10_lost 131 = .ok (.goto (-54), 3) := by decide +kernel
theorem dX10_lost_134 : decode cX10_lost 134 = .ok (.iload 4, 2) := by decide +kernel
theorem dX10_lost_136 : decode cX10_lost 136 = .ok (.ifCond .ne 6, 3) := by decide +kernel
theorem dX10_lost_139 : decode cX10_lost 139 = .ok (.iload 5, 2) := by decide +kernel
theorem dX10_lost_141 : decode cX10_lost 141 = .ok (.ireturn, 1) := by decide +kernel
theorem dX10_lost_142 : decode cX10_lost 142 = .ok (.iload 4, 2) := by decide +kernel
theorem dX10_lost_144 : decode cX10_lost 144 = .ok (.iconst 1, 1) := by decide +kernel
theorem dX10_lost_145 : decode cX10_lost 145 = .ok (.if_icmp .ne 13, 3) := by decide +kernel
theorem dX10_lost_148 : decode cX10_lost 148 = .ok (.iload 5, 2) := by decide +kernel
theorem dX10_lost_150 : decode cX10_lost 150 = .ok (.ifCond .le 8, 3) := by decide +kernel
theorem dX10_lost_153 : decode cX10_lost 153 = .ok (.iload 6, 2) := by decide +kernel
theorem dX10_lost_155 : decode cX10_lost 155 = .ok (.goto 5, 3) := by decide +kernel
theorem dX10_lost_158 : decode cX10_lost 158 = .ok (.iload 7, 2) := by decide +kernel
theorem dX10_lost_160 : decode cX10_lost 160 = .ok (.ireturn, 1) := by decide +kernel
theorem dX10_drawn_0 : decode cX10_drawn 0 = .ok (.iload_n 1, 1) := by decide +kernel
theorem dX10_drawn_1 : decode cX10_drawn 1 = .ok (.invokestatic 329, 3) := by decide +kernel
theorem dX10_drawn_4 : decode cX10_drawn 4 = .ok (.ifCond .eq 12, 3) := by decide +kernel
theorem dX10_drawn_7 : decode cX10_drawn 7 = .ok (.iload_n 2, 1) := by decide +kernel
theorem dX10_drawn_8 : decode cX10_drawn 8 = .ok (.iconst 0, 1) := by decide +kernel
theorem dX10_drawn_9 : decode cX10_drawn 9 = .ok (.iconst 1, 1) := by decide +kernel
theorem dX10_drawn_10 : decode cX10_drawn 10 = .ok (.invokestatic 104, 3) := by decide +kernel
theorem dX10_drawn_13 : decode cX10_drawn 13 = .ok (.ifCond .ne 6, 3) := by decide +kernel
theorem dX10_drawn_16 : decode cX10_drawn 16 = .ok (.bipush (-2), 2) := by decide +kernel
theorem dX10_drawn_18 : decode cX10_drawn 18 = .ok (.ireturn, 1) := by decide +kernel
theorem dX10_drawn_19 : decode cX10_drawn 19 = .ok (.aload_n 0, 1) := by decide +kernel
theorem dX10_drawn_20 : decode cX10_drawn 20 = .ok (.iload_n 1, 1) := by decide +kernel
theorem dX10_drawn_21 : decode cX10_drawn 21 = .ok (.invokevirtual 332, 3) := by decide +kernel
theorem dX10_drawn_24 : decode cX10_drawn 24 = .ok (.iload_n 2, 1) := by decide +kernel
theorem dX10_drawn_25 : decode cX10_drawn 25 = .ok (.ifCond .ne 13, 3) := by decide +kernel
theorem dX10_drawn_28 : decode cX10_drawn 28 = .ok (.aload_n 0, 1) := by decide +kernel
theorem dX10_drawn_29 : decode cX10_drawn 29 = .ok (.getfield 57, 3) := by decide +kernel
theorem dX10_drawn_32 : decode cX10_drawn 32 = .ok (.getfield 259, 3) := by decide +kernel
theorem dX10_drawn_35 : decode cX10_drawn 35 = .ok (.goto 10, 3) := by decide +kernel
theorem dX10_drawn_38 : decode cX10_drawn 38 = .ok (.aload_n 0, 1) := by decide +kernel
theorem dX10_drawn_39 : decode cX10_drawn 39 = .ok (.getfield 57, 3) := by decide +kernel
theorem dX10_drawn_42 : decode cX10_drawn 42 = .ok (.getfield 262, 3) := by decide +kernel
theorem dX10_drawn_45 : decode cX10_drawn 45 = .ok (.ireturn, 1) := by decide +kernel
theorem dX10_odds_0 : decode cX10_odds 0 = .ok (.aload_n 0, 1) := by decide +kernel
theorem dX10_odds_1 : decode cX10_odds 1 = .ok (.getfield 19, 3) := by decide +kernel
theorem dX10_odds_4 : decode cX10_odds 4 = .ok (.iload_n 1, 1) := by decide +kernel
theorem dX10_odds_5 : decode cX10_odds 5 = .ok (.invokevirtual 164, 3) := by decide +kernel
theorem dX10_odds_8 : decode cX10_odds 8 = .ok (.ifCond .eq 30, 3) := by decide +kernel
theorem dX10_odds_11 : decode cX10_odds 11 = .ok (.iload_n 2, 1) := by decide +kernel
theorem dX10_odds_12 : decode cX10_odds 12 = .ok (.invokestatic 329, 3) := by decide +kernel
theorem dX10_odds_15 : decode cX10_odds 15 = .ok (.ifCond .eq 23, 3) := by decide +kernel
theorem dX10_odds_18 : decode cX10_odds 18 = .ok (.iload_n 3, 1) := by decide +kernel
theorem dX10_odds_19 : decode cX10_odds 19 = .ok (.iconst 1, 1) := by decide +kernel
theorem dX10_odds_20 : decode cX10_odds 20 = .ok (.bipush 10, 2) := by decide +kernel
theorem dX10_odds_22 : decode cX10_odds 22 = .ok (.invokestatic 104, 3) := by decide +kernel
theorem dX10_odds_25 : decode cX10_odds 25 = .ok (.ifCond .eq 13, 3) := by decide +kernel
theorem dX10_odds_28 : decode cX10_odds 28 = .ok (.iload 4, 2) := by decide +kernel
theorem dX10_odds_30 : decode cX10_odds 30 = .ok (.iconst 0, 1) := by decide +kernel
theorem dX10_odds_31 : decode cX10_odds 31 = .ok (.iconst 1, 1) := by decide +kernel
theorem dX10_odds_32 : decode cX10_odds 32 = .ok (.invokestatic 104, 3) := by decide +kernel
theorem dX10_odds_35 : decode cX10_odds 35 = .ok (.ifCond .ne 7, 3) := by decide +kernel
theorem dX10_odds_38 : decode cX10_odds 38 = .ok (.ldc2_w 335, 3) := by decide +kernel
theorem dX10_odds_41 : decode cX10_odds 41 = .ok (.lreturn, 1) := by decide +kernel
theorem dX10_odds_42 : decode cX10_odds 42 = .ok (.iconst 0, 1) := by decide +kernel
theorem dX10_odds_43 : decode cX10_odds 43 = .ok (.istore 5, 2) := by decide +kernel
theorem dX10_odds_45 : decode cX10_odds 45 = .ok (.iconst 0, 1) := by decide +kernel
theorem dX10_odds_46 : decode cX10_odds 46 = .ok (.istore 6, 2) := by decide +kernel
theorem dX10_odds_48 : decode cX10_odds 48 = .ok (.iload 6, 2) := by decide +kernel
theorem dX10_odds_50 : decode cX10_odds 50 = .ok (.iload_n 3, 1) := by decide +kernel
theorem dX10_odds_51 : decode cX10_odds 51 = .ok (.if_icmp .ge 33, 3) := by decide +kernel
theorem dX10_odds_54 : decode cX10_odds 54 = .ok (.aload_n 0, 1) := by decide +kernel
theorem dX10_odds_55 : decode cX10_odds 55 = .ok (.iload_n 2, 1) := by decide +kernel
theorem dX10_odds_56 : decode cX10_odds 56 = .ok (.iload 6, 2) := by decide +kernel
theorem dX10_odds_58 : decode cX10_odds 58 = .ok (.iadd, 1) := by decide +kernel
theorem dX10_odds_59 : decode cX10_odds 59 = .ok (.invokevirtual 332, 3) := by decide +kernel
theorem dX10_odds_62 : decode cX10_odds 62 = .ok (.iload 5, 2) := by decide +kernel
theorem dX10_odds_64 : decode cX10_odds 64 = .ok (.aload_n 0, 1) := by decide +kernel
theorem dX10_odds_65 : decode cX10_odds 65 = .ok (.getfield 57, 3) := by decide +kernel
theorem dX10_odds_68 : decode cX10_odds 68 = .ok (.getfield 262, 3) := by decide +kernel
theorem dX10_odds_71 : decode cX10_odds 71 = .ok (.iload_n 1, 1) := by decide +kernel
theorem dX10_odds_72 : decode cX10_odds 72 = .ok (.ishr, 1) := by decide +kernel
theorem dX10_odds_73 : decode cX10_odds 73 = .ok (.iconst 1, 1) := by decide +kernel
theorem dX10_odds_74 : decode cX10_odds 74 = .ok (.iand, 1) := by decide +kernel
theorem dX10_odds_75 : decode cX10_odds 75 = .ok (.iadd, 1) := by decide +kernel
theorem dX10_odds_76 : decode cX10_odds 76 = .ok (.istore 5, 2) := by decide +kernel
theorem dX10_odds_78 : decode cX10_odds 78 = .ok (.iinc 6 1, 3) := by decide +kernel
theorem dX10_odds_81 : decode cX10_odds 81 = .ok (.goto (-33), 3) := by decide +kernel
theorem dX10_odds_84 : decode cX10_odds 84 = .ok (.iload 5, 2) := by decide +kernel
theorem dX10_odds_86 : decode cX10_odds 86 = .ok (.iload_n 3, 1) := by decide +kernel
theorem dX10_odds_87 : decode cX10_odds 87 = .ok (.invokestatic 337, 3) := by decide +kernel
theorem dX10_odds_90 : decode cX10_odds 90 = .ok (.istore 6, 2) := by decide +kernel
theorem dX10_odds_92 : decode cX10_odds 92 = .ok (.iload 4, 2) := by decide +kernel
theorem dX10_odds_94 : decode cX10_odds 94 = .ok (.ifCond .ne 12, 3) := by decide +kernel
theorem dX10_odds_97 : decode cX10_odds 97 = .ok (.iload 5, 2) := by decide +kernel
theorem dX10_odds_99 : decode cX10_odds 99 = .ok (.iload 6, 2) := by decide +kernel
theorem dX10_odds_101 : decode cX10_odds 101 = .ok (.idiv, 1) := by decide +kernel
theorem dX10_odds_102 : decode cX10_odds 102 = .ok (.i2l, 1) := by decide +kernel
theorem dX10_odds_103 : decode cX10_odds 103 = .ok (.goto 8, 3) := by decide +kernel
theorem dX10_odds_106 : decode cX10_odds 106 = .ok (.iload_n 3, 1) := by decide +kernel
theorem dX10_odds_107 : decode cX10_odds 107 = .ok (.iload 6, 2) := by decide +kernel
theorem dX10_odds_109 : decode cX10_odds 109 = .ok (.idiv, 1) := by decide +kernel
theorem dX10_odds_110 : decode cX10_odds 110 = .ok (.i2l, 1) := by decide +kernel
theorem dX10_odds_111 : decode cX10_odds 111 = .ok (.lreturn, 1) := by decide +kernel
theorem dX10_image_0 : decode cX10_image 0 = .ok (.aload_n 0, 1) := by decide +kernel
theorem dX10_image_1 : decode cX10_image 1 = .ok (.getfield 70, 3) := by decide +kernel
theorem dX10_image_4 : decode cX10_image 4 = .ok (.aload_n 0, 1) := by decide +kernel
theorem dX10_image_5 : decode cX10_image 5 = .ok (.getfield 12, 3) := by decide +kernel
theorem dX10_image_8 : decode cX10_image 8 = .ok (.aload_n 0, 1) := by decide +kernel
theorem dX10_image_9 : decode cX10_image 9 = .ok (.getfield 19, 3) := by decide +kernel
theorem dX10_image_12 : decode cX10_image 12 = .ok (.aload_n 0, 1) := by decide +kernel
theorem dX10_image_13 : decode cX10_image 13 = .ok (.getfield 123, 3) := by decide +kernel
theorem dX10_image_16 : decode cX10_image 16 = .ok (.invokevirtual 340, 3) := by decide +kernel
theorem dX10_image_19 : decode cX10_image 19 = .ok (.aload_n 0, 1) := by decide +kernel
theorem dX10_image_20 : decode cX10_image 20 = .ok (.getfield 19, 3) := by decide +kernel
theorem dX10_image_23 : decode cX10_image 23 = .ok (.getfield 120, 3) := by decide +kernel
theorem dX10_image_26 : decode cX10_image 26 = .ok (.ireturn, 1) := by decide +kernel
theorem dX10_back_0 : decode cX10_back 0 = .ok (.aload_n 0, 1) := by decide +kernel
theorem dX10_back_1 : decode cX10_back 1 = .ok (.getfield 70, 3) := by decide +kernel
theorem dX10_back_4 : decode cX10_back 4 = .ok (.getfield 344, 3) := by decide +kernel
theorem dX10_back_7 : decode cX10_back 7 = .ok (.ifCond .ne 6, 3) := by decide +kernel
theorem dX10_back_10 : decode cX10_back 10 = .ok (.bipush (-3), 2) := by decide +kernel
theorem dX10_back_12 : decode cX10_back 12 = .ok (.ireturn, 1) := by decide +kernel
theorem dX10_back_13 : decode cX10_back 13 = .ok (.aload_n 0, 1) := by decide +kernel
theorem dX10_back_14 : decode cX10_back 14 = .ok (.getfield 70, 3) := by decide +kernel
theorem dX10_back_17 : decode cX10_back 17 = .ok (.aload_n 0, 1) := by decide +kernel
theorem dX10_back_18 : decode cX10_back 18 = .ok (.getfield 12, 3) := by decide +kernel
theorem dX10_back_21 : decode cX10_back 21 = .ok (.aload_n 0, 1) := by decide +kernel
theorem dX10_back_22 : decode cX10_back 22 = .ok (.getfield 19, 3) := by decide +kernel
theorem dX10_back_25 : decode cX10_back 25 = .ok (.invokevirtual 348, 3) := by decide +kernel
theorem dX10_back_28 : decode cX10_back 28 = .ok (.aload_n 0, 1) := by decide +kernel
theorem dX10_back_29 : decode cX10_back 29 = .ok (.aload_n 0, 1) := by decide +kernel
theorem dX10_back_30 : decode cX10_back 30 = .ok (.getfield 70, 3) := by decide +kernel
theorem dX10_back_33 : decode cX10_back 33 = .ok (.getfield 351, 3) := by decide +kernel
theorem dX10_back_36 : decode cX10_back 36 = .ok (.putfield 123, 3) := by decide +kernel
theorem dX10_back_39 : decode cX10_back 39 = .ok (.aload_n 0, 1) := by decide +kernel
theorem dX10_back_40 : decode cX10_back 40 = .ok (.getfield 19, 3) := by decide +kernel
theorem dX10_back_43 : decode cX10_back 43 = .ok (.getfield 120, 3) := by decide +kernel
theorem dX10_back_46 : decode cX10_back 46 = .ok (.ireturn, 1) := by decide +kernel
theorem dX10_sheet_0 : decode cX10_sheet 0 = .ok (.iload_n 1, 1) := by decide +kernel
theorem dX10_sheet_1 : decode cX10_sheet 1 = .ok (.invokestatic 300, 3) := by decide +kernel
theorem dX10_sheet_4 : decode cX10_sheet 4 = .ok (.ifCond .eq 12, 3) := by decide +kernel
theorem dX10_sheet_7 : decode cX10_sheet 7 = .ok (.iload_n 2, 1) := by decide +kernel
theorem dX10_sheet_8 : decode cX10_sheet 8 = .ok (.iconst (-1), 1) := by decide +kernel
theorem dX10_sheet_9 : decode cX10_sheet 9 = .ok (.iconst 2, 1) := by decide +kernel
theorem dX10_sheet_10 : decode cX10_sheet 10 = .ok (.invokestatic 104, 3) := by decide +kernel
theorem dX10_sheet_13 : decode cX10_sheet 13 = .ok (.ifCond .ne 6, 3) := by decide +kernel
theorem dX10_sheet_16 : decode cX10_sheet 16 = .ok (.bipush (-2), 2) := by decide +kernel
theorem dX10_sheet_18 : decode cX10_sheet 18 = .ok (.ireturn, 1) := by decide +kernel
theorem dX10_sheet_19 : decode cX10_sheet 19 = .ok (.iload_n 2, 1) := by decide +kernel
theorem dX10_sheet_20 : decode cX10_sheet 20 = .ok (.iconst (-1), 1) := by decide +kernel
theorem dX10_sheet_21 : decode cX10_sheet 21 = .ok (.if_icmp .ne 16, 3) := by decide +kernel
theorem dX10_sheet_24 : decode cX10_sheet 24 = .ok (.aload_n 0, 1) := by decide +kernel
theorem dX10_sheet_25 : decode cX10_sheet 25 = .ok (.getfield 63, 3) := by decide +kernel
theorem dX10_sheet_28 : decode cX10_sheet 28 = .ok (.iload_n 1, 1) := by decide +kernel
theorem dX10_sheet_29 : decode cX10_sheet 29 = .ok (.aaload, 1) := by decide +kernel
theorem dX10_sheet_30 : decode cX10_sheet 30 = .ok (.iconst (-1), 1) := by decide +kernel
theorem dX10_sheet_31 : decode cX10_sheet 31 = .ok (.iconst 0, 1) := by decide +kernel
theorem dX10_sheet_32 : decode cX10_sheet 32 = .ok (.invokevirtual 306, 3) := by decide +kernel
theorem dX10_sheet_35 : decode cX10_sheet 35 = .ok (.iconst 1, 1) := by decide +kernel
theorem dX10_sheet_36 : decode cX10_sheet 36 = .ok (.ireturn, 1) := by decide +kernel
theorem dX10_sheet_37 : decode cX10_sheet 37 = .ok (.iload_n 3, 1) := by decide +kernel
theorem dX10_sheet_38 : decode cX10_sheet 38 = .ok (.bipush 40, 2) := by decide +kernel
theorem dX10_sheet_40 : decode cX10_sheet 40 = .ok (.if_icmp .le 6, 3) := by decide +kernel
theorem dX10_sheet_43 : decode cX10_sheet 43 = .ok (.bipush (-2), 2) := by decide +kernel
theorem dX10_sheet_45 : decode cX10_sheet 45 = .ok (.ireturn, 1) := by decide +kernel
theorem dX10_sheet_46 : decode cX10_sheet 46 = .ok (.iload_n 3, 1) := by decide +kernel
theorem dX10_sheet_47 : decode cX10_sheet 47 = .ok (.ifCond .ge 6, 3) := by decide +kernel
theorem dX10_sheet_50 : decode cX10_sheet 50 = .ok (.bipush (-14), 2) := by decide +kernel
theorem dX10_sheet_52 : decode cX10_sheet 52 = .ok (.ireturn, 1) := by decide +kernel
theorem dX10_sheet_53 : decode cX10_sheet 53 = .ok (.aload_n 0, 1) := by decide +kernel
theorem dX10_sheet_54 : decode cX10_sheet 54 = .ok (.getfield 63, 3) := by decide +kernel
theorem dX10_sheet_57 : decode cX10_sheet 57 = .ok (.iload_n 1, 1) := by decide +kernel
theorem dX10_sheet_58 : decode cX10_sheet 58 = .ok (.aaload, 1) := by decide +kernel
theorem dX10_sheet_59 : decode cX10_sheet 59 = .ok (.iload_n 2, 1) := by decide +kernel
theorem dX10_sheet_60 : decode cX10_sheet 60 = .ok (.iload_n 3, 1) := by decide +kernel
theorem dX10_sheet_61 : decode cX10_sheet 61 = .ok (.invokevirtual 306, 3) := by decide +kernel
theorem dX10_sheet_64 : decode cX10_sheet 64 = .ok (.iconst 1, 1) := by decide +kernel
theorem dX10_sheet_65 : decode cX10_sheet 65 = .ok (.ireturn, 1) := by decide +kernel
theorem dX10_cell_0 : decode cX10_cell 0 = .ok (.iload_n 1, 1) := by decide +kernel
theorem dX10_cell_1 : decode cX10_cell 1 = .ok (.invokestatic 300, 3) := by decide +kernel
theorem dX10_cell_4 : decode cX10_cell 4 = .ok (.ifCond .ne 6, 3) := by decide +kernel
theorem dX10_cell_7 : decode cX10_cell 7 = .ok (.bipush (-2), 2) := by decide +kernel
theorem dX10_cell_9 : decode cX10_cell 9 = .ok (.ireturn, 1) := by decide +kernel
theorem dX10_cell_10 : decode cX10_cell 10 = .ok (.aload_n 0, 1) := by decide +kernel
theorem dX10_cell_11 : decode cX10_cell 11 = .ok (.getfield 63, 3) := by decide +kernel
theorem dX10_cell_14 : decode cX10_cell 14 = .ok (.iload_n 1, 1) := by decide +kernel
theorem dX10_cell_15 : decode cX10_cell 15 = .ok (.aaload, 1) := by decide +kernel
theorem dX10_cell_16 : decode cX10_cell 16 = .ok (.astore 4, 2) := by decide +kernel
theorem dX10_cell_18 : decode cX10_cell 18 = .ok (.aload 4, 2) := by decide +kernel
theorem dX10_cell_20 : decode cX10_cell 20 = .ok (.getfield 352, 3) := by decide +kernel
theorem dX10_cell_23 : decode cX10_cell 23 = .ok (.iconst (-1), 1) := by decide +kernel
theorem dX10_cell_24 : decode cX10_cell 24 = .ok (.if_icmp .ne 6, 3) := by decide +kernel
theorem dX10_cell_27 : decode cX10_cell 27 = .ok (.bipush (-11), 2) := by decide +kernel
theorem dX10_cell_29 : decode cX10_cell 29 = .ok (.ireturn, 1) := by decide +kernel
theorem dX10_cell_30 : decode cX10_cell 30 = .ok (.iload_n 2, 1) := by decide +kernel
theorem dX10_cell_31 : decode cX10_cell 31 = .ok (.iconst 0, 1) := by decide +kernel
theorem dX10_cell_32 : decode cX10_cell 32 = .ok (.aload 4, 2) := by decide +kernel
theorem dX10_cell_34 : decode cX10_cell 34 = .ok (.getfield 288, 3) := by decide +kernel
theorem dX10_cell_37 : decode cX10_cell 37 = .ok (.iconst 1, 1) := by decide +kernel
theorem dX10_cell_38 : decode cX10_cell 38 = .ok (.isub, 1) := by decide +kernel
theorem dX10_cell_39 : decode cX10_cell 39 = .ok (.invokestatic 104, 3) := by decide +kernel
theorem dX10_cell_42 : decode cX10_cell 42 = .ok (.ifCond .ne 6, 3) := by decide +kernel
theorem dX10_cell_45 : decode cX10_cell 45 = .ok (.bipush (-12), 2) := by decide +kernel
theorem dX10_cell_47 : decode cX10_cell 47 = .ok (.ireturn, 1) := by decide +kernel
theorem dX10_cell_48 : decode cX10_cell 48 = .ok (.aload 4, 2) := by decide +kernel
theorem dX10_cell_50 : decode cX10_cell 50 = .ok (.iload_n 2, 1) := by decide +kernel
theorem dX10_cell_51 : decode cX10_cell 51 = .ok (.iload_n 3, 1) := by decide +kernel
theorem dX10_cell_52 : decode cX10_cell 52 = .ok (.invokevirtual 313, 3) := by decide +kernel
theorem dX10_cell_55 : decode cX10_cell 55 = .ok (.iconst 1, 1) := by decide +kernel
theorem dX10_cell_56 : decode cX10_cell 56 = .ok (.ireturn, 1) := by decide +kernel
theorem dX10_copy_0 : decode cX10_copy 0 = .ok (.iload_n 1, 1) := by decide +kernel
theorem dX10_copy_1 : decode cX10_copy 1 = .ok (.invokestatic 300, 3) := by decide +kernel
theorem dX10_copy_4 : decode cX10_copy 4 = .ok (.ifCond .eq 10, 3) := by decide +kernel
theorem dX10_copy_7 : decode cX10_copy 7 = .ok (.iload_n 3, 1) := by decide +kernel
theorem dX10_copy_8 : decode cX10_copy 8 = .ok (.invokestatic 300, 3) := by decide +kernel
theorem dX10_copy_11 : decode cX10_copy 11 = .ok (.ifCond .ne 6, 3) := by decide +kernel
theorem dX10_copy_14 : decode cX10_copy 14 = .ok (.bipush (-2), 2) := by decide +kernel
theorem dX10_copy_16 : decode cX10_copy 16 = .ok (.ireturn, 1) := by decide +kernel
theorem dX10_copy_17 : decode cX10_copy 17 = .ok (.aload_n 0, 1) := by decide +kernel
theorem dX10_copy_18 : decode cX10_copy 18 = .ok (.getfield 63, 3) := by decide +kernel
theorem dX10_copy_21 : decode cX10_copy 21 = .ok (.iload_n 1, 1) := by decide +kernel
theorem dX10_copy_22 : decode cX10_copy 22 = .ok (.aaload, 1) := by decide +kernel
theorem dX10_copy_23 : decode cX10_copy 23 = .ok (.astore 6, 2) := by decide +kernel
theorem dX10_copy_25 : decode cX10_copy 25 = .ok (.aload_n 0, 1) := by decide +kernel
theorem dX10_copy_26 : decode cX10_copy 26 = .ok (.getfield 63, 3) := by decide +kernel
theorem dX10_copy_29 : decode cX10_copy 29 = .ok (.iload_n 3, 1) := by decide +kernel
theorem dX10_copy_30 : decode cX10_copy 30 = .ok (.aaload, 1) := by decide +kernel
theorem dX10_copy_31 : decode cX10_copy 31 = .ok (.astore 7, 2) := by decide +kernel
theorem dX10_copy_33 : decode cX10_copy 33 = .ok (.aload 6, 2) := by decide +kernel
theorem dX10_copy_35 : decode cX10_copy 35 = .ok (.getfield 352, 3) := by decide +kernel
theorem dX10_copy_38 : decode cX10_copy 38 = .ok (.iconst (-1), 1) := by decide +kernel
theorem dX10_copy_39 : decode cX10_copy 39 = .ok (.if_icmp .eq 12, 3) := by decide +kernel
theorem dX10_copy_42 : decode cX10_copy 42 = .ok (.aload 7, 2) := by decide +kernel
theorem dX10_copy_44 : decode cX10_copy 44 = .ok (.getfield 352, 3) := by decide +kernel
theorem dX10_copy_47 : decode cX10_copy 47 = .ok (.iconst (-1), 1) := by decide +kernel
theorem dX10_copy_48 : decode cX10_copy 48 = .ok (.if_icmp .ne 6, 3) := by decide +kernel
theorem dX10_copy_51 : decode cX10_copy 51 = .ok (.bipush (-11), 2) := by decide +kernel
theorem dX10_copy_53 : decode cX10_copy 53 = .ok (.ireturn, 1) := by decide +kernel
theorem dX10_copy_54 : decode cX10_copy 54 = .ok (.aload 6, 2) := by decide +kernel
theorem dX10_copy_56 : decode cX10_copy 56 = .ok (.getfield 352, 3) := by decide +kernel
theorem dX10_copy_59 : decode cX10_copy 59 = .ok (.aload 7, 2) := by decide +kernel
theorem dX10_copy_61 : decode cX10_copy 61 = .ok (.getfield 352, 3) := by decide +kernel
theorem dX10_copy_64 : decode cX10_copy 64 = .ok (.if_icmp .eq 6, 3) := by decide +kernel
theorem dX10_copy_67 : decode cX10_copy 67 = .ok (.bipush (-13), 2) := by decide +kernel
theorem dX10_copy_69 : decode cX10_copy 69 = .ok (.ireturn, 1) := by decide +kernel
theorem dX10_copy_70 : decode cX10_copy 70 = .ok (.aload 6, 2) := by decide +kernel
theorem dX10_copy_72 : decode cX10_copy 72 = .ok (.iload_n 2, 1) := by decide +kernel
theorem dX10_copy_73 : decode cX10_copy 73 = .ok (.iload 5, 2) := by decide +kernel
theorem dX10_copy_75 : decode cX10_copy 75 = .ok (.invokevirtual 355, 3) := by decide +kernel
theorem dX10_copy_78 : decode cX10_copy 78 = .ok (.ifCond .eq 15, 3) := by decide +kernel
theorem dX10_copy_81 : decode cX10_copy 81 = .ok (.aload 7, 2) := by decide +kernel
theorem dX10_copy_83 : decode cX10_copy 83 = .ok (.iload 4, 2) := by decide +kernel
theorem dX10_copy_85 : decode cX10_copy 85 = .ok (.iload 5, 2) := by decide +kernel
theorem dX10_copy_87 : decode cX10_copy 87 = .ok (.invokevirtual 355, 3) := by decide +kernel
theorem dX10_copy_90 : decode cX10_copy 90 = .ok (.ifCond .ne 6, 3) := by decide +kernel
theorem dX10_copy_93 : decode cX10_copy 93 = .ok (.bipush (-12), 2) := by decide +kernel
theorem dX10_copy_95 : decode cX10_copy 95 = .ok (.ireturn, 1) := by decide +kernel
theorem dX10_copy_96 : decode cX10_copy 96 = .ok (.aload 6, 2) := by decide +kernel
theorem dX10_copy_98 : decode cX10_copy 98 = .ok (.getfield 289, 3) := by decide +kernel
theorem dX10_copy_101 : decode cX10_copy 101 = .ok (.iload_n 2, 1) := by decide +kernel
theorem dX10_copy_102 : decode cX10_copy 102 = .ok (.aload 7, 2) := by decide +kernel
theorem dX10_copy_104 : decode cX10_copy 104 = .ok (.getfield 289, 3) := by decide +kernel
theorem dX10_copy_107 : decode cX10_copy 107 = .ok (.iload 4, 2) := by decide +kernel
theorem dX10_copy_109 : decode cX10_copy 109 = .ok (.iload 5, 2) := by decide +kernel
theorem dX10_copy_111 : decode cX10_copy 111 = .ok (.invokestatic 358, 3) := by decide +kernel
theorem dX10_copy_114 : decode cX10_copy 114 = .ok (.iload 5, 2) := by decide +kernel
theorem dX10_copy_116 : decode cX10_copy 116 = .ok (.ireturn, 1) := by decide +kernel
theorem dX10_cartsBy_0 : decode cX10_cartsBy 0 = .ok (.iload_n 1, 1) := by decide +kernel
theorem dX10_cartsBy_1 : decode cX10_cartsBy 1 = .ok (.invokestatic 300, 3) := by decide +kernel
theorem dX10_cartsBy_4 : decode cX10_cartsBy 4 = .ok (.ifCond .eq 23, 3) := by decide +kernel
theorem dX10_cartsBy_7 : decode cX10_cartsBy 7 = .ok (.iload_n 2, 1) := by decide +kernel
theorem dX10_cartsBy_8 : decode cX10_cartsBy 8 = .ok (.iconst 0, 1) := by decide +kernel
theorem dX10_cartsBy_9 : decode cX10_cartsBy 9 = .ok (.iconst 2, 1) := by decide +kernel
theorem dX10_cartsBy_10 : decode cX10_cartsBy 10 = .ok (.invokestatic 104, 3) := by decide +kernel
theorem dX10_cartsBy_13 : decode cX10_cartsBy 13 = .ok (.ifCond .eq 14, 3) := by decide +kernel
theorem dX10_cartsBy_16 : decode cX10_cartsBy 16 = .ok (.iload 4, 2) := by decide +kernel
theorem dX10_cartsBy_18 : decode cX10_cartsBy 18 = .ok (.iconst 0, 1) := by decide +kernel
theorem dX10_cartsBy_19 : decode cX10_cartsBy 19 = .ok (.bipush 8, 2) := by decide +kernel
theorem dX10_cartsBy_21 : decode cX10_cartsBy 21 = .ok (.invokestatic 104, 3) := by decide +kernel
theorem dX10_cartsBy_24 : decode cX10_cartsBy 24 = .ok (.ifCond .ne 6, 3) := by decide +kernel
theorem dX10_cartsBy_27 : decode cX10_cartsBy 27 = .ok (.bipush (-2), 2) := by decide +kernel
theorem dX10_cartsBy_29 : decode cX10_cartsBy 29 = .ok (.ireturn, 1) := by decide +kernel
theorem dX10_cartsBy_30 : decode cX10_cartsBy 30 = .ok (.aload_n 0, 1) := by decide +kernel
theorem dX10_cartsBy_31 : decode cX10_cartsBy 31 = .ok (.getfield 63, 3) := by decide +kernel
theorem dX10_cartsBy_34 : decode cX10_cartsBy 34 = .ok (.iload_n 1, 1) := by decide +kernel
theorem dX10_cartsBy_35 : decode cX10_cartsBy 35 = .ok (.aaload, 1) := by decide +kernel
theorem dX10_cartsBy_36 : decode cX10_cartsBy 36 = .ok (.astore 5, 2) := by decide +kernel
theorem dX10_cartsBy_38 : decode cX10_cartsBy 38 = .ok (.aload 5, 2) := by decide +kernel
theorem dX10_cartsBy_40 : decode cX10_cartsBy 40 = .ok (.getfield 352, 3) := by decide +kernel
theorem dX10_cartsBy_43 : decode cX10_cartsBy 43 = .ok (.iconst (-1), 1) := by decide +kernel
theorem dX10_cartsBy_44 : decode cX10_cartsBy 44 = .ok (.if_icmp .ne 6, 3) := by decide +kernel
theorem dX10_cartsBy_47 : decode cX10_cartsBy 47 = .ok (.bipush (-11), 2) := by decide +kernel
theorem dX10_cartsBy_49 : decode cX10_cartsBy 49 = .ok (.ireturn, 1) := by decide +kernel
theorem dX10_cartsBy_50 : decode cX10_cartsBy 50 = .ok (.aload 5, 2) := by decide +kernel
theorem dX10_cartsBy_52 : decode cX10_cartsBy 52 = .ok (.getfield 352, 3) := by decide +kernel
theorem dX10_cartsBy_55 : decode cX10_cartsBy 55 = .ok (.iload_n 2, 1) := by decide +kernel
theorem dX10_cartsBy_56 : decode cX10_cartsBy 56 = .ok (.if_icmp .eq 6, 3) := by decide +kernel
theorem dX10_cartsBy_59 : decode cX10_cartsBy 59 = .ok (.bipush (-13), 2) := by decide +kernel
theorem dX10_cartsBy_61 : decode cX10_cartsBy 61 = .ok (.ireturn, 1) := by decide +kernel
theorem dX10_cartsBy_62 : decode cX10_cartsBy 62 = .ok (.iconst 0, 1) := by decide +kernel
theorem dX10_cartsBy_63 : decode cX10_cartsBy 63 = .ok (.istore 6, 2) := by decide +kernel
theorem dX10_cartsBy_65 : decode cX10_cartsBy 65 = .ok (.iload_n 3, 1) := by decide +kernel
theorem dX10_cartsBy_66 : decode cX10_cartsBy 66 = .ok (.istore 7, 2) := by decide +kernel
theorem dX10_cartsBy_68 : decode cX10_cartsBy 68 = .ok (.iconst 0, 1) := by decide +kernel
theorem dX10_cartsBy_69 : decode cX10_cartsBy 69 = .ok (.istore 8, 2) := by decide +kernel
theorem dX10_cartsBy_71 : decode cX10_cartsBy 71 = .ok (.iload 8, 2) := by decide +kernel
theorem dX10_cartsBy_73 : decode cX10_cartsBy 73 = .ok (.iload 4, 2) := by decide +kernel
theorem dX10_cartsBy_75 : decode cX10_cartsBy 75 = .ok (.if_icmp .ge 76, 3) := by decide +kernel
theorem dX10_cartsBy_78 : decode cX10_cartsBy 78 = .ok (.aload 5, 2) := by decide +kernel
theorem dX10_cartsBy_80 : decode cX10_cartsBy 80 = .ok (.iload 7, 2) := by decide +kernel
theorem dX10_cartsBy_82 : decode cX10_cartsBy 82 = .ok (.iconst 5, 1) := by decide +kernel
theorem dX10_cartsBy_83 : decode cX10_cartsBy 83 = .ok (.invokevirtual 355, 3) := by decide +kernel
theorem dX10_cartsBy_86 : decode cX10_cartsBy 86 = .ok (.ifCond .ne 6, 3) := by decide +kernel
theorem dX10_cartsBy_89 : decode cX10_cartsBy 89 = .ok (.bipush (-12), 2) := by decide +kernel
theorem dX10_cartsBy_91 : decode cX10_cartsBy 91 = .ok (.ireturn, 1) := by decide +kernel
theorem dX10_cartsBy_92 : decode cX10_cartsBy 92 = .ok (.aload 5, 2) := by decide +kernel
theorem dX10_cartsBy_94 : decode cX10_cartsBy 94 = .ok (.getfield 289, 3) := by decide +kernel
theorem dX10_cartsBy_97 : decode cX10_cartsBy 97 = .ok (.astore 9, 2) := by decide +kernel
theorem dX10_cartsBy_99 : decode cX10_cartsBy 99 = .ok (.aload_n 0, 1) := by decide +kernel
theorem dX10_cartsBy_100 : decode cX10_cartsBy 100 = .ok (.aload 9, 2) := by decide +kernel
theorem dX10_cartsBy_102 : decode cX10_cartsBy 102 = .ok (.iload 7, 2) := by decide +kernel
theorem dX10_cartsBy_104 : decode cX10_cartsBy 104 = .ok (.iaload, 1) := by decide +kernel
theorem dX10_cartsBy_105 : decode cX10_cartsBy 105 = .ok (.aload 9, 2) := by decide +kernel
theorem dX10_cartsBy_107 : decode cX10_cartsBy 107 = .ok (.iload 7, 2) := by decide +kernel
theorem dX10_cartsBy_109 : decode cX10_cartsBy 109 = .ok (.iconst 1, 1) := by decide +kernel
theorem dX10_cartsBy_110 : decode cX10_cartsBy 110 = .ok (.iadd, 1) := by decide +kernel
theorem dX10_cartsBy_111 : decode cX10_cartsBy 111 = .ok (.iaload, 1) := by decide +kernel
theorem dX10_cartsBy_112 : decode cX10_cartsBy 112 = .ok (.aload 9, 2) := by decide +kernel
theorem dX10_cartsBy_114 : decode cX10_cartsBy 114 = .ok (.iload 7, 2) := by decide +kernel
theorem dX10_cartsBy_116 : decode cX10_cartsBy 116 = .ok (.iconst 2, 1) := by decide +kernel
theorem dX10_cartsBy_117 : decode cX10_cartsBy 117 = .ok (.iadd, 1) := by decide +kernel
theorem dX10_cartsBy_118 : decode cX10_cartsBy 118 = .ok (.iaload, 1) := by decide +kernel
theorem dX10_cartsBy_119 : decode cX10_cartsBy 119 = .ok (.aload 9, 2) := by decide +kernel
theorem dX10_cartsBy_121 : decode cX10_cartsBy 121 = .ok (.iload 7, 2) := by decide +kernel
theorem dX10_cartsBy_123 : decode cX10_cartsBy 123 = .ok (.iconst 3, 1) := by decide +kernel
theorem dX10_cartsBy_124 : decode cX10_cartsBy 124 = .ok (.iadd, 1) := by decide +kernel
theorem dX10_cartsBy_125 : decode cX10_cartsBy 125 = .ok (.iaload, 1) := by decide +kernel
theorem dX10_cartsBy_126 : decode cX10_cartsBy 126 = .ok (.aload 9, 2) := by decide +kernel
theorem dX10_cartsBy_128 : decode cX10_cartsBy 128 = .ok (.iload 7, 2) := by decide +kernel
theorem dX10_cartsBy_130 : decode cX10_cartsBy 130 = .ok (.iconst 4, 1) := by decide +kernel
theorem dX10_cartsBy_131 : decode cX10_cartsBy 131 = .ok (.iadd, 1) := by decide +kernel
theorem dX10_cartsBy_132 : decode cX10_cartsBy 132 = .ok (.iaload, 1) := by decide +kernel
theorem dX10_cartsBy_133 : decode cX10_cartsBy 133 = .ok (.invokevirtual 364, 3) := by decide +kernel
theorem dX10_cartsBy_136 : decode cX10_cartsBy 136 = .ok (.ifCond .lt 6, 3) := by decide +kernel
theorem dX10_cartsBy_139 : decode cX10_cartsBy 139 = .ok (.iinc 6 1, 3) := by decide +kernel
theorem dX10_cartsBy_142 : decode cX10_cartsBy 142 = .ok (.iinc 7 5, 3) := by decide +kernel
theorem dX10_cartsBy_145 : decode cX10_cartsBy 145 = .ok (.iinc 8 1, 3) := by decide +kernel
theorem dX10_cartsBy_148 : decode cX10_cartsBy 148 = .ok (.goto (-77), 3) := by decide +kernel
theorem dX10_cartsBy_151 : decode cX10_cartsBy 151 = .ok (.iload 6, 2) := by decide +kernel
theorem dX10_cartsBy_153 : decode cX10_cartsBy 153 = .ok (.ireturn, 1) := by decide +kernel
theorem dX10_taken_0 : decode cX10_taken 0 = .ok (.iload_n 2, 1) := by decide +kernel
theorem dX10_taken_1 : decode cX10_taken 1 = .ok (.iconst 0, 1) := by decide +kernel
theorem dX10_taken_2 : decode cX10_taken 2 = .ok (.bipush 6, 2) := by decide +kernel
theorem dX10_taken_4 : decode cX10_taken 4 = .ok (.invokestatic 104, 3) := by decide +kernel
theorem dX10_taken_7 : decode cX10_taken 7 = .ok (.ifCond .ne 6, 3) := by decide +kernel
theorem dX10_taken_10 : decode cX10_taken 10 = .ok (.bipush (-2), 2) := by decide +kernel
theorem dX10_taken_12 : decode cX10_taken 12 = .ok (.ireturn, 1) := by decide +kernel
theorem dX10_taken_13 : decode cX10_taken 13 = .ok (.iload_n 1, 1) := by decide +kernel
theorem dX10_taken_14 : decode cX10_taken 14 = .ok (.iconst 0, 1) := by decide +kernel
theorem dX10_taken_15 : decode cX10_taken 15 = .ok (.bipush 14, 2) := by decide +kernel
theorem dX10_taken_17 : decode cX10_taken 17 = .ok (.invokestatic 104, 3) := by decide +kernel
theorem dX10_taken_20 : decode cX10_taken 20 = .ok (.ifCond .ne 6, 3) := by decide +kernel
theorem dX10_taken_23 : decode cX10_taken 23 = .ok (.bipush (-12), 2) := by decide +kernel
theorem dX10_taken_25 : decode cX10_taken 25 = .ok (.ireturn, 1) := by decide +kernel
theorem dX10_taken_26 : decode cX10_taken 26 = .ok (.iload_n 1, 1) := by decide +kernel
theorem dX10_taken_27 : decode cX10_taken 27 = .ok (.iconst 5, 1) := by decide +kernel
theorem dX10_taken_28 : decode cX10_taken 28 = .ok (.if_icmp .ge 38, 3) := by decide +kernel
theorem dX10_taken_31 : decode cX10_taken 31 = .ok (.iload_n 1, 1) := by decide +kernel
theorem dX10_taken_32 : decode cX10_taken 32 = .ok (.aload_n 0, 1) := by decide +kernel
theorem dX10_taken_33 : decode cX10_taken 33 = .ok (.getfield 12, 3) := by decide +kernel
theorem dX10_taken_36 : decode cX10_taken 36 = .ok (.getfield 111, 3) := by decide +kernel
theorem dX10_taken_39 : decode cX10_taken 39 = .ok (.if_icmp .lt 6, 3) := by decide +kernel
theorem dX10_taken_42 : decode cX10_taken 42 = .ok (.bipush (-11), 2) := by decide +kernel
theorem dX10_taken_44 : decode cX10_taken 44 = .ok (.ireturn, 1) := by decide +kernel
theorem dX10_taken_45 : decode cX10_taken 45 = .ok (.iload_n 2, 1) := by decide +kernel
theorem dX10_taken_46 : decode cX10_taken 46 = .ok (.bipush 6, 2) := by decide +kernel
theorem dX10_taken_48 : decode cX10_taken 48 = .ok (.if_icmp .ne 15, 3) := by decide +kernel
theorem dX10_taken_51 : decode cX10_taken 51 = .ok (.aload_n 0, 1) := by decide +kernel
theorem dX10_taken_52 : decode cX10_taken 52 = .ok (.getfield 12, 3) := by decide +kernel
theorem dX10_taken_55 : decode cX10_taken 55 = .ok (.getfield 114, 3) := by decide +kernel
theorem dX10_taken_58 : decode cX10_taken 58 = .ok (.iload_n 1, 1) := by decide +kernel
theorem dX10_taken_59 : decode cX10_taken 59 = .ok (.iaload, 1) := by decide +kernel
theorem dX10_taken_60 : decode cX10_taken 60 = .ok (.goto 5, 3) := by decide +kernel
theorem dX10_taken_63 : decode cX10_taken 63 = .ok (.bipush (-13), 2) := by decide +kernel
theorem dX10_taken_65 : decode cX10_taken 65 = .ok (.ireturn, 1) := by decide +kernel
theorem dX10_taken_66 : decode cX10_taken 66 = .ok (.iload_n 1, 1) := by decide +kernel
theorem dX10_taken_67 : decode cX10_taken 67 = .ok (.iconst 5, 1) := by decide +kernel
theorem dX10_taken_68 : decode cX10_taken 68 = .ok (.isub, 1) := by decide +kernel
theorem dX10_taken_69 : decode cX10_taken 69 = .ok (.istore_n 3, 1) := by decide +kernel
theorem dX10_taken_70 : decode cX10_taken 70 = .ok (.aload_n 0, 1) := by decide +kernel
theorem dX10_taken_71 : decode cX10_taken 71 = .ok (.getfield 19, 3) := by decide +kernel
theorem dX10_taken_74 : decode cX10_taken 74 = .ok (.iload_n 3, 1) := by decide +kernel
theorem dX10_taken_75 : decode cX10_taken 75 = .ok (.invokevirtual 164, 3) := by decide +kernel
theorem dX10_taken_78 : decode cX10_taken 78 = .ok (.ifCond .ne 6, 3) := by decide +kernel
theorem dX10_taken_81 : decode cX10_taken 81 = .ok (.bipush (-11), 2) := by decide +kernel
theorem dX10_taken_83 : decode cX10_taken 83 = .ok (.ireturn, 1) := by decide +kernel
theorem dX10_taken_84 : decode cX10_taken 84 = .ok (.aload_n 0, 1) := by decide +kernel
theorem dX10_taken_85 : decode cX10_taken 85 = .ok (.getfield 19, 3) := by decide +kernel
theorem dX10_taken_88 : decode cX10_taken 88 = .ok (.getfield 140, 3) := by decide +kernel
theorem dX10_taken_91 : decode cX10_taken 91 = .ok (.iload_n 3, 1) := by decide +kernel
theorem dX10_taken_92 : decode cX10_taken 92 = .ok (.aaload, 1) := by decide +kernel
theorem dX10_taken_93 : decode cX10_taken 93 = .ok (.iload_n 2, 1) := by decide +kernel
theorem dX10_taken_94 : decode cX10_taken 94 = .ok (.invokevirtual 368, 3) := by decide +kernel
theorem dX10_taken_97 : decode cX10_taken 97 = .ok (.ifCond .eq 7, 3) := by decide +kernel
theorem dX10_taken_100 : decode cX10_taken 100 = .ok (.iload_n 3, 1) := by decide +kernel
theorem dX10_taken_101 : decode cX10_taken 101 = .ok (.goto 5, 3) := by decide +kernel
theorem dX10_taken_104 : decode cX10_taken 104 = .ok (.bipush (-13), 2) := by decide +kernel
theorem dX10_taken_106 : decode cX10_taken 106 = .ok (.ireturn, 1) := by decide +kernel
theorem dX10_within_0 : decode cX10_within 0 = .ok (.iload_n 0, 1) := by decide +kernel
theorem dX10_within_1 : decode cX10_within 1 = .ok (.iload_n 1, 1) := by decide +kernel
theorem dX10_within_2 : decode cX10_within 2 = .ok (.if_icmp .lt 12, 3) := by decide +kernel
theorem dX10_within_5 : decode cX10_within 5 = .ok (.iload_n 0, 1) := by decide +kernel
theorem dX10_within_6 : decode cX10_within 6 = .ok (.iload_n 2, 1) := by decide +kernel
theorem dX10_within_7 : decode cX10_within 7 = .ok (.if_icmp .gt 7, 3) := by decide +kernel
theorem dX10_within_10 : decode cX10_within 10 = .ok (.iconst 1, 1) := by decide +kernel
theorem dX10_within_11 : decode cX10_within 11 = .ok (.goto 4, 3) := by decide +kernel
theorem dX10_within_14 : decode cX10_within 14 = .ok (.iconst 0, 1) := by decide +kernel
theorem dX10_within_15 : decode cX10_within 15 = .ok (.ireturn, 1) := by decide +kernel
theorem dX10_isByte_0 : decode cX10_isByte 0 = .ok (.iload_n 0, 1) := by decide +kernel
theorem dX10_isByte_1 : decode cX10_isByte 1 = .ok (.iconst 0, 1) := by decide +kernel
theorem dX10_isByte_2 : decode cX10_isByte 2 = .ok (.sipush 255, 3) := by decide +kernel
theorem dX10_isByte_5 : decode cX10_isByte 5 = .ok (.invokestatic 104, 3) := by decide +kernel
theorem dX10_isByte_8 : decode cX10_isByte 8 = .ok (.ireturn, 1) := by decide +kernel
theorem dX10_isHour_0 : decode cX10_isHour 0 = .ok (.iload_n 0, 1) := by decide +kernel
theorem dX10_isHour_1 : decode cX10_isHour 1 = .ok (.iconst 0, 1) := by decide +kernel
theorem dX10_isHour_2 : decode cX10_isHour 2 = .ok (.bipush 9, 2) := by decide +kernel
theorem dX10_isHour_4 : decode cX10_isHour 4 = .ok (.invokestatic 104, 3) := by decide +kernel
theorem dX10_isHour_7 : decode cX10_isHour 7 = .ok (.ireturn, 1) := by decide +kernel
theorem dX10_isDifference_0 : decode cX10_isDifference 0 = .ok (.iload_n 0, 1) := by decide +kernel
theorem dX10_isDifference_1 : decode cX10_isDifference 1 = .ok (.iconst 0, 1) := by decide +kernel
theorem dX10_isDifference_2 : decode cX10_isDifference 2 = .ok (.sipush 999, 3) := by decide +kernel
theorem dX10_isDifference_5 : decode cX10_isDifference 5 = .ok (.invokestatic 104, 3) := by decide +kernel
theorem dX10_isDifference_8 : decode cX10_isDifference 8 = .ok (.ireturn, 1) := by decide +kernel
theorem dX10_isSeed_0 : decode cX10_isSeed 0 = .ok (.iload_n 0, 1) := by decide +kernel
theorem dX10_isSeed_1 : decode cX10_isSeed 1 = .ok (.iconst 0, 1) := by decide +kernel
theorem dX10_isSeed_2 : decode cX10_isSeed 2 = .ok (.ldc_w 371, 3) := by decide +kernel
theorem dX10_isSeed_5 : decode cX10_isSeed 5 = .ok (.invokestatic 104, 3) := by decide +kernel
theorem dX10_isSeed_8 : decode cX10_isSeed 8 = .ok (.ireturn, 1) := by decide +kernel
theorem dX10_isSheet_0 : decode cX10_isSheet 0 = .ok (.iload_n 0, 1) := by decide +kernel
theorem dX10_isSheet_1 : decode cX10_isSheet 1 = .ok (.iconst 0, 1) := by decide +kernel
theorem dX10_isSheet_2 : decode cX10_isSheet 2 = .ok (.iconst 3, 1) := by decide +kernel
theorem dX10_isSheet_3 : decode cX10_isSheet 3 = .ok (.invokestatic 104, 3) := by decide +kernel
theorem dX10_isSheet_6 : decode cX10_isSheet 6 = .ok (.ireturn, 1) := by decide +kernel
theorem dX10_waited_0 : decode cX10_waited 0 = .ok (.iconst 0, 1) := by decide +kernel
theorem dX10_waited_1 : decode cX10_waited 1 = .ok (.iload_n 0, 1) := by decide +kernel
theorem dX10_waited_2 : decode cX10_waited 2 = .ok (.iload_n 1, 1) := by decide +kernel
theorem dX10_waited_3 : decode cX10_waited 3 = .ok (.isub, 1) := by decide +kernel
theorem dX10_waited_4 : decode cX10_waited 4 = .ok (.invokestatic 372, 3) := by decide +kernel
theorem dX10_waited_7 : decode cX10_waited 7 = .ok (.ireturn, 1) := by decide +kernel
theorem dX10_commonDivisor_0 : decode cX10_commonDivisor 0 = .ok (.iload_n 1, 1) := by decide +kernel
theorem dX10_commonDivisor_1 : decode cX10_commonDivisor 1 = .ok (.istore_n 2, 1) := by decide +kernel
theorem dX10_commonDivisor_2 : decode cX10_commonDivisor 2 = .ok (.iload_n 2, 1) := by decide +kernel
theorem dX10_commonDivisor_3 : decode cX10_commonDivisor 3 = .ok (.iconst 1, 1) := by decide +kernel
theorem dX10_commonDivisor_4 : decode cX10_commonDivisor 4 = .ok (.if_icmp .le 23, 3) := by decide +kernel
theorem dX10_commonDivisor_7 : decode cX10_commonDivisor 7 = .ok (.iload_n 0, 1) := by decide +kernel
theorem dX10_commonDivisor_8 : decode cX10_commonDivisor 8 = .ok (.iload_n 2, 1) := by decide +kernel
theorem dX10_commonDivisor_9 : decode cX10_commonDivisor 9 = .ok (.irem, 1) := by decide +kernel
theorem dX10_commonDivisor_10 : decode cX10_commonDivisor 10 = .ok (.ifCond .ne 11, 3) := by decide +kernel
theorem dX10_commonDivisor_13 : decode cX10_commonDivisor 13 = .ok (.iload_n 1, 1) := by decide +kernel
theorem dX10_commonDivisor_14 : decode cX10_commonDivisor 14 = .ok (.iload_n 2, 1) := by decide +kernel
theorem dX10_commonDivisor_15 : decode cX10_commonDivisor 15 = .ok (.irem, 1) := by decide +kernel
theorem dX10_commonDivisor_16 : decode cX10_commonDivisor 16 = .ok (.ifCond .ne 5, 3) := by decide +kernel
theorem dX10_commonDivisor_19 : decode cX10_commonDivisor 19 = .ok (.iload_n 2, 1) := by decide +kernel
theorem dX10_commonDivisor_20 : decode cX10_commonDivisor 20 = .ok (.ireturn, 1) := by decide +kernel
theorem dX10_commonDivisor_21 : decode cX10_commonDivisor 21 = .ok (.iinc 2 (-1), 3) := by decide +kernel
theorem dX10_commonDivisor_24 : decode cX10_commonDivisor 24 = .ok (.goto (-22), 3) := by decide +kernel
theorem dX10_commonDivisor_27 : decode cX10_commonDivisor 27 = .ok (.iconst 1, 1) := by decide +kernel
theorem dX10_commonDivisor_28 : decode cX10_commonDivisor 28 = .ok (.ireturn, 1) := by decide +kernel
theorem dX10_law_0 : decode cX10_law 0 = .ok (.aload_n 0, 1) := by decide +kernel
theorem dX10_law_1 : decode cX10_law 1 = .ok (.getfield 25, 3) := by decide +kernel
theorem dX10_law_4 : decode cX10_law 4 = .ok (.aload_n 0, 1) := by decide +kernel
theorem dX10_law_5 : decode cX10_law 5 = .ok (.getfield 123, 3) := by decide +kernel
theorem dX10_law_8 : decode cX10_law 8 = .ok (.aaload, 1) := by decide +kernel
theorem dX10_law_9 : decode cX10_law 9 = .ok (.areturn, 1) := by decide +kernel
theorem dX10_runTillDusk_0 : decode cX10_runTillDusk 0 = .ok (.aload_n 0, 1) := by decide +kernel
theorem dX10_runTillDusk_1 : decode cX10_runTillDusk 1 = .ok (.getfield 57, 3) := by decide +kernel
theorem dX10_runTillDusk_4 : decode cX10_runTillDusk 4 = .ok (.invokevirtual 252, 3) := by decide +kernel
theorem dX10_runTillDusk_7 : decode cX10_runTillDusk 7 = .ok (.aload_n 0, 1) := by decide +kernel
theorem dX10_runTillDusk_8 : decode cX10_runTillDusk 8 = .ok (.getfield 57, 3) := by decide +kernel
theorem dX10_runTillDusk_11 : decode cX10_runTillDusk 11 = .ok (.bipush 10, 2) := by decide +kernel
theorem dX10_runTillDusk_13 : decode cX10_runTillDusk 13 = .ok (.iconst (-1), 1) := by decide +kernel
theorem dX10_runTillDusk_14 : decode cX10_runTillDusk 14 = .ok (.sipush 1023, 3) := by decide +kernel
theorem dX10_runTillDusk_17 : decode cX10_runTillDusk 17 = .ok (.aload_n 0, 1) := by decide +kernel
theorem dX10_runTillDusk_18 : decode cX10_runTillDusk 18 = .ok (.invokevirtual 132, 3) := by decide +kernel
theorem dX10_runTillDusk_21 : decode cX10_runTillDusk 21 = .ok (.invokevirtual 255, 3) := by decide +kernel
theorem dX10_runTillDusk_24 : decode cX10_runTillDusk 24 = .ok (.return_, 1) := by decide +kernel
theorem dX10_runDrawn_0 : decode cX10_runDrawn 0 = .ok (.aload_n 0, 1) := by decide +kernel
theorem dX10_runDrawn_1 : decode cX10_runDrawn 1 = .ok (.getfield 57, 3) := by decide +kernel
theorem dX10_runDrawn_4 : decode cX10_runDrawn 4 = .ok (.iload_n 1, 1) := by decide +kernel
theorem dX10_runDrawn_5 : decode cX10_runDrawn 5 = .ok (.invokevirtual 377, 3) := by decide +kernel
theorem dX10_runDrawn_8 : decode cX10_runDrawn 8 = .ok (.aload_n 0, 1) := by decide +kernel
theorem dX10_runDrawn_9 : decode cX10_runDrawn 9 = .ok (.getfield 57, 3) := by decide +kernel
theorem dX10_runDrawn_12 : decode cX10_runDrawn 12 = .ok (.bipush 10, 2) := by decide +kernel
theorem dX10_runDrawn_14 : decode cX10_runDrawn 14 = .ok (.iconst (-1), 1) := by decide +kernel
theorem dX10_runDrawn_15 : decode cX10_runDrawn 15 = .ok (.sipush 1023, 3) := by decide +kernel
theorem dX10_runDrawn_18 : decode cX10_runDrawn 18 = .ok (.aload_n 0, 1) := by decide +kernel
theorem dX10_runDrawn_19 : decode cX10_runDrawn 19 = .ok (.invokevirtual 132, 3) := by decide +kernel
theorem dX10_runDrawn_22 : decode cX10_runDrawn 22 = .ok (.invokevirtual 255, 3) := by decide +kernel
theorem dX10_runDrawn_25 : decode cX10_runDrawn 25 = .ok (.return_, 1) := by decide +kernel
theorem dX10_refusalOfRows_0 : decode cX10_refusalOfRows 0 = .ok (.iload_n 1, 1) := by decide +kernel
theorem dX10_refusalOfRows_1 : decode cX10_refusalOfRows 1 = .ok (.invokestatic 300, 3) := by decide +kernel
theorem dX10_refusalOfRows_4 : decode cX10_refusalOfRows 4 = .ok (.ifCond .ne 6, 3) := by decide +kernel
theorem dX10_refusalOfRows_7 : decode cX10_refusalOfRows 7 = .ok (.bipush (-2), 2) := by decide +kernel
theorem dX10_refusalOfRows_9 : decode cX10_refusalOfRows 9 = .ok (.ireturn, 1) := by decide +kernel
theorem dX10_refusalOfRows_10 : decode cX10_refusalOfRows 10 = .ok (.aload_n 0, 1) := by decide +kernel
theorem dX10_refusalOfRows_11 : decode cX10_refusalOfRows 11 = .ok (.getfield 63, 3) := by decide +kernel
theorem dX10_refusalOfRows_14 : decode cX10_refusalOfRows 14 = .ok (.iload_n 1, 1) := by decide +kernel
theorem dX10_refusalOfRows_15 : decode cX10_refusalOfRows 15 = .ok (.aaload, 1) := by decide +kernel
theorem dX10_refusalOfRows_16 : decode cX10_refusalOfRows 16 = .ok (.getfield 352, 3) := by decide +kernel
theorem dX10_refusalOfRows_19 : decode cX10_refusalOfRows 19 = .ok (.iconst (-1), 1) := by decide +kernel
theorem dX10_refusalOfRows_20 : decode cX10_refusalOfRows 20 = .ok (.if_icmp .ne 6, 3) := by decide +kernel
theorem dX10_refusalOfRows_23 : decode cX10_refusalOfRows 23 = .ok (.bipush (-11), 2) := by decide +kernel
theorem dX10_refusalOfRows_25 : decode cX10_refusalOfRows 25 = .ok (.ireturn, 1) := by decide +kernel
theorem dX10_refusalOfRows_26 : decode cX10_refusalOfRows 26 = .ok (.aload_n 0, 1) := by decide +kernel
theorem dX10_refusalOfRows_27 : decode cX10_refusalOfRows 27 = .ok (.getfield 63, 3) := by decide +kernel
theorem dX10_refusalOfRows_30 : decode cX10_refusalOfRows 30 = .ok (.iload_n 1, 1) := by decide +kernel
theorem dX10_refusalOfRows_31 : decode cX10_refusalOfRows 31 = .ok (.aaload, 1) := by decide +kernel
theorem dX10_refusalOfRows_32 : decode cX10_refusalOfRows 32 = .ok (.getfield 288, 3) := by decide +kernel
theorem dX10_refusalOfRows_35 : decode cX10_refusalOfRows 35 = .ok (.iconst 2, 1) := by decide +kernel
theorem dX10_refusalOfRows_36 : decode cX10_refusalOfRows 36 = .ok (.irem, 1) := by decide +kernel
theorem dX10_refusalOfRows_37 : decode cX10_refusalOfRows 37 = .ok (.ifCond .ne 7, 3) := by decide +kernel
theorem dX10_refusalOfRows_40 : decode cX10_refusalOfRows 40 = .ok (.iconst 0, 1) := by decide +kernel
theorem dX10_refusalOfRows_41 : decode cX10_refusalOfRows 41 = .ok (.goto 5, 3) := by decide +kernel
theorem dX10_refusalOfRows_44 : decode cX10_refusalOfRows 44 = .ok (.bipush (-2), 2) := by decide +kernel
theorem dX10_refusalOfRows_46 : decode cX10_refusalOfRows 46 = .ok (.ireturn, 1) := by decide +kernel
theorem dX10_isWeighingThatMayBe_0 : decode cX10_isWeighingThatMayBe 0 = .ok (.iload_n 1, 1) := by decide +kernel
theorem dX10_isWeighingThatMayBe_1 : decode cX10_isWeighingThatMayBe 1 = .ok (.invokestatic 167, 3) := by decide +kernel
theorem dX10_isWeighingThatMayBe_4 : decode cX10_isWeighingThatMayBe 4 = .ok (.ifCond .eq 14, 3) := by decide +kernel
theorem dX10_isWeighingThatMayBe_7 : decode cX10_isWeighingThatMayBe 7 = .ok (.aload_n 0, 1) := by decide +kernel
theorem dX10_isWeighingThatMayBe_8 : decode cX10_isWeighingThatMayBe 8 = .ok (.getfield 19, 3) := by decide +kernel
theorem dX10_isWeighingThatMayBe_11 : decode cX10_isWeighingThatMayBe 11 = .ok (.iload_n 2, 1) := by decide +kernel
theorem dX10_isWeighingThatMayBe_12 : decode cX10_isWeighingThatMayBe 12 = .ok (.invokevirtual 200, 3) := by decide +kernel
theorem dX10_isWeighingThatMayBe_15 : decode cX10_isWeighingThatMayBe 15 = .ok (.ifCond .ne 5, 3) := by decide +kernel
theorem dX10_isWeighingThatMayBe_18 : decode cX10_isWeighingThatMayBe 18 = .ok (.iconst 0, 1) := by decide +kernel
theorem dX10_isWeighingThatMayBe_19 : decode cX10_isWeighingThatMayBe 19 = .ok (.ireturn, 1) := by decide +kernel
theorem dX10_isWeighingThatMayBe_20 : decode cX10_isWeighingThatMayBe 20 = .ok (.aload_n 0, 1) := by decide +kernel
theorem dX10_isWeighingThatMayBe_21 : decode cX10_isWeighingThatMayBe 21 = .ok (.getfield 41, 3) := by decide +kernel
theorem dX10_isWeighingThatMayBe_24 : decode cX10_isWeighingThatMayBe 24 = .ok (.iload_n 1, 1) := by decide +kernel
theorem dX10_isWeighingThatMayBe_25 : decode cX10_isWeighingThatMayBe 25 = .ok (.aload_n 0, 1) := by decide +kernel
theorem dX10_isWeighingThatMayBe_26 : decode cX10_isWeighingThatMayBe 26 = .ok (.getfield 19, 3) := by decide +kernel
theorem dX10_isWeighingThatMayBe_29 : decode cX10_isWeighingThatMayBe 29 = .ok (.getfield 161, 3) := by decide +kernel
theorem dX10_isWeighingThatMayBe_32 : decode cX10_isWeighingThatMayBe 32 = .ok (.invokevirtual 203, 3) := by decide +kernel
theorem dX10_isWeighingThatMayBe_35 : decode cX10_isWeighingThatMayBe 35 = .ok (.aload_n 0, 1) := by decide +kernel
theorem dX10_isWeighingThatMayBe_36 : decode cX10_isWeighingThatMayBe 36 = .ok (.getfield 41, 3) := by decide +kernel
theorem dX10_isWeighingThatMayBe_39 : decode cX10_isWeighingThatMayBe 39 = .ok (.iload_n 2, 1) := by decide +kernel
theorem dX10_isWeighingThatMayBe_40 : decode cX10_isWeighingThatMayBe 40 = .ok (.invokevirtual 207, 3) := by decide +kernel
theorem dX10_isWeighingThatMayBe_43 : decode cX10_isWeighingThatMayBe 43 = .ok (.aload_n 0, 1) := by decide +kernel
theorem dX10_isWeighingThatMayBe_44 : decode cX10_isWeighingThatMayBe 44 = .ok (.getfield 41, 3) := by decide +kernel
theorem dX10_isWeighingThatMayBe_47 : decode cX10_isWeighingThatMayBe 47 = .ok (.aload_n 0, 1) := by decide +kernel
theorem dX10_isWeighingThatMayBe_48 : decode cX10_isWeighingThatMayBe 48 = .ok (.invokevirtual 132, 3) := by decide +kernel
theorem dX10_isWeighingThatMayBe_51 : decode cX10_isWeighingThatMayBe 51 = .ok (.invokevirtual 210, 3) := by decide +kernel
theorem dX10_isWeighingThatMayBe_54 : decode cX10_isWeighingThatMayBe 54 = .ok (.ireturn, 1) := by decide +kernel
