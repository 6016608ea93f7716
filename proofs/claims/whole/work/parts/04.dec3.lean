theorem dX11_init_0 : decode cX11_init 0 = .ok (.aload_n 0, 1) := by decide +kernel
theorem dX11_init_1 : decode cX11_init 1 = .ok (.invokespecial 1, 3) := by decide +kernel
theorem dX11_init_4 : decode cX11_init 4 = .ok (.aload_n 0, 1) := by decide +kernel
theorem dX11_init_5 : decode cX11_init 5 = .ok (.new 7, 3) := by decide +kernel
theorem dX11_init_8 : decode cX11_init 8 = .ok (.dup, 1) := by decide +kernel
theorem dX11_init_9 : decode cX11_init 9 = .ok (.invokespecial 9, 3) := by decide +kernel
theorem dX11_init_12 : decode cX11_init 12 = .ok (.putfield 10, 3) := by decide +kernel
theorem dX11_init_15 : decode cX11_init 15 = .ok (.aload_n 0, 1) := by decide +kernel
theorem dX11_init_16 : decode cX11_init 16 = .ok (.new 16, 3) := by decide +kernel
theorem dX11_init_19 : decode cX11_init 19 = .ok (.dup, 1) := by decide +kernel
theorem dX11_init_20 : decode cX11_init 20 = .ok (.invokespecial 18, 3) := by decide +kernel
theorem dX11_init_23 : decode cX11_init 23 = .ok (.putfield 19, 3) := by decide +kernel
theorem dX11_init_26 : decode cX11_init 26 = .ok (.aload_n 0, 1) := by decide +kernel
theorem dX11_init_27 : decode cX11_init 27 = .ok (.new 16, 3) := by decide +kernel
theorem dX11_init_30 : decode cX11_init 30 = .ok (.dup, 1) := by decide +kernel
theorem dX11_init_31 : decode cX11_init 31 = .ok (.invokespecial 18, 3) := by decide +kernel
theorem dX11_init_34 : decode cX11_init 34 = .ok (.putfield 23, 3) := by decide +kernel
theorem dX11_init_37 : decode cX11_init 37 = .ok (.aload_n 0, 1) := by decide +kernel
theorem dX11_init_38 : decode cX11_init 38 = .ok (.new 16, 3) := by decide +kernel
theorem dX11_init_41 : decode cX11_init 41 = .ok (.dup, 1) := by decide +kernel
theorem dX11_init_42 : decode cX11_init 42 = .ok (.invokespecial 18, 3) := by decide +kernel
theorem dX11_init_45 : decode cX11_init 45 = .ok (.putfield 26, 3) := by decide +kernel
theorem dX11_init_48 : decode cX11_init 48 = .ok (.aload_n 0, 1) := by decide +kernel
theorem dX11_init_49 : decode cX11_init 49 = .ok (.new 29, 3) := by decide +kernel
theorem dX11_init_52 : decode cX11_init 52 = .ok (.dup, 1) := by decide +kernel
theorem dX11_init_53 : decode cX11_init 53 = .ok (.invokespecial 31, 3) := by decide +kernel
theorem dX11_init_56 : decode cX11_init 56 = .ok (.putfield 32, 3) := by decide +kernel
theorem dX11_init_59 : decode cX11_init 59 = .ok (.aload_n 0, 1) := by decide +kernel
theorem dX11_init_60 : decode cX11_init 60 = .ok (.new 29, 3) := by decide +kernel
theorem dX11_init_63 : decode cX11_init 63 = .ok (.dup, 1) := by decide +kernel
theorem dX11_init_64 : decode cX11_init 64 = .ok (.invokespecial 31, 3) := by decide +kernel
theorem dX11_init_67 : decode cX11_init 67 = .ok (.putfield 36, 3) := by decide +kernel
theorem dX11_init_70 : decode cX11_init 70 = .ok (.aload_n 0, 1) := by decide +kernel
theorem dX11_init_71 : decode cX11_init 71 = .ok (.new 29, 3) := by decide +kernel
theorem dX11_init_74 : decode cX11_init 74 = .ok (.dup, 1) := by decide +kernel
theorem dX11_init_75 : decode cX11_init 75 = .ok (.invokespecial 31, 3) := by decide +kernel
theorem dX11_init_78 : decode cX11_init 78 = .ok (.putfield 39, 3) := by decide +kernel
theorem dX11_init_81 : decode cX11_init 81 = .ok (.aload_n 0, 1) := by decide +kernel
theorem dX11_init_82 : decode cX11_init 82 = .ok (.new 42, 3) := by decide +kernel
theorem dX11_init_85 : decode cX11_init 85 = .ok (.dup, 1) := by decide +kernel
theorem dX11_init_86 : decode cX11_init 86 = .ok (.aload_n 0, 1) := by decide +kernel
theorem dX11_init_87 : decode cX11_init 87 = .ok (.getfield 10, 3) := by decide +kernel
theorem dX11_init_90 : decode cX11_init 90 = .ok (.invokespecial 44, 3) := by decide +kernel
theorem dX11_init_93 : decode cX11_init 93 = .ok (.putfield 47, 3) := by decide +kernel
theorem dX11_init_96 : decode cX11_init 96 = .ok (.aload_n 0, 1) := by decide +kernel
theorem dX11_init_97 : decode cX11_init 97 = .ok (.new 51, 3) := by decide +kernel
theorem dX11_init_100 : decode cX11_init 100 = .ok (.dup, 1) := by decide +kernel
theorem dX11_init_101 : decode cX11_init 101 = .ok (.aload_n 0, 1) := by decide +kernel
theorem dX11_init_102 : decode cX11_init 102 = .ok (.getfield 10, 3) := by decide +kernel
theorem dX11_init_105 : decode cX11_init 105 = .ok (.invokespecial 53, 3) := by decide +kernel
theorem dX11_init_108 : decode cX11_init 108 = .ok (.putfield 54, 3) := by decide +kernel
theorem dX11_init_111 : decode cX11_init 111 = .ok (.aload_n 0, 1) := by decide +kernel
theorem dX11_init_112 : decode cX11_init 112 = .ok (.new 58, 3) := by decide +kernel
theorem dX11_init_115 : decode cX11_init 115 = .ok (.dup, 1) := by decide +kernel
theorem dX11_init_116 : decode cX11_init 116 = .ok (.aload_n 0, 1) := by decide +kernel
theorem dX11_init_117 : decode cX11_init 117 = .ok (.getfield 19, 3) := by decide +kernel
theorem dX11_init_120 : decode cX11_init 120 = .ok (.aload_n 0, 1) := by decide +kernel
theorem dX11_init_121 : decode cX11_init 121 = .ok (.getfield 32, 3) := by decide +kernel
theorem dX11_init_124 : decode cX11_init 124 = .ok (.invokespecial 60, 3) := by decide +kernel
theorem dX11_init_127 : decode cX11_init 127 = .ok (.putfield 63, 3) := by decide +kernel
theorem dX11_init_130 : decode cX11_init 130 = .ok (.aload_n 0, 1) := by decide +kernel
theorem dX11_init_131 : decode cX11_init 131 = .ok (.new 67, 3) := by decide +kernel
theorem dX11_init_134 : decode cX11_init 134 = .ok (.dup, 1) := by decide +kernel
theorem dX11_init_135 : decode cX11_init 135 = .ok (.aload_n 0, 1) := by decide +kernel
theorem dX11_init_136 : decode cX11_init 136 = .ok (.getfield 19, 3) := by decide +kernel
theorem dX11_init_139 : decode cX11_init 139 = .ok (.invokespecial 69, 3) := by decide +kernel
theorem dX11_init_142 : decode cX11_init 142 = .ok (.putfield 72, 3) := by decide +kernel
theorem dX11_init_145 : decode cX11_init 145 = .ok (.aload_n 0, 1) := by decide +kernel
theorem dX11_init_146 : decode cX11_init 146 = .ok (.new 76, 3) := by decide +kernel
theorem dX11_init_149 : decode cX11_init 149 = .ok (.dup, 1) := by decide +kernel
theorem dX11_init_150 : decode cX11_init 150 = .ok (.aload_n 0, 1) := by decide +kernel
theorem dX11_init_151 : decode cX11_init 151 = .ok (.getfield 19, 3) := by decide +kernel
theorem dX11_init_154 : decode cX11_init 154 = .ok (.invokespecial 78, 3) := by decide +kernel
theorem dX11_init_157 : decode cX11_init 157 = .ok (.putfield 79, 3) := by decide +kernel
theorem dX11_init_160 : decode cX11_init 160 = .ok (.aload_n 0, 1) := by decide +kernel
theorem dX11_init_161 : decode cX11_init 161 = .ok (.new 83, 3) := by decide +kernel
theorem dX11_init_164 : decode cX11_init 164 = .ok (.dup, 1) := by decide +kernel
theorem dX11_init_165 : decode cX11_init 165 = .ok (.aload_n 0, 1) := by decide +kernel
theorem dX11_init_166 : decode cX11_init 166 = .ok (.getfield 19, 3) := by decide +kernel
theorem dX11_init_169 : decode cX11_init 169 = .ok (.invokespecial 85, 3) := by decide +kernel
theorem dX11_init_172 : decode cX11_init 172 = .ok (.putfield 86, 3) := by decide +kernel
theorem dX11_init_175 : decode cX11_init 175 = .ok (.aload_n 0, 1) := by decide +kernel
theorem dX11_init_176 : decode cX11_init 176 = .ok (.new 90, 3) := by decide +kernel
theorem dX11_init_179 : decode cX11_init 179 = .ok (.dup, 1) := by decide +kernel
theorem dX11_init_180 : decode cX11_init 180 = .ok (.aload_n 0, 1) := by decide +kernel
theorem dX11_init_181 : decode cX11_init 181 = .ok (.getfield 19, 3) := by decide +kernel
theorem dX11_init_184 : decode cX11_init 184 = .ok (.aload_n 0, 1) := by decide +kernel
theorem dX11_init_185 : decode cX11_init 185 = .ok (.getfield 10, 3) := by decide +kernel
theorem dX11_init_188 : decode cX11_init 188 = .ok (.invokespecial 92, 3) := by decide +kernel
theorem dX11_init_191 : decode cX11_init 191 = .ok (.putfield 95, 3) := by decide +kernel
theorem dX11_init_194 : decode cX11_init 194 = .ok (.aload_n 0, 1) := by decide +kernel
theorem dX11_init_195 : decode cX11_init 195 = .ok (.bipush 12, 2) := by decide +kernel
theorem dX11_init_197 : decode cX11_init 197 = .ok (.anewarray 16, 3) := by decide +kernel
theorem dX11_init_200 : decode cX11_init 200 = .ok (.putfield 99, 3) := by decide +kernel
theorem dX11_init_203 : decode cX11_init 203 = .ok (.iconst 0, 1) := by decide +kernel
theorem dX11_init_204 : decode cX11_init 204 = .ok (.istore_n 1, 1) := by decide +kernel
theorem dX11_init_205 : decode cX11_init 205 = .ok (.iload_n 1, 1) := by decide +kernel
theorem dX11_init_206 : decode cX11_init 206 = .ok (.bipush 12, 2) := by decide +kernel
theorem dX11_init_208 : decode cX11_init 208 = .ok (.if_icmp .ge 22, 3) := by decide +kernel
theorem dX11_init_211 : decode cX11_init 211 = .ok (.aload_n 0, 1) := by decide +kernel
theorem dX11_init_212 : decode cX11_init 212 = .ok (.getfield 99, 3) := by decide +kernel
theorem dX11_init_215 : decode cX11_init 215 = .ok (.iload_n 1, 1) := by decide +kernel
theorem dX11_init_216 : decode cX11_init 216 = .ok (.new 16, 3) := by decide +kernel
theorem dX11_init_219 : decode cX11_init 219 = .ok (.dup, 1) := by decide +kernel
theorem dX11_init_220 : decode cX11_init 220 = .ok (.invokespecial 18, 3) := by decide +kernel
theorem dX11_init_223 : decode cX11_init 223 = .ok (.aastore, 1) := by decide +kernel
theorem dX11_init_224 : decode cX11_init 224 = .ok (.iinc 1 1, 3) := by decide +kernel
theorem dX11_init_227 : decode cX11_init 227 = .ok (.goto (-22), 3) := by decide +kernel
theorem dX11_init_230 : decode cX11_init 230 = .ok (.aload_n 0, 1) := by decide +kernel
theorem dX11_init_231 : decode cX11_init 231 = .ok (.iconst (-1), 1) := by decide +kernel
theorem dX11_init_232 : decode cX11_init 232 = .ok (.putfield 103, 3) := by decide +kernel
theorem dX11_init_235 : decode cX11_init 235 = .ok (.return_, 1) := by decide +kernel
theorem dX11_feed_0 : decode cX11_feed 0 = .ok (.aload_n 0, 1) := by decide +kernel
theorem dX11_feed_1 : decode cX11_feed 1 = .ok (.getfield 10, 3) := by decide +kernel
theorem dX11_feed_4 : decode cX11_feed 4 = .ok (.getfield 107, 3) := by decide +kernel
theorem dX11_feed_7 : decode cX11_feed 7 = .ok (.bipush 20, 2) := by decide +kernel
theorem dX11_feed_9 : decode cX11_feed 9 = .ok (.iadd, 1) := by decide +kernel
theorem dX11_feed_10 : decode cX11_feed 10 = .ok (.sipush 400, 3) := by decide +kernel
theorem dX11_feed_13 : decode cX11_feed 13 = .ok (.if_icmp .le 5, 3) := by decide +kernel
theorem dX11_feed_16 : decode cX11_feed 16 = .ok (.iconst (-1), 1) := by decide +kernel
theorem dX11_feed_17 : decode cX11_feed 17 = .ok (.ireturn, 1) := by decide +kernel
theorem dX11_feed_18 : decode cX11_feed 18 = .ok (.aload_n 0, 1) := by decide +kernel
theorem dX11_feed_19 : decode cX11_feed 19 = .ok (.getfield 10, 3) := by decide +kernel
theorem dX11_feed_22 : decode cX11_feed 22 = .ok (.iload_n 1, 1) := by decide +kernel
theorem dX11_feed_23 : decode cX11_feed 23 = .ok (.invokevirtual 110, 3) := by decide +kernel
theorem dX11_feed_26 : decode cX11_feed 26 = .ok (.aload_n 0, 1) := by decide +kernel
theorem dX11_feed_27 : decode cX11_feed 27 = .ok (.getfield 10, 3) := by decide +kernel
theorem dX11_feed_30 : decode cX11_feed 30 = .ok (.iload_n 2, 1) := by decide +kernel
theorem dX11_feed_31 : decode cX11_feed 31 = .ok (.invokevirtual 110, 3) := by decide +kernel
theorem dX11_feed_34 : decode cX11_feed 34 = .ok (.aload_n 0, 1) := by decide +kernel
theorem dX11_feed_35 : decode cX11_feed 35 = .ok (.getfield 10, 3) := by decide +kernel
theorem dX11_feed_38 : decode cX11_feed 38 = .ok (.iload_n 3, 1) := by decide +kernel
theorem dX11_feed_39 : decode cX11_feed 39 = .ok (.invokevirtual 110, 3) := by decide +kernel
theorem dX11_feed_42 : decode cX11_feed 42 = .ok (.aload_n 0, 1) := by decide +kernel
theorem dX11_feed_43 : decode cX11_feed 43 = .ok (.getfield 10, 3) := by decide +kernel
theorem dX11_feed_46 : decode cX11_feed 46 = .ok (.iload 4, 2) := by decide +kernel
theorem dX11_feed_48 : decode cX11_feed 48 = .ok (.invokevirtual 110, 3) := by decide +kernel
theorem dX11_feed_51 : decode cX11_feed 51 = .ok (.aload_n 0, 1) := by decide +kernel
theorem dX11_feed_52 : decode cX11_feed 52 = .ok (.getfield 10, 3) := by decide +kernel
theorem dX11_feed_55 : decode cX11_feed 55 = .ok (.iload 5, 2) := by decide +kernel
theorem dX11_feed_57 : decode cX11_feed 57 = .ok (.invokevirtual 110, 3) := by decide +kernel
theorem dX11_feed_60 : decode cX11_feed 60 = .ok (.aload_n 0, 1) := by decide +kernel
theorem dX11_feed_61 : decode cX11_feed 61 = .ok (.getfield 10, 3) := by decide +kernel
theorem dX11_feed_64 : decode cX11_feed 64 = .ok (.getfield 107, 3) := by decide +kernel
theorem dX11_feed_67 : decode cX11_feed 67 = .ok (.ireturn, 1) := by decide +kernel
theorem dX11_end_0 : decode cX11_end 0 = .ok (.iload_n 1, 1) := by decide +kernel
theorem dX11_end_1 : decode cX11_end 1 = .ok (.ifCond .lt 14, 3) := by decide +kernel
theorem dX11_end_4 : decode cX11_end 4 = .ok (.iload_n 1, 1) := by decide +kernel
theorem dX11_end_5 : decode cX11_end 5 = .ok (.aload_n 0, 1) := by decide +kernel
theorem dX11_end_6 : decode cX11_end 6 = .ok (.getfield 10, 3) := by decide +kernel
theorem dX11_end_9 : decode cX11_end 9 = .ok (.getfield 107, 3) := by decide +kernel
theorem dX11_end_12 : decode cX11_end 12 = .ok (.if_icmp .le 5, 3) := by decide +kernel
theorem dX11_end_15 : decode cX11_end 15 = .ok (.iconst 0, 1) := by decide +kernel
theorem dX11_end_16 : decode cX11_end 16 = .ok (.ireturn, 1) := by decide +kernel
theorem dX11_end_17 : decode cX11_end 17 = .ok (.aload_n 0, 1) := by decide +kernel
theorem dX11_end_18 : decode cX11_end 18 = .ok (.getfield 10, 3) := by decide +kernel
theorem dX11_end_21 : decode cX11_end 21 = .ok (.iload_n 1, 1) := by decide +kernel
theorem dX11_end_22 : decode cX11_end 22 = .ok (.putfield 107, 3) := by decide +kernel
theorem dX11_end_25 : decode cX11_end 25 = .ok (.iconst 1, 1) := by decide +kernel
theorem dX11_end_26 : decode cX11_end 26 = .ok (.ireturn, 1) := by decide +kernel
theorem dX11_house_0 : decode cX11_house 0 = .ok (.aload_n 0, 1) := by decide +kernel
theorem dX11_house_1 : decode cX11_house 1 = .ok (.getfield 23, 3) := by decide +kernel
theorem dX11_house_4 : decode cX11_house 4 = .ok (.aload_n 0, 1) := by decide +kernel
theorem dX11_house_5 : decode cX11_house 5 = .ok (.getfield 19, 3) := by decide +kernel
theorem dX11_house_8 : decode cX11_house 8 = .ok (.invokevirtual 114, 3) := by decide +kernel
theorem dX11_house_11 : decode cX11_house 11 = .ok (.aload_n 0, 1) := by decide +kernel
theorem dX11_house_12 : decode cX11_house 12 = .ok (.getfield 47, 3) := by decide +kernel
theorem dX11_house_15 : decode cX11_house 15 = .ok (.aload_n 0, 1) := by decide +kernel
theorem dX11_house_16 : decode cX11_house 16 = .ok (.getfield 23, 3) := by decide +kernel
theorem dX11_house_19 : decode cX11_house 19 = .ok (.invokevirtual 117, 3) := by decide +kernel
theorem dX11_house_22 : decode cX11_house 22 = .ok (.istore_n 1, 1) := by decide +kernel
theorem dX11_house_23 : decode cX11_house 23 = .ok (.aload_n 0, 1) := by decide +kernel
theorem dX11_house_24 : decode cX11_house 24 = .ok (.iload_n 1, 1) := by decide +kernel
theorem dX11_house_25 : decode cX11_house 25 = .ok (.invokevirtual 121, 3) := by decide +kernel
theorem dX11_house_28 : decode cX11_house 28 = .ok (.iload_n 1, 1) := by decide +kernel
theorem dX11_house_29 : decode cX11_house 29 = .ok (.ifCond .ne 11, 3) := by decide +kernel
theorem dX11_house_32 : decode cX11_house 32 = .ok (.new 125, 3) := by decide +kernel
theorem dX11_house_35 : decode cX11_house 35 = .ok (.dup, 1) := by decide +kernel
theorem dX11_house_36 : decode cX11_house 36 = .ok (.invokespecial 127, 3) := by decide +kernel
theorem dX11_house_39 : decode cX11_house 39 = .ok (.athrow, 1) := by decide +kernel
theorem dX11_house_40 : decode cX11_house 40 = .ok (.aload_n 0, 1) := by decide +kernel
theorem dX11_house_41 : decode cX11_house 41 = .ok (.getfield 19, 3) := by decide +kernel
theorem dX11_house_44 : decode cX11_house 44 = .ok (.getfield 128, 3) := by decide +kernel
theorem dX11_house_47 : decode cX11_house 47 = .ok (.bipush 12, 2) := by decide +kernel
theorem dX11_house_49 : decode cX11_house 49 = .ok (.if_icmp .lt 11, 3) := by decide +kernel
theorem dX11_house_52 : decode cX11_house 52 = .ok (.new 131, 3) := by decide +kernel
theorem dX11_house_55 : decode cX11_house 55 = .ok (.dup, 1) := by decide +kernel
theorem dX11_house_56 : decode cX11_house 56 = .ok (.invokespecial 133, 3) := by decide +kernel
theorem dX11_house_59 : decode cX11_house 59 = .ok (.athrow, 1) := by decide +kernel
theorem dX11_house_60 : decode cX11_house 60 = .ok (.aload_n 0, 1) := by decide +kernel
theorem dX11_house_61 : decode cX11_house 61 = .ok (.getfield 19, 3) := by decide +kernel
theorem dX11_house_64 : decode cX11_house 64 = .ok (.aload_n 0, 1) := by decide +kernel
theorem dX11_house_65 : decode cX11_house 65 = .ok (.getfield 23, 3) := by decide +kernel
theorem dX11_house_68 : decode cX11_house 68 = .ok (.invokevirtual 114, 3) := by decide +kernel
theorem dX11_house_71 : decode cX11_house 71 = .ok (.aload_n 0, 1) := by decide +kernel
theorem dX11_house_72 : decode cX11_house 72 = .ok (.getfield 19, 3) := by decide +kernel
theorem dX11_house_75 : decode cX11_house 75 = .ok (.dup, 1) := by decide +kernel
theorem dX11_house_76 : decode cX11_house 76 = .ok (.getfield 128, 3) := by decide +kernel
theorem dX11_house_79 : decode cX11_house 79 = .ok (.iconst 1, 1) := by decide +kernel
theorem dX11_house_80 : decode cX11_house 80 = .ok (.iadd, 1) := by decide +kernel
theorem dX11_house_81 : decode cX11_house 81 = .ok (.putfield 128, 3) := by decide +kernel
theorem dX11_house_84 : decode cX11_house 84 = .ok (.aload_n 0, 1) := by decide +kernel
theorem dX11_house_85 : decode cX11_house 85 = .ok (.iconst 0, 1) := by decide +kernel
theorem dX11_house_86 : decode cX11_house 86 = .ok (.putfield 134, 3) := by decide +kernel
theorem dX11_house_89 : decode cX11_house 89 = .ok (.aload_n 0, 1) := by decide +kernel
theorem dX11_house_90 : decode cX11_house 90 = .ok (.getfield 19, 3) := by decide +kernel
theorem dX11_house_93 : decode cX11_house 93 = .ok (.getfield 128, 3) := by decide +kernel
theorem dX11_house_96 : decode cX11_house 96 = .ok (.ireturn, 1) := by decide +kernel
theorem dX11_law_0 : decode cX11_law 0 = .ok (.aload_n 0, 1) := by decide +kernel
theorem dX11_law_1 : decode cX11_law 1 = .ok (.getfield 54, 3) := by decide +kernel
theorem dX11_law_4 : decode cX11_law 4 = .ok (.aload_n 0, 1) := by decide +kernel
theorem dX11_law_5 : decode cX11_law 5 = .ok (.getfield 36, 3) := by decide +kernel
theorem dX11_law_8 : decode cX11_law 8 = .ok (.invokevirtual 137, 3) := by decide +kernel
theorem dX11_law_11 : decode cX11_law 11 = .ok (.istore_n 1, 1) := by decide +kernel
theorem dX11_law_12 : decode cX11_law 12 = .ok (.aload_n 0, 1) := by decide +kernel
theorem dX11_law_13 : decode cX11_law 13 = .ok (.iload_n 1, 1) := by decide +kernel
theorem dX11_law_14 : decode cX11_law 14 = .ok (.invokevirtual 121, 3) := by decide +kernel
theorem dX11_law_17 : decode cX11_law 17 = .ok (.iload_n 1, 1) := by decide +kernel
theorem dX11_law_18 : decode cX11_law 18 = .ok (.ifCond .ne 11, 3) := by decide +kernel
theorem dX11_law_21 : decode cX11_law 21 = .ok (.new 125, 3) := by decide +kernel
theorem dX11_law_24 : decode cX11_law 24 = .ok (.dup, 1) := by decide +kernel
theorem dX11_law_25 : decode cX11_law 25 = .ok (.invokespecial 127, 3) := by decide +kernel
theorem dX11_law_28 : decode cX11_law 28 = .ok (.athrow, 1) := by decide +kernel
theorem dX11_law_29 : decode cX11_law 29 = .ok (.aload_n 0, 1) := by decide +kernel
theorem dX11_law_30 : decode cX11_law 30 = .ok (.getfield 32, 3) := by decide +kernel
theorem dX11_law_33 : decode cX11_law 33 = .ok (.aload_n 0, 1) := by decide +kernel
theorem dX11_law_34 : decode cX11_law 34 = .ok (.getfield 36, 3) := by decide +kernel
theorem dX11_law_37 : decode cX11_law 37 = .ok (.invokevirtual 140, 3) := by decide +kernel
theorem dX11_law_40 : decode cX11_law 40 = .ok (.aload_n 0, 1) := by decide +kernel
theorem dX11_law_41 : decode cX11_law 41 = .ok (.iconst 0, 1) := by decide +kernel
theorem dX11_law_42 : decode cX11_law 42 = .ok (.putfield 134, 3) := by decide +kernel
theorem dX11_law_45 : decode cX11_law 45 = .ok (.aload_n 0, 1) := by decide +kernel
theorem dX11_law_46 : decode cX11_law 46 = .ok (.getfield 32, 3) := by decide +kernel
theorem dX11_law_49 : decode cX11_law 49 = .ok (.getfield 143, 3) := by decide +kernel
theorem dX11_law_52 : decode cX11_law 52 = .ok (.ireturn, 1) := by decide +kernel
theorem dX11_fault_0 : decode cX11_fault 0 = .ok (.aload_n 0, 1) := by decide +kernel
theorem dX11_fault_1 : decode cX11_fault 1 = .ok (.getfield 103, 3) := by decide +kernel
theorem dX11_fault_4 : decode cX11_fault 4 = .ok (.ireturn, 1) := by decide +kernel
theorem dX11_person_0 : decode cX11_person 0 = .ok (.aload_n 0, 1) := by decide +kernel
theorem dX11_person_1 : decode cX11_person 1 = .ok (.iload_n 1, 1) := by decide +kernel
theorem dX11_person_2 : decode cX11_person 2 = .ok (.invokevirtual 146, 3) := by decide +kernel
theorem dX11_person_5 : decode cX11_person 5 = .ok (.iload_n 2, 1) := by decide +kernel
theorem dX11_person_6 : decode cX11_person 6 = .ok (.tableswitch 122 0 7 #[46, 56, 66, 76, 86, 95, 104, 113], 46) := by decide +kernel
theorem dX11_person_52 : decode cX11_person 52 = .ok (.aload_n 0, 1) := by decide +kernel
theorem dX11_person_53 : decode cX11_person 53 = .ok (.getfield 19, 3) := by decide +kernel
theorem dX11_person_56 : decode cX11_person 56 = .ok (.getfield 149, 3) := by decide +kernel
theorem dX11_person_59 : decode cX11_person 59 = .ok (.iload_n 1, 1) := by decide +kernel
theorem dX11_person_60 : decode cX11_person 60 = .ok (.iaload, 1) := by decide +kernel
theorem dX11_person_61 : decode cX11_person 61 = .ok (.ireturn, 1) := by decide +kernel
theorem dX11_person_62 : decode cX11_person 62 = .ok (.aload_n 0, 1) := by decide +kernel
theorem dX11_person_63 : decode cX11_person 63 = .ok (.getfield 19, 3) := by decide +kernel
theorem dX11_person_66 : decode cX11_person 66 = .ok (.getfield 153, 3) := by decide +kernel
theorem dX11_person_69 : decode cX11_person 69 = .ok (.iload_n 1, 1) := by decide +kernel
theorem dX11_person_70 : decode cX11_person 70 = .ok (.iaload, 1) := by decide +kernel
theorem dX11_person_71 : decode cX11_person 71 = .ok (.ireturn, 1) := by decide +kernel
theorem dX11_person_72 : decode cX11_person 72 = .ok (.aload_n 0, 1) := by decide +kernel
theorem dX11_person_73 : decode cX11_person 73 = .ok (.getfield 19, 3) := by decide +kernel
theorem dX11_person_76 : decode cX11_person 76 = .ok (.getfield 156, 3) := by decide +kernel
theorem dX11_person_79 : decode cX11_person 79 = .ok (.iload_n 1, 1) := by decide +kernel
theorem dX11_person_80 : decode cX11_person 80 = .ok (.iaload, 1) := by decide +kernel
theorem dX11_person_81 : decode cX11_person 81 = .ok (.ireturn, 1) := by decide +kernel
theorem dX11_person_82 : decode cX11_person 82 = .ok (.aload_n 0, 1) := by decide +kernel
theorem dX11_person_83 : decode cX11_person 83 = .ok (.getfield 19, 3) := by decide +kernel
theorem dX11_person_86 : decode cX11_person 86 = .ok (.getfield 159, 3) := by decide +kernel
theorem dX11_person_89 : decode cX11_person 89 = .ok (.iload_n 1, 1) := by decide +kernel
theorem dX11_person_90 : decode cX11_person 90 = .ok (.iaload, 1) := by decide +kernel
theorem dX11_person_91 : decode cX11_person 91 = .ok (.ireturn, 1) := by decide +kernel
theorem dX11_person_92 : decode cX11_person 92 = .ok (.aload_n 0, 1) := by decide +kernel
theorem dX11_person_93 : decode cX11_person 93 = .ok (.getfield 19, 3) := by decide +kernel
theorem dX11_person_96 : decode cX11_person 96 = .ok (.iload_n 1, 1) := by decide +kernel
theorem dX11_person_97 : decode cX11_person 97 = .ok (.invokevirtual 162, 3) := by decide +kernel
theorem dX11_person_100 : decode cX11_person 100 = .ok (.ireturn, 1) := by decide +kernel
theorem dX11_person_101 : decode cX11_person 101 = .ok (.aload_n 0, 1) := by decide +kernel
theorem dX11_person_102 : decode cX11_person 102 = .ok (.getfield 72, 3) := by decide +kernel
theorem dX11_person_105 : decode cX11_person 105 = .ok (.iload_n 1, 1) := by decide +kernel
theorem dX11_person_106 : decode cX11_person 106 = .ok (.invokevirtual 166, 3) := by decide +kernel
theorem dX11_person_109 : decode cX11_person 109 = .ok (.ireturn, 1) := by decide +kernel
theorem dX11_person_110 : decode cX11_person 110 = .ok (.aload_n 0, 1) := by decide +kernel
theorem dX11_person_111 : decode cX11_person 111 = .ok (.getfield 79, 3) := by decide +kernel
theorem dX11_person_114 : decode cX11_person 114 = .ok (.iload_n 1, 1) := by decide +kernel
theorem dX11_person_115 : decode cX11_person 115 = .ok (.invokevirtual 169, 3) := by decide +kernel
theorem dX11_person_118 : decode cX11_person 118 = .ok (.ireturn, 1) := by decide +kernel
theorem dX11_person_119 : decode cX11_person 119 = .ok (.aload_n 0, 1) := by decide +kernel
theorem dX11_person_120 : decode cX11_person 120 = .ok (.getfield 19, 3) := by decide +kernel
theorem dX11_person_123 : decode cX11_person 123 = .ok (.iload_n 1, 1) := by decide +kernel
theorem dX11_person_124 : decode cX11_person 124 = .ok (.invokevirtual 172, 3) := by decide +kernel
theorem dX11_person_127 : decode cX11_person 127 = .ok (.ireturn, 1) := by decide +kernel
theorem dX11_person_128 : decode cX11_person 128 = .ok (.new 175, 3) := by decide +kernel
theorem dX11_person_131 : decode cX11_person 131 = .ok (.dup, 1) := by decide +kernel
theorem dX11_person_132 : decode cX11_person 132 = .ok (.invokespecial 177, 3) := by decide +kernel
theorem dX11_person_135 : decode cX11_person 135 = .ok (.athrow, 1) := by decide +kernel
theorem dX11_liking_0 : decode cX11_liking 0 = .ok (.aload_n 0, 1) := by decide +kernel
theorem dX11_liking_1 : decode cX11_liking 1 = .ok (.iload_n 1, 1) := by decide +kernel
theorem dX11_liking_2 : decode cX11_liking 2 = .ok (.iload_n 2, 1) := by decide +kernel
theorem dX11_liking_3 : decode cX11_liking 3 = .ok (.invokevirtual 178, 3) := by decide +kernel
theorem dX11_liking_6 : decode cX11_liking 6 = .ok (.aload_n 0, 1) := by decide +kernel
theorem dX11_liking_7 : decode cX11_liking 7 = .ok (.getfield 19, 3) := by decide +kernel
theorem dX11_liking_10 : decode cX11_liking 10 = .ok (.iload_n 1, 1) := by decide +kernel
theorem dX11_liking_11 : decode cX11_liking 11 = .ok (.iload_n 2, 1) := by decide +kernel
theorem dX11_liking_12 : decode cX11_liking 12 = .ok (.invokevirtual 182, 3) := by decide +kernel
theorem dX11_liking_15 : decode cX11_liking 15 = .ok (.ireturn, 1) := by decide +kernel
theorem dX11_bond_0 : decode cX11_bond 0 = .ok (.aload_n 0, 1) := by decide +kernel
theorem dX11_bond_1 : decode cX11_bond 1 = .ok (.iload_n 1, 1) := by decide +kernel
theorem dX11_bond_2 : decode cX11_bond 2 = .ok (.iload_n 2, 1) := by decide +kernel
theorem dX11_bond_3 : decode cX11_bond 3 = .ok (.invokevirtual 178, 3) := by decide +kernel
theorem dX11_bond_6 : decode cX11_bond 6 = .ok (.iload_n 3, 1) := by decide +kernel
theorem dX11_bond_7 : decode cX11_bond 7 = .ok (.ifCond .eq 15, 3) := by decide +kernel
theorem dX11_bond_10 : decode cX11_bond 10 = .ok (.aload_n 0, 1) := by decide +kernel
theorem dX11_bond_11 : decode cX11_bond 11 = .ok (.getfield 19, 3) := by decide +kernel
theorem dX11_bond_14 : decode cX11_bond 14 = .ok (.iload_n 1, 1) := by decide +kernel
theorem dX11_bond_15 : decode cX11_bond 15 = .ok (.iload_n 2, 1) := by decide +kernel
theorem dX11_bond_16 : decode cX11_bond 16 = .ok (.invokevirtual 186, 3) := by decide +kernel
theorem dX11_bond_19 : decode cX11_bond 19 = .ok (.goto 12, 3) := by decide +kernel
theorem dX11_bond_22 : decode cX11_bond 22 = .ok (.aload_n 0, 1) := by decide +kernel
theorem dX11_bond_23 : decode cX11_bond 23 = .ok (.getfield 19, 3) := by decide +kernel
theorem dX11_bond_26 : decode cX11_bond 26 = .ok (.iload_n 1, 1) := by decide +kernel
theorem dX11_bond_27 : decode cX11_bond 27 = .ok (.iload_n 2, 1) := by decide +kernel
theorem dX11_bond_28 : decode cX11_bond 28 = .ok (.invokevirtual 189, 3) := by decide +kernel
theorem dX11_bond_31 : decode cX11_bond 31 = .ok (.ireturn, 1) := by decide +kernel
theorem dX11_told_0 : decode cX11_told 0 = .ok (.aload_n 0, 1) := by decide +kernel
theorem dX11_told_1 : decode cX11_told 1 = .ok (.iload_n 1, 1) := by decide +kernel
theorem dX11_told_2 : decode cX11_told 2 = .ok (.iload_n 2, 1) := by decide +kernel
theorem dX11_told_3 : decode cX11_told 3 = .ok (.invokevirtual 178, 3) := by decide +kernel
theorem dX11_told_6 : decode cX11_told 6 = .ok (.aload_n 0, 1) := by decide +kernel
theorem dX11_told_7 : decode cX11_told 7 = .ok (.iload_n 3, 1) := by decide +kernel
theorem dX11_told_8 : decode cX11_told 8 = .ok (.iconst 0, 1) := by decide +kernel
theorem dX11_told_9 : decode cX11_told 9 = .ok (.iconst 3, 1) := by decide +kernel
theorem dX11_told_10 : decode cX11_told 10 = .ok (.invokevirtual 192, 3) := by decide +kernel
theorem dX11_told_13 : decode cX11_told 13 = .ok (.aload_n 0, 1) := by decide +kernel
theorem dX11_told_14 : decode cX11_told 14 = .ok (.iload 4, 2) := by decide +kernel
theorem dX11_told_16 : decode cX11_told 16 = .ok (.iconst 2, 1) := by decide +kernel
theorem dX11_told_17 : decode cX11_told 17 = .ok (.bipush 8, 2) := by decide +kernel
theorem dX11_told_19 : decode cX11_told 19 = .ok (.invokevirtual 192, 3) := by decide +kernel
theorem dX11_told_22 : decode cX11_told 22 = .ok (.iload_n 1, 1) := by decide +kernel
theorem dX11_told_23 : decode cX11_told 23 = .ok (.iload_n 2, 1) := by decide +kernel
theorem dX11_told_24 : decode cX11_told 24 = .ok (.invokestatic 196, 3) := by decide +kernel
theorem dX11_told_27 : decode cX11_told 27 = .ok (.istore 6, 2) := by decide +kernel
theorem dX11_told_29 : decode cX11_told 29 = .ok (.iload_n 1, 1) := by decide +kernel
theorem dX11_told_30 : decode cX11_told 30 = .ok (.iload_n 2, 1) := by decide +kernel
theorem dX11_told_31 : decode cX11_told 31 = .ok (.invokestatic 201, 3) := by decide +kernel
theorem dX11_told_34 : decode cX11_told 34 = .ok (.istore 7, 2) := by decide +kernel
theorem dX11_told_36 : decode cX11_told 36 = .ok (.iload 5, 2) := by decide +kernel
theorem dX11_told_38 : decode cX11_told 38 = .ok (.tableswitch 80 0 2 #[26, 45, 64], 26) := by decide +kernel
theorem dX11_told_64 : decode cX11_told 64 = .ok (.aload_n 0, 1) := by decide +kernel
theorem dX11_told_65 : decode cX11_told 65 = .ok (.getfield 32, 3) := by decide +kernel
theorem dX11_told_68 : decode cX11_told 68 = .ok (.aload_n 0, 1) := by decide +kernel
theorem dX11_told_69 : decode cX11_told 69 = .ok (.getfield 19, 3) := by decide +kernel
theorem dX11_told_72 : decode cX11_told 72 = .ok (.iload 6, 2) := by decide +kernel
theorem dX11_told_74 : decode cX11_told 74 = .ok (.iload 7, 2) := by decide +kernel
theorem dX11_told_76 : decode cX11_told 76 = .ok (.iload_n 3, 1) := by decide +kernel
theorem dX11_told_77 : decode cX11_told 77 = .ok (.iload 4, 2) := by decide +kernel
theorem dX11_told_79 : decode cX11_told 79 = .ok (.invokevirtual 204, 3) := by decide +kernel
theorem dX11_told_82 : decode cX11_told 82 = .ok (.ireturn, 1) := by decide +kernel
theorem dX11_told_83 : decode cX11_told 83 = .ok (.aload_n 0, 1) := by decide +kernel
theorem dX11_told_84 : decode cX11_told 84 = .ok (.getfield 32, 3) := by decide +kernel
theorem dX11_told_87 : decode cX11_told 87 = .ok (.aload_n 0, 1) := by decide +kernel
theorem dX11_told_88 : decode cX11_told 88 = .ok (.getfield 19, 3) := by decide +kernel
theorem dX11_told_91 : decode cX11_told 91 = .ok (.iload 6, 2) := by decide +kernel
theorem dX11_told_93 : decode cX11_told 93 = .ok (.iload 7, 2) := by decide +kernel
theorem dX11_told_95 : decode cX11_told 95 = .ok (.iload_n 3, 1) := by decide +kernel
theorem dX11_told_96 : decode cX11_told 96 = .ok (.iload 4, 2) := by decide +kernel
theorem dX11_told_98 : decode cX11_told 98 = .ok (.invokevirtual 208, 3) := by decide +kernel
theorem dX11_told_101 : decode cX11_told 101 = .ok (.ireturn, 1) := by decide +kernel
theorem dX11_told_102 : decode cX11_told 102 = .ok (.aload_n 0, 1) := by decide +kernel
theorem dX11_told_103 : decode cX11_told 103 = .ok (.getfield 32, 3) := by decide +kernel
theorem dX11_told_106 : decode cX11_told 106 = .ok (.aload_n 0, 1) := by decide +kernel
theorem dX11_told_107 : decode cX11_told 107 = .ok (.getfield 19, 3) := by decide +kernel
theorem dX11_told_110 : decode cX11_told 110 = .ok (.iload 6, 2) := by decide +kernel
theorem dX11_told_112 : decode cX11_told 112 = .ok (.iload 7, 2) := by decide +kernel
theorem dX11_told_114 : decode cX11_told 114 = .ok (.invokevirtual 211, 3) := by decide +kernel
theorem dX11_told_117 : decode cX11_told 117 = .ok (.ireturn, 1) := by decide +kernel
theorem dX11_told_118 : decode cX11_told 118 = .ok (.new 175, 3) := by decide +kernel
theorem dX11_told_121 : decode cX11_told 121 = .ok (.dup, 1) := by decide +kernel
theorem dX11_told_122 : decode cX11_told 122 = .ok (.invokespecial 177, 3) := by decide +kernel
theorem dX11_told_125 : decode cX11_told 125 = .ok (.athrow, 1) := by decide +kernel
theorem dX11_share_0 : decode cX11_share 0 = .ok (.aload_n 0, 1) := by decide +kernel
theorem dX11_share_1 : decode cX11_share 1 = .ok (.iload_n 1, 1) := by decide +kernel
theorem dX11_share_2 : decode cX11_share 2 = .ok (.iload_n 2, 1) := by decide +kernel
theorem dX11_share_3 : decode cX11_share 3 = .ok (.invokevirtual 215, 3) := by decide +kernel
theorem dX11_share_6 : decode cX11_share 6 = .ok (.aload_n 0, 1) := by decide +kernel
theorem dX11_share_7 : decode cX11_share 7 = .ok (.invokevirtual 218, 3) := by decide +kernel
theorem dX11_share_10 : decode cX11_share 10 = .ok (.aload_n 0, 1) := by decide +kernel
theorem dX11_share_11 : decode cX11_share 11 = .ok (.getfield 63, 3) := by decide +kernel
theorem dX11_share_14 : decode cX11_share 14 = .ok (.iload_n 1, 1) := by decide +kernel
theorem dX11_share_15 : decode cX11_share 15 = .ok (.aload_n 0, 1) := by decide +kernel
theorem dX11_share_16 : decode cX11_share 16 = .ok (.getfield 19, 3) := by decide +kernel
theorem dX11_share_19 : decode cX11_share 19 = .ok (.invokevirtual 221, 3) := by decide +kernel
theorem dX11_share_22 : decode cX11_share 22 = .ok (.iand, 1) := by decide +kernel
theorem dX11_share_23 : decode cX11_share 23 = .ok (.iload_n 2, 1) := by decide +kernel
theorem dX11_share_24 : decode cX11_share 24 = .ok (.iconst 1, 1) := by decide +kernel
theorem dX11_share_25 : decode cX11_share 25 = .ok (.invokevirtual 225, 3) := by decide +kernel
theorem dX11_share_28 : decode cX11_share 28 = .ok (.ireturn, 1) := by decide +kernel
theorem dX11_wash_0 : decode cX11_wash 0 = .ok (.aload_n 0, 1) := by decide +kernel
theorem dX11_wash_1 : decode cX11_wash 1 = .ok (.iload_n 1, 1) := by decide +kernel
theorem dX11_wash_2 : decode cX11_wash 2 = .ok (.iload_n 2, 1) := by decide +kernel
theorem dX11_wash_3 : decode cX11_wash 3 = .ok (.invokevirtual 178, 3) := by decide +kernel
theorem dX11_wash_6 : decode cX11_wash 6 = .ok (.aload_n 0, 1) := by decide +kernel
theorem dX11_wash_7 : decode cX11_wash 7 = .ok (.invokevirtual 218, 3) := by decide +kernel
theorem dX11_wash_10 : decode cX11_wash 10 = .ok (.aload_n 0, 1) := by decide +kernel
theorem dX11_wash_11 : decode cX11_wash 11 = .ok (.getfield 19, 3) := by decide +kernel
theorem dX11_wash_14 : decode cX11_wash 14 = .ok (.iload_n 1, 1) := by decide +kernel
theorem dX11_wash_15 : decode cX11_wash 15 = .ok (.iload_n 2, 1) := by decide +kernel
theorem dX11_wash_16 : decode cX11_wash 16 = .ok (.invokevirtual 189, 3) := by decide +kernel
theorem dX11_wash_19 : decode cX11_wash 19 = .ok (.istore_n 3, 1) := by decide +kernel
theorem dX11_wash_20 : decode cX11_wash 20 = .ok (.aload_n 0, 1) := by decide +kernel
theorem dX11_wash_21 : decode cX11_wash 21 = .ok (.getfield 19, 3) := by decide +kernel
theorem dX11_wash_24 : decode cX11_wash 24 = .ok (.iload_n 1, 1) := by decide +kernel
theorem dX11_wash_25 : decode cX11_wash 25 = .ok (.iload_n 2, 1) := by decide +kernel
theorem dX11_wash_26 : decode cX11_wash 26 = .ok (.iconst 0, 1) := by decide +kernel
theorem dX11_wash_27 : decode cX11_wash 27 = .ok (.iconst 0, 1) := by decide +kernel
theorem dX11_wash_28 : decode cX11_wash 28 = .ok (.invokevirtual 229, 3) := by decide +kernel
theorem dX11_wash_31 : decode cX11_wash 31 = .ok (.iload_n 3, 1) := by decide +kernel
theorem dX11_wash_32 : decode cX11_wash 32 = .ok (.ireturn, 1) := by decide +kernel
theorem dX11_go_0 : decode cX11_go 0 = .ok (.aload_n 0, 1) := by decide +kernel
theorem dX11_go_1 : decode cX11_go 1 = .ok (.iload_n 1, 1) := by decide +kernel
theorem dX11_go_2 : decode cX11_go 2 = .ok (.invokevirtual 146, 3) := by decide +kernel
theorem dX11_go_5 : decode cX11_go 5 = .ok (.aload_n 0, 1) := by decide +kernel
theorem dX11_go_6 : decode cX11_go 6 = .ok (.iload_n 2, 1) := by decide +kernel
theorem dX11_go_7 : decode cX11_go 7 = .ok (.invokevirtual 233, 3) := by decide +kernel
theorem dX11_go_10 : decode cX11_go 10 = .ok (.aload_n 0, 1) := by decide +kernel
theorem dX11_go_11 : decode cX11_go 11 = .ok (.invokevirtual 218, 3) := by decide +kernel
theorem dX11_go_14 : decode cX11_go 14 = .ok (.aload_n 0, 1) := by decide +kernel
theorem dX11_go_15 : decode cX11_go 15 = .ok (.getfield 19, 3) := by decide +kernel
theorem dX11_go_18 : decode cX11_go 18 = .ok (.getfield 149, 3) := by decide +kernel
theorem dX11_go_21 : decode cX11_go 21 = .ok (.iload_n 1, 1) := by decide +kernel
theorem dX11_go_22 : decode cX11_go 22 = .ok (.iaload, 1) := by decide +kernel
theorem dX11_go_23 : decode cX11_go 23 = .ok (.istore_n 3, 1) := by decide +kernel
theorem dX11_go_24 : decode cX11_go 24 = .ok (.aload_n 0, 1) := by decide +kernel
theorem dX11_go_25 : decode cX11_go 25 = .ok (.getfield 19, 3) := by decide +kernel
theorem dX11_go_28 : decode cX11_go 28 = .ok (.getfield 149, 3) := by decide +kernel
theorem dX11_go_31 : decode cX11_go 31 = .ok (.iload_n 1, 1) := by decide +kernel
theorem dX11_go_32 : decode cX11_go 32 = .ok (.iload_n 2, 1) := by decide +kernel
theorem dX11_go_33 : decode cX11_go 33 = .ok (.iastore, 1) := by decide +kernel
theorem dX11_go_34 : decode cX11_go 34 = .ok (.iload_n 3, 1) := by decide +kernel
theorem dX11_go_35 : decode cX11_go 35 = .ok (.ireturn, 1) := by decide +kernel
theorem dX11_strew_0 : decode cX11_strew 0 = .ok (.aload_n 0, 1) := by decide +kernel
theorem dX11_strew_1 : decode cX11_strew 1 = .ok (.iload_n 1, 1) := by decide +kernel
theorem dX11_strew_2 : decode cX11_strew 2 = .ok (.invokevirtual 233, 3) := by decide +kernel
theorem dX11_strew_5 : decode cX11_strew 5 = .ok (.aload_n 0, 1) := by decide +kernel
theorem dX11_strew_6 : decode cX11_strew 6 = .ok (.invokevirtual 218, 3) := by decide +kernel
theorem dX11_strew_9 : decode cX11_strew 9 = .ok (.aload_n 0, 1) := by decide +kernel
theorem dX11_strew_10 : decode cX11_strew 10 = .ok (.getfield 19, 3) := by decide +kernel
theorem dX11_strew_13 : decode cX11_strew 13 = .ok (.getfield 236, 3) := by decide +kernel
theorem dX11_strew_16 : decode cX11_strew 16 = .ok (.istore_n 3, 1) := by decide +kernel
theorem dX11_strew_17 : decode cX11_strew 17 = .ok (.aload_n 0, 1) := by decide +kernel
theorem dX11_strew_18 : decode cX11_strew 18 = .ok (.getfield 19, 3) := by decide +kernel
theorem dX11_strew_21 : decode cX11_strew 21 = .ok (.iload_n 2, 1) := by decide +kernel
theorem dX11_strew_22 : decode cX11_strew 22 = .ok (.ifCond .eq 11, 3) := by decide +kernel
theorem dX11_strew_25 : decode cX11_strew 25 = .ok (.iload_n 3, 1) := by decide +kernel
theorem dX11_strew_26 : decode cX11_strew 26 = .ok (.iconst 1, 1) := by decide +kernel
theorem dX11_strew_27 : decode cX11_strew 27 = .ok (.iload_n 1, 1) := by decide +kernel
theorem dX11_strew_28 : decode cX11_strew 28 = .ok (.ishl, 1) := by decide +kernel
theorem dX11_strew_29 : decode cX11_strew 29 = .ok (.ior, 1) := by decide +kernel
theorem dX11_strew_30 : decode cX11_strew 30 = .ok (.goto 10, 3) := by decide +kernel
theorem dX11_strew_33 : decode cX11_strew 33 = .ok (.iload_n 3, 1) := by decide +kernel
theorem dX11_strew_34 : decode cX11_strew 34 = .ok (.iconst 1, 1) := by decide +kernel
theorem dX11_strew_35 : decode cX11_strew 35 = .ok (.iload_n 1, 1) := by decide +kernel
theorem dX11_strew_36 : decode cX11_strew 36 = .ok (.ishl, 1) := by decide +kernel
theorem dX11_strew_37 : decode cX11_strew 37 = .ok (.iconst (-1), 1) := by decide +kernel
theorem dX11_strew_38 : decode cX11_strew 38 = .ok (.ixor, 1) := by decide +kernel
theorem dX11_strew_39 : decode cX11_strew 39 = .ok (.iand, 1) := by decide +kernel
theorem dX11_strew_40 : decode cX11_strew 40 = .ok (.putfield 236, 3) := by decide +kernel
theorem dX11_strew_43 : decode cX11_strew 43 = .ok (.aload_n 0, 1) := by decide +kernel
theorem dX11_strew_44 : decode cX11_strew 44 = .ok (.getfield 19, 3) := by decide +kernel
theorem dX11_strew_47 : decode cX11_strew 47 = .ok (.getfield 236, 3) := by decide +kernel
theorem dX11_strew_50 : decode cX11_strew 50 = .ok (.iload_n 3, 1) := by decide +kernel
theorem dX11_strew_51 : decode cX11_strew 51 = .ok (.if_icmp .eq 7, 3) := by decide +kernel
theorem dX11_strew_54 : decode cX11_strew 54 = .ok (.iconst 1, 1) := by decide +kernel
theorem dX11_strew_55 : decode cX11_strew 55 = .ok (.goto 4, 3) := by decide +kernel
theorem dX11_strew_58 : decode cX11_strew 58 = .ok (.iconst 0, 1) := by decide +kernel
theorem dX11_strew_59 : decode cX11_strew 59 = .ok (.ireturn, 1) := by decide +kernel
theorem dX11_wed_0 : decode cX11_wed 0 = .ok (.aload_n 0, 1) := by decide +kernel
theorem dX11_wed_1 : decode cX11_wed 1 = .ok (.iload_n 1, 1) := by decide +kernel
theorem dX11_wed_2 : decode cX11_wed 2 = .ok (.iload_n 2, 1) := by decide +kernel
theorem dX11_wed_3 : decode cX11_wed 3 = .ok (.invokevirtual 178, 3) := by decide +kernel
theorem dX11_wed_6 : decode cX11_wed 6 = .ok (.aload_n 0, 1) := by decide +kernel
theorem dX11_wed_7 : decode cX11_wed 7 = .ok (.getfield 19, 3) := by decide +kernel
theorem dX11_wed_10 : decode cX11_wed 10 = .ok (.getfield 153, 3) := by decide +kernel
theorem dX11_wed_13 : decode cX11_wed 13 = .ok (.iload_n 1, 1) := by decide +kernel
theorem dX11_wed_14 : decode cX11_wed 14 = .ok (.iaload, 1) := by decide +kernel
theorem dX11_wed_15 : decode cX11_wed 15 = .ok (.iconst (-1), 1) := by decide +kernel
theorem dX11_wed_16 : decode cX11_wed 16 = .ok (.if_icmp .ne 16, 3) := by decide +kernel
theorem dX11_wed_19 : decode cX11_wed 19 = .ok (.aload_n 0, 1) := by decide +kernel
theorem dX11_wed_20 : decode cX11_wed 20 = .ok (.getfield 19, 3) := by decide +kernel
theorem dX11_wed_23 : decode cX11_wed 23 = .ok (.getfield 153, 3) := by decide +kernel
theorem dX11_wed_26 : decode cX11_wed 26 = .ok (.iload_n 2, 1) := by decide +kernel
theorem dX11_wed_27 : decode cX11_wed 27 = .ok (.iaload, 1) := by decide +kernel
theorem dX11_wed_28 : decode cX11_wed 28 = .ok (.iconst (-1), 1) := by decide +kernel
theorem dX11_wed_29 : decode cX11_wed 29 = .ok (.if_icmp .eq 11, 3) := by decide +kernel
theorem dX11_wed_32 : decode cX11_wed 32 = .ok (.new 239, 3) := by decide +kernel
theorem dX11_wed_35 : decode cX11_wed 35 = .ok (.dup, 1) := by decide +kernel
theorem dX11_wed_36 : decode cX11_wed 36 = .ok (.invokespecial 241, 3) := by decide +kernel
theorem dX11_wed_39 : decode cX11_wed 39 = .ok (.athrow, 1) := by decide +kernel
theorem dX11_wed_40 : decode cX11_wed 40 = .ok (.aload_n 0, 1) := by decide +kernel
theorem dX11_wed_41 : decode cX11_wed 41 = .ok (.invokevirtual 218, 3) := by decide +kernel
theorem dX11_wed_44 : decode cX11_wed 44 = .ok (.aload_n 0, 1) := by decide +kernel
theorem dX11_wed_45 : decode cX11_wed 45 = .ok (.getfield 19, 3) := by decide +kernel
theorem dX11_wed_48 : decode cX11_wed 48 = .ok (.iload_n 1, 1) := by decide +kernel
theorem dX11_wed_49 : decode cX11_wed 49 = .ok (.iload_n 2, 1) := by decide +kernel
theorem dX11_wed_50 : decode cX11_wed 50 = .ok (.invokevirtual 242, 3) := by decide +kernel
theorem dX11_wed_53 : decode cX11_wed 53 = .ok (.return_, 1) := by decide +kernel
theorem dX11_clear_0 : decode cX11_clear 0 = .ok (.aload_n 0, 1) := by decide +kernel
theorem dX11_clear_1 : decode cX11_clear 1 = .ok (.iload_n 1, 1) := by decide +kernel
theorem dX11_clear_2 : decode cX11_clear 2 = .ok (.invokevirtual 146, 3) := by decide +kernel
theorem dX11_clear_5 : decode cX11_clear 5 = .ok (.aload_n 0, 1) := by decide +kernel
theorem dX11_clear_6 : decode cX11_clear 6 = .ok (.invokevirtual 218, 3) := by decide +kernel
theorem dX11_clear_9 : decode cX11_clear 9 = .ok (.aload_n 0, 1) := by decide +kernel
theorem dX11_clear_10 : decode cX11_clear 10 = .ok (.getfield 19, 3) := by decide +kernel
theorem dX11_clear_13 : decode cX11_clear 13 = .ok (.getfield 156, 3) := by decide +kernel
theorem dX11_clear_16 : decode cX11_clear 16 = .ok (.iload_n 1, 1) := by decide +kernel
theorem dX11_clear_17 : decode cX11_clear 17 = .ok (.iaload, 1) := by decide +kernel
theorem dX11_clear_18 : decode cX11_clear 18 = .ok (.istore_n 2, 1) := by decide +kernel
theorem dX11_clear_19 : decode cX11_clear 19 = .ok (.aload_n 0, 1) := by decide +kernel
theorem dX11_clear_20 : decode cX11_clear 20 = .ok (.getfield 19, 3) := by decide +kernel
theorem dX11_clear_23 : decode cX11_clear 23 = .ok (.getfield 156, 3) := by decide +kernel
theorem dX11_clear_26 : decode cX11_clear 26 = .ok (.iload_n 1, 1) := by decide +kernel
theorem dX11_clear_27 : decode cX11_clear 27 = .ok (.iconst 0, 1) := by decide +kernel
theorem dX11_clear_28 : decode cX11_clear 28 = .ok (.iastore, 1) := by decide +kernel
theorem dX11_clear_29 : decode cX11_clear 29 = .ok (.iload_n 2, 1) := by decide +kernel
theorem dX11_clear_30 : decode cX11_clear 30 = .ok (.ireturn, 1) := by decide +kernel
theorem dX11_days_0 : decode cX11_days 0 = .ok (.aload_n 0, 1) := by decide +kernel
theorem dX11_days_1 : decode cX11_days 1 = .ok (.iload_n 1, 1) := by decide +kernel
theorem dX11_days_2 : decode cX11_days 2 = .ok (.iconst 1, 1) := by decide +kernel
theorem dX11_days_3 : decode cX11_days 3 = .ok (.bipush 60, 2) := by decide +kernel
theorem dX11_days_5 : decode cX11_days 5 = .ok (.invokevirtual 192, 3) := by decide +kernel
theorem dX11_days_8 : decode cX11_days 8 = .ok (.aload_n 0, 1) := by decide +kernel
theorem dX11_days_9 : decode cX11_days 9 = .ok (.invokevirtual 218, 3) := by decide +kernel
theorem dX11_days_12 : decode cX11_days 12 = .ok (.aload_n 0, 1) := by decide +kernel
theorem dX11_days_13 : decode cX11_days 13 = .ok (.getfield 19, 3) := by decide +kernel
theorem dX11_days_16 : decode cX11_days 16 = .ok (.getfield 245, 3) := by decide +kernel
theorem dX11_days_19 : decode cX11_days 19 = .ok (.istore_n 2, 1) := by decide +kernel
theorem dX11_days_20 : decode cX11_days 20 = .ok (.aload_n 0, 1) := by decide +kernel
theorem dX11_days_21 : decode cX11_days 21 = .ok (.getfield 19, 3) := by decide +kernel
theorem dX11_days_24 : decode cX11_days 24 = .ok (.aload_n 0, 1) := by decide +kernel
theorem dX11_days_25 : decode cX11_days 25 = .ok (.getfield 32, 3) := by decide +kernel
theorem dX11_days_28 : decode cX11_days 28 = .ok (.iload_n 1, 1) := by decide +kernel
theorem dX11_days_29 : decode cX11_days 29 = .ok (.iconst 1, 1) := by decide +kernel
theorem dX11_days_30 : decode cX11_days 30 = .ok (.invokestatic 248, 3) := by decide +kernel
theorem dX11_days_33 : decode cX11_days 33 = .ok (.pop, 1) := by decide +kernel
theorem dX11_days_34 : decode cX11_days 34 = .ok (.aload_n 0, 1) := by decide +kernel
theorem dX11_days_35 : decode cX11_days 35 = .ok (.getfield 19, 3) := by decide +kernel
theorem dX11_days_38 : decode cX11_days 38 = .ok (.getfield 245, 3) := by decide +kernel
theorem dX11_days_41 : decode cX11_days 41 = .ok (.iload_n 2, 1) := by decide +kernel
theorem dX11_days_42 : decode cX11_days 42 = .ok (.isub, 1) := by decide +kernel
theorem dX11_days_43 : decode cX11_days 43 = .ok (.ireturn, 1) := by decide +kernel
theorem dX11_circles_0 : decode cX11_circles 0 = .ok (.aload_n 0, 1) := by decide +kernel
theorem dX11_circles_1 : decode cX11_circles 1 = .ok (.getfield 72, 3) := by decide +kernel
theorem dX11_circles_4 : decode cX11_circles 4 = .ok (.invokevirtual 254, 3) := by decide +kernel
theorem dX11_circles_7 : decode cX11_circles 7 = .ok (.ireturn, 1) := by decide +kernel
theorem dX11_ends_0 : decode cX11_ends 0 = .ok (.aload_n 0, 1) := by decide +kernel
theorem dX11_ends_1 : decode cX11_ends 1 = .ok (.getfield 72, 3) := by decide +kernel
theorem dX11_ends_4 : decode cX11_ends 4 = .ok (.invokevirtual 257, 3) := by decide +kernel
theorem dX11_ends_7 : decode cX11_ends 7 = .ok (.ireturn, 1) := by decide +kernel
theorem dX11_free_0 : decode cX11_free 0 = .ok (.aload_n 0, 1) := by decide +kernel
theorem dX11_free_1 : decode cX11_free 1 = .ok (.iload_n 1, 1) := by decide +kernel
theorem dX11_free_2 : decode cX11_free 2 = .ok (.iconst 0, 1) := by decide +kernel
theorem dX11_free_3 : decode cX11_free 3 = .ok (.sipush 9999, 3) := by decide +kernel
theorem dX11_free_6 : decode cX11_free 6 = .ok (.invokevirtual 192, 3) := by decide +kernel
theorem dX11_free_9 : decode cX11_free 9 = .ok (.aload_n 0, 1) := by decide +kernel
theorem dX11_free_10 : decode cX11_free 10 = .ok (.getfield 72, 3) := by decide +kernel
theorem dX11_free_13 : decode cX11_free 13 = .ok (.iload_n 1, 1) := by decide +kernel
theorem dX11_free_14 : decode cX11_free 14 = .ok (.invokevirtual 260, 3) := by decide +kernel
theorem dX11_free_17 : decode cX11_free 17 = .ok (.ireturn, 1) := by decide +kernel
theorem dX11_secrets_0 : decode cX11_secrets 0 = .ok (.aload_n 0, 1) := by decide +kernel
theorem dX11_secrets_1 : decode cX11_secrets 1 = .ok (.getfield 72, 3) := by decide +kernel
theorem dX11_secrets_4 : decode cX11_secrets 4 = .ok (.invokevirtual 263, 3) := by decide +kernel
theorem dX11_secrets_7 : decode cX11_secrets 7 = .ok (.ireturn, 1) := by decide +kernel
theorem dX11_would_0 : decode cX11_would 0 = .ok (.aload_n 0, 1) := by decide +kernel
theorem dX11_would_1 : decode cX11_would 1 = .ok (.iload_n 1, 1) := by decide +kernel
theorem dX11_would_2 : decode cX11_would 2 = .ok (.iload_n 2, 1) := by decide +kernel
theorem dX11_would_3 : decode cX11_would 3 = .ok (.invokevirtual 215, 3) := by decide +kernel
theorem dX11_would_6 : decode cX11_would 6 = .ok (.aload_n 0, 1) := by decide +kernel
theorem dX11_would_7 : decode cX11_would 7 = .ok (.getfield 63, 3) := by decide +kernel
theorem dX11_would_10 : decode cX11_would 10 = .ok (.iload_n 1, 1) := by decide +kernel
theorem dX11_would_11 : decode cX11_would 11 = .ok (.aload_n 0, 1) := by decide +kernel
theorem dX11_would_12 : decode cX11_would 12 = .ok (.getfield 19, 3) := by decide +kernel
theorem dX11_would_15 : decode cX11_would 15 = .ok (.invokevirtual 221, 3) := by decide +kernel
theorem dX11_would_18 : decode cX11_would 18 = .ok (.iand, 1) := by decide +kernel
theorem dX11_would_19 : decode cX11_would 19 = .ok (.iload_n 2, 1) := by decide +kernel
theorem dX11_would_20 : decode cX11_would 20 = .ok (.iconst 0, 1) := by decide +kernel
theorem dX11_would_21 : decode cX11_would 21 = .ok (.invokevirtual 225, 3) := by decide +kernel
theorem dX11_would_24 : decode cX11_would 24 = .ok (.ireturn, 1) := by decide +kernel
theorem dX11_widest_0 : decode cX11_widest 0 = .ok (.aload_n 0, 1) := by decide +kernel
theorem dX11_widest_1 : decode cX11_widest 1 = .ok (.iload_n 1, 1) := by decide +kernel
theorem dX11_widest_2 : decode cX11_widest 2 = .ok (.iconst 0, 1) := by decide +kernel
theorem dX11_widest_3 : decode cX11_widest 3 = .ok (.iconst 3, 1) := by decide +kernel
theorem dX11_widest_4 : decode cX11_widest 4 = .ok (.invokevirtual 192, 3) := by decide +kernel
theorem dX11_widest_7 : decode cX11_widest 7 = .ok (.aload_n 0, 1) := by decide +kernel
theorem dX11_widest_8 : decode cX11_widest 8 = .ok (.iload_n 2, 1) := by decide +kernel
theorem dX11_widest_9 : decode cX11_widest 9 = .ok (.iconst 2, 1) := by decide +kernel
theorem dX11_widest_10 : decode cX11_widest 10 = .ok (.bipush 8, 2) := by decide +kernel
theorem dX11_widest_12 : decode cX11_widest 12 = .ok (.invokevirtual 192, 3) := by decide +kernel
theorem dX11_widest_15 : decode cX11_widest 15 = .ok (.aload_n 0, 1) := by decide +kernel
theorem dX11_widest_16 : decode cX11_widest 16 = .ok (.getfield 63, 3) := by decide +kernel
theorem dX11_widest_19 : decode cX11_widest 19 = .ok (.iload_n 1, 1) := by decide +kernel
theorem dX11_widest_20 : decode cX11_widest 20 = .ok (.iload_n 2, 1) := by decide +kernel
theorem dX11_widest_21 : decode cX11_widest 21 = .ok (.invokevirtual 266, 3) := by decide +kernel
theorem dX11_widest_24 : decode cX11_widest 24 = .ok (.ireturn, 1) := by decide +kernel
theorem dX11_parts_0 : decode cX11_parts 0 = .ok (.aload_n 0, 1) := by decide +kernel
theorem dX11_parts_1 : decode cX11_parts 1 = .ok (.iload_n 1, 1) := by decide +kernel
theorem dX11_parts_2 : decode cX11_parts 2 = .ok (.iload_n 2, 1) := by decide +kernel
theorem dX11_parts_3 : decode cX11_parts 3 = .ok (.invokevirtual 178, 3) := by decide +kernel
theorem dX11_parts_6 : decode cX11_parts 6 = .ok (.aload_n 0, 1) := by decide +kernel
theorem dX11_parts_7 : decode cX11_parts 7 = .ok (.getfield 72, 3) := by decide +kernel
theorem dX11_parts_10 : decode cX11_parts 10 = .ok (.iload_n 1, 1) := by decide +kernel
theorem dX11_parts_11 : decode cX11_parts 11 = .ok (.iload_n 2, 1) := by decide +kernel
theorem dX11_parts_12 : decode cX11_parts 12 = .ok (.invokevirtual 269, 3) := by decide +kernel
theorem dX11_parts_15 : decode cX11_parts 15 = .ok (.ireturn, 1) := by decide +kernel
theorem dX11_lovers_0 : decode cX11_lovers 0 = .ok (.iload_n 1, 1) := by decide +kernel
theorem dX11_lovers_1 : decode cX11_lovers 1 = .ok (.ifCond .eq 13, 3) := by decide +kernel
theorem dX11_lovers_4 : decode cX11_lovers 4 = .ok (.aload_n 0, 1) := by decide +kernel
theorem dX11_lovers_5 : decode cX11_lovers 5 = .ok (.getfield 79, 3) := by decide +kernel
theorem dX11_lovers_8 : decode cX11_lovers 8 = .ok (.invokevirtual 272, 3) := by decide +kernel
theorem dX11_lovers_11 : decode cX11_lovers 11 = .ok (.goto 10, 3) := by decide +kernel
theorem dX11_lovers_14 : decode cX11_lovers 14 = .ok (.aload_n 0, 1) := by decide +kernel
theorem dX11_lovers_15 : decode cX11_lovers 15 = .ok (.getfield 79, 3) := by decide +kernel
theorem dX11_lovers_18 : decode cX11_lovers 18 = .ok (.invokevirtual 275, 3) := by decide +kernel
theorem dX11_lovers_21 : decode cX11_lovers 21 = .ok (.ireturn, 1) := by decide +kernel
theorem dX11_steady_0 : decode cX11_steady 0 = .ok (.iload_n 1, 1) := by decide +kernel
theorem dX11_steady_1 : decode cX11_steady 1 = .ok (.iconst (-1), 1) := by decide +kernel
theorem dX11_steady_2 : decode cX11_steady 2 = .ok (.if_icmp .eq 8, 3) := by decide +kernel
theorem dX11_steady_5 : decode cX11_steady 5 = .ok (.aload_n 0, 1) := by decide +kernel
theorem dX11_steady_6 : decode cX11_steady 6 = .ok (.iload_n 1, 1) := by decide +kernel
theorem dX11_steady_7 : decode cX11_steady 7 = .ok (.invokevirtual 146, 3) := by decide +kernel
theorem dX11_steady_10 : decode cX11_steady 10 = .ok (.aload_n 0, 1) := by decide +kernel
theorem dX11_steady_11 : decode cX11_steady 11 = .ok (.getfield 79, 3) := by decide +kernel
theorem dX11_steady_14 : decode cX11_steady 14 = .ok (.invokevirtual 278, 3) := by decide +kernel
theorem dX11_steady_17 : decode cX11_steady 17 = .ok (.iload_n 1, 1) := by decide +kernel
theorem dX11_steady_18 : decode cX11_steady 18 = .ok (.iconst (-1), 1) := by decide +kernel
theorem dX11_steady_19 : decode cX11_steady 19 = .ok (.if_icmp .ne 11, 3) := by decide +kernel
theorem dX11_steady_22 : decode cX11_steady 22 = .ok (.aload_n 0, 1) := by decide +kernel
theorem dX11_steady_23 : decode cX11_steady 23 = .ok (.getfield 79, 3) := by decide +kernel
theorem dX11_steady_26 : decode cX11_steady 26 = .ok (.getfield 281, 3) := by decide +kernel
theorem dX11_steady_29 : decode cX11_steady 29 = .ok (.ireturn, 1) := by decide +kernel
theorem dX11_steady_30 : decode cX11_steady 30 = .ok (.aload_n 0, 1) := by decide +kernel
theorem dX11_steady_31 : decode cX11_steady 31 = .ok (.getfield 79, 3) := by decide +kernel
theorem dX11_steady_34 : decode cX11_steady 34 = .ok (.getfield 281, 3) := by decide +kernel
theorem dX11_steady_37 : decode cX11_steady 37 = .ok (.ifCond .ne 7, 3) := by decide +kernel
theorem dX11_steady_40 : decode cX11_steady 40 = .ok (.iconst (-1), 1) := by decide +kernel
theorem dX11_steady_41 : decode cX11_steady 41 = .ok (.goto 12, 3) := by decide +kernel
theorem dX11_steady_44 : decode cX11_steady 44 = .ok (.aload_n 0, 1) := by decide +kernel
theorem dX11_steady_45 : decode cX11_steady 45 = .ok (.getfield 79, 3) := by decide +kernel
theorem dX11_steady_48 : decode cX11_steady 48 = .ok (.getfield 284, 3) := by decide +kernel
theorem dX11_steady_51 : decode cX11_steady 51 = .ok (.iload_n 1, 1) := by decide +kernel
theorem dX11_steady_52 : decode cX11_steady 52 = .ok (.iaload, 1) := by decide +kernel
theorem dX11_steady_53 : decode cX11_steady 53 = .ok (.ireturn, 1) := by decide +kernel
theorem dX11_fondest_0 : decode cX11_fondest 0 = .ok (.aload_n 0, 1) := by decide +kernel
theorem dX11_fondest_1 : decode cX11_fondest 1 = .ok (.getfield 79, 3) := by decide +kernel
theorem dX11_fondest_4 : decode cX11_fondest 4 = .ok (.invokevirtual 287, 3) := by decide +kernel
theorem dX11_fondest_7 : decode cX11_fondest 7 = .ok (.ireturn, 1) := by decide +kernel
theorem dX11_tell_0 : decode cX11_tell 0 = .ok (.aload_n 0, 1) := by decide +kernel
theorem dX11_tell_1 : decode cX11_tell 1 = .ok (.getfield 72, 3) := by decide +kernel
theorem dX11_tell_4 : decode cX11_tell 4 = .ok (.invokevirtual 290, 3) := by decide +kernel
theorem dX11_tell_7 : decode cX11_tell 7 = .ok (.ireturn, 1) := by decide +kernel
theorem dX11_between_0 : decode cX11_between 0 = .ok (.aload_n 0, 1) := by decide +kernel
theorem dX11_between_1 : decode cX11_between 1 = .ok (.iload_n 1, 1) := by decide +kernel
theorem dX11_between_2 : decode cX11_between 2 = .ok (.invokevirtual 146, 3) := by decide +kernel
theorem dX11_between_5 : decode cX11_between 5 = .ok (.aload_n 0, 1) := by decide +kernel
theorem dX11_between_6 : decode cX11_between 6 = .ok (.iload_n 2, 1) := by decide +kernel
theorem dX11_between_7 : decode cX11_between 7 = .ok (.invokevirtual 146, 3) := by decide +kernel
theorem dX11_between_10 : decode cX11_between 10 = .ok (.aload_n 0, 1) := by decide +kernel
theorem dX11_between_11 : decode cX11_between 11 = .ok (.getfield 72, 3) := by decide +kernel
theorem dX11_between_14 : decode cX11_between 14 = .ok (.iload_n 1, 1) := by decide +kernel
theorem dX11_between_15 : decode cX11_between 15 = .ok (.iload_n 2, 1) := by decide +kernel
theorem dX11_between_16 : decode cX11_between 16 = .ok (.invokevirtual 293, 3) := by decide +kernel
theorem dX11_between_19 : decode cX11_between 19 = .ok (.ireturn, 1) := by decide +kernel
theorem dX11_hub_0 : decode cX11_hub 0 = .ok (.aload_n 0, 1) := by decide +kernel
theorem dX11_hub_1 : decode cX11_hub 1 = .ok (.getfield 72, 3) := by decide +kernel
theorem dX11_hub_4 : decode cX11_hub 4 = .ok (.invokevirtual 296, 3) := by decide +kernel
theorem dX11_hub_7 : decode cX11_hub 7 = .ok (.ireturn, 1) := by decide +kernel
theorem dX11_drank_0 : decode cX11_drank 0 = .ok (.aload_n 0, 1) := by decide +kernel
theorem dX11_drank_1 : decode cX11_drank 1 = .ok (.invokevirtual 299, 3) := by decide +kernel
theorem dX11_drank_4 : decode cX11_drank 4 = .ok (.iload_n 1, 1) := by decide +kernel
theorem dX11_drank_5 : decode cX11_drank 5 = .ok (.ifCond .eq 13, 3) := by decide +kernel
theorem dX11_drank_8 : decode cX11_drank 8 = .ok (.aload_n 0, 1) := by decide +kernel
theorem dX11_drank_9 : decode cX11_drank 9 = .ok (.getfield 95, 3) := by decide +kernel
theorem dX11_drank_12 : decode cX11_drank 12 = .ok (.getfield 302, 3) := by decide +kernel
theorem dX11_drank_15 : decode cX11_drank 15 = .ok (.goto 10, 3) := by decide +kernel
theorem dX11_drank_18 : decode cX11_drank 18 = .ok (.aload_n 0, 1) := by decide +kernel
theorem dX11_drank_19 : decode cX11_drank 19 = .ok (.getfield 95, 3) := by decide +kernel
theorem dX11_drank_22 : decode cX11_drank 22 = .ok (.getfield 305, 3) := by decide +kernel
theorem dX11_drank_25 : decode cX11_drank 25 = .ok (.ireturn, 1) := by decide +kernel
theorem dX11_look_0 : decode cX11_look 0 = .ok (.aload_n 0, 1) := by decide +kernel
theorem dX11_look_1 : decode cX11_look 1 = .ok (.invokevirtual 299, 3) := by decide +kernel
theorem dX11_look_4 : decode cX11_look 4 = .ok (.aload_n 0, 1) := by decide +kernel
theorem dX11_look_5 : decode cX11_look 5 = .ok (.getfield 95, 3) := by decide +kernel
theorem dX11_look_8 : decode cX11_look 8 = .ok (.invokevirtual 308, 3) := by decide +kernel
theorem dX11_look_11 : decode cX11_look 11 = .ok (.ireturn, 1) := by decide +kernel
theorem dX11_way_0 : decode cX11_way 0 = .ok (.aload_n 0, 1) := by decide +kernel
theorem dX11_way_1 : decode cX11_way 1 = .ok (.iload_n 1, 1) := by decide +kernel
theorem dX11_way_2 : decode cX11_way 2 = .ok (.invokevirtual 146, 3) := by decide +kernel
theorem dX11_way_5 : decode cX11_way 5 = .ok (.aload_n 0, 1) := by decide +kernel
theorem dX11_way_6 : decode cX11_way 6 = .ok (.iload_n 2, 1) := by decide +kernel
theorem dX11_way_7 : decode cX11_way 7 = .ok (.invokevirtual 233, 3) := by decide +kernel
theorem dX11_way_10 : decode cX11_way 10 = .ok (.aload_n 0, 1) := by decide +kernel
theorem dX11_way_11 : decode cX11_way 11 = .ok (.getfield 86, 3) := by decide +kernel
theorem dX11_way_14 : decode cX11_way 14 = .ok (.aload_n 0, 1) := by decide +kernel
theorem dX11_way_15 : decode cX11_way 15 = .ok (.getfield 19, 3) := by decide +kernel
theorem dX11_way_18 : decode cX11_way 18 = .ok (.getfield 149, 3) := by decide +kernel
theorem dX11_way_21 : decode cX11_way 21 = .ok (.iload_n 1, 1) := by decide +kernel
theorem dX11_way_22 : decode cX11_way 22 = .ok (.iaload, 1) := by decide +kernel
theorem dX11_way_23 : decode cX11_way 23 = .ok (.iload_n 2, 1) := by decide +kernel
theorem dX11_way_24 : decode cX11_way 24 = .ok (.invokevirtual 311, 3) := by decide +kernel
theorem dX11_way_27 : decode cX11_way 27 = .ok (.ireturn, 1) := by decide +kernel
theorem dX11_unseen_0 : decode cX11_unseen 0 = .ok (.aload_n 0, 1) := by decide +kernel
theorem dX11_unseen_1 : decode cX11_unseen 1 = .ok (.iload_n 1, 1) := by decide +kernel
theorem dX11_unseen_2 : decode cX11_unseen 2 = .ok (.iload_n 2, 1) := by decide +kernel
theorem dX11_unseen_3 : decode cX11_unseen 3 = .ok (.invokevirtual 178, 3) := by decide +kernel
theorem dX11_unseen_6 : decode cX11_unseen 6 = .ok (.aload_n 0, 1) := by decide +kernel
theorem dX11_unseen_7 : decode cX11_unseen 7 = .ok (.getfield 86, 3) := by decide +kernel
theorem dX11_unseen_10 : decode cX11_unseen 10 = .ok (.aload_n 0, 1) := by decide +kernel
theorem dX11_unseen_11 : decode cX11_unseen 11 = .ok (.getfield 19, 3) := by decide +kernel
theorem dX11_unseen_14 : decode cX11_unseen 14 = .ok (.getfield 149, 3) := by decide +kernel
theorem dX11_unseen_17 : decode cX11_unseen 17 = .ok (.iload_n 1, 1) := by decide +kernel
theorem dX11_unseen_18 : decode cX11_unseen 18 = .ok (.iaload, 1) := by decide +kernel
theorem dX11_unseen_19 : decode cX11_unseen 19 = .ok (.aload_n 0, 1) := by decide +kernel
theorem dX11_unseen_20 : decode cX11_unseen 20 = .ok (.getfield 19, 3) := by decide +kernel
theorem dX11_unseen_23 : decode cX11_unseen 23 = .ok (.getfield 149, 3) := by decide +kernel
theorem dX11_unseen_26 : decode cX11_unseen 26 = .ok (.iload_n 2, 1) := by decide +kernel
theorem dX11_unseen_27 : decode cX11_unseen 27 = .ok (.iaload, 1) := by decide +kernel
theorem dX11_unseen_28 : decode cX11_unseen 28 = .ok (.invokevirtual 312, 3) := by decide +kernel
theorem dX11_unseen_31 : decode cX11_unseen 31 = .ok (.ireturn, 1) := by decide +kernel
theorem dX11_trap_0 : decode cX11_trap 0 = .ok (.aload_n 0, 1) := by decide +kernel
theorem dX11_trap_1 : decode cX11_trap 1 = .ok (.iload_n 1, 1) := by decide +kernel
theorem dX11_trap_2 : decode cX11_trap 2 = .ok (.iconst 1, 1) := by decide +kernel
theorem dX11_trap_3 : decode cX11_trap 3 = .ok (.bipush 6, 2) := by decide +kernel
theorem dX11_trap_5 : decode cX11_trap 5 = .ok (.invokevirtual 192, 3) := by decide +kernel
theorem dX11_trap_8 : decode cX11_trap 8 = .ok (.aload_n 0, 1) := by decide +kernel
theorem dX11_trap_9 : decode cX11_trap 9 = .ok (.getfield 86, 3) := by decide +kernel
theorem dX11_trap_12 : decode cX11_trap 12 = .ok (.iload_n 1, 1) := by decide +kernel
theorem dX11_trap_13 : decode cX11_trap 13 = .ok (.invokevirtual 315, 3) := by decide +kernel
theorem dX11_trap_16 : decode cX11_trap 16 = .ok (.istore_n 3, 1) := by decide +kernel
theorem dX11_trap_17 : decode cX11_trap 17 = .ok (.iload_n 2, 1) := by decide +kernel
theorem dX11_trap_18 : decode cX11_trap 18 = .ok (.ifCond .eq 14, 3) := by decide +kernel
theorem dX11_trap_21 : decode cX11_trap 21 = .ok (.aload_n 0, 1) := by decide +kernel
theorem dX11_trap_22 : decode cX11_trap 22 = .ok (.getfield 86, 3) := by decide +kernel
theorem dX11_trap_25 : decode cX11_trap 25 = .ok (.iload_n 3, 1) := by decide +kernel
theorem dX11_trap_26 : decode cX11_trap 26 = .ok (.invokevirtual 318, 3) := by decide +kernel
theorem dX11_trap_29 : decode cX11_trap 29 = .ok (.goto 4, 3) := by decide +kernel
theorem dX11_trap_32 : decode cX11_trap 32 = .ok (.iload_n 3, 1) := by decide +kernel
theorem dX11_trap_33 : decode cX11_trap 33 = .ok (.ireturn, 1) := by decide +kernel
theorem dX11_oath_0 : decode cX11_oath 0 = .ok (.aload_n 0, 1) := by decide +kernel
theorem dX11_oath_1 : decode cX11_oath 1 = .ok (.iload_n 1, 1) := by decide +kernel
theorem dX11_oath_2 : decode cX11_oath 2 = .ok (.invokevirtual 146, 3) := by decide +kernel
theorem dX11_oath_5 : decode cX11_oath 5 = .ok (.aload_n 0, 1) := by decide +kernel
theorem dX11_oath_6 : decode cX11_oath 6 = .ok (.getfield 19, 3) := by decide +kernel
theorem dX11_oath_9 : decode cX11_oath 9 = .ok (.getfield 159, 3) := by decide +kernel
theorem dX11_oath_12 : decode cX11_oath 12 = .ok (.iload_n 1, 1) := by decide +kernel
theorem dX11_oath_13 : decode cX11_oath 13 = .ok (.iaload, 1) := by decide +kernel
theorem dX11_oath_14 : decode cX11_oath 14 = .ok (.iload_n 2, 1) := by decide +kernel
theorem dX11_oath_15 : decode cX11_oath 15 = .ok (.iconst (-1), 1) := by decide +kernel
theorem dX11_oath_16 : decode cX11_oath 16 = .ok (.ixor, 1) := by decide +kernel
theorem dX11_oath_17 : decode cX11_oath 17 = .ok (.iand, 1) := by decide +kernel
theorem dX11_oath_18 : decode cX11_oath 18 = .ok (.ifCond .ne 7, 3) := by decide +kernel
theorem dX11_oath_21 : decode cX11_oath 21 = .ok (.iconst 1, 1) := by decide +kernel
theorem dX11_oath_22 : decode cX11_oath 22 = .ok (.goto 4, 3) := by decide +kernel
theorem dX11_oath_25 : decode cX11_oath 25 = .ok (.iconst 0, 1) := by decide +kernel
theorem dX11_oath_26 : decode cX11_oath 26 = .ok (.ireturn, 1) := by decide +kernel
theorem dX11_shortest_0 : decode cX11_shortest 0 = .ok (.aload_n 0, 1) := by decide +kernel
theorem dX11_shortest_1 : decode cX11_shortest 1 = .ok (.iload_n 1, 1) := by decide +kernel
theorem dX11_shortest_2 : decode cX11_shortest 2 = .ok (.invokevirtual 146, 3) := by decide +kernel
theorem dX11_shortest_5 : decode cX11_shortest 5 = .ok (.aload_n 0, 1) := by decide +kernel
theorem dX11_shortest_6 : decode cX11_shortest 6 = .ok (.getfield 19, 3) := by decide +kernel
theorem dX11_shortest_9 : decode cX11_shortest 9 = .ok (.getfield 159, 3) := by decide +kernel
theorem dX11_shortest_12 : decode cX11_shortest 12 = .ok (.iload_n 1, 1) := by decide +kernel
theorem dX11_shortest_13 : decode cX11_shortest 13 = .ok (.iaload, 1) := by decide +kernel
theorem dX11_shortest_14 : decode cX11_shortest 14 = .ok (.invokestatic 321, 3) := by decide +kernel
theorem dX11_shortest_17 : decode cX11_shortest 17 = .ok (.ireturn, 1) := by decide +kernel
theorem dX11_alibi_0 : decode cX11_alibi 0 = .ok (.aload_n 0, 1) := by decide +kernel
theorem dX11_alibi_1 : decode cX11_alibi 1 = .ok (.iload_n 1, 1) := by decide +kernel
theorem dX11_alibi_2 : decode cX11_alibi 2 = .ok (.invokevirtual 146, 3) := by decide +kernel
theorem dX11_alibi_5 : decode cX11_alibi 5 = .ok (.iconst 0, 1) := by decide +kernel
theorem dX11_alibi_6 : decode cX11_alibi 6 = .ok (.istore_n 2, 1) := by decide +kernel
theorem dX11_alibi_7 : decode cX11_alibi 7 = .ok (.iconst 0, 1) := by decide +kernel
theorem dX11_alibi_8 : decode cX11_alibi 8 = .ok (.istore_n 3, 1) := by decide +kernel
theorem dX11_alibi_9 : decode cX11_alibi 9 = .ok (.iload_n 3, 1) := by decide +kernel
theorem dX11_alibi_10 : decode cX11_alibi 10 = .ok (.aload_n 0, 1) := by decide +kernel
theorem dX11_alibi_11 : decode cX11_alibi 11 = .ok (.getfield 19, 3) := by decide +kernel
theorem dX11_alibi_14 : decode cX11_alibi 14 = .ok (.getfield 326, 3) := by decide +kernel
theorem dX11_alibi_17 : decode cX11_alibi 17 = .ok (.if_icmp .ge 30, 3) := by decide +kernel
theorem dX11_alibi_20 : decode cX11_alibi 20 = .ok (.aload_n 0, 1) := by decide +kernel
theorem dX11_alibi_21 : decode cX11_alibi 21 = .ok (.getfield 19, 3) := by decide +kernel
theorem dX11_alibi_24 : decode cX11_alibi 24 = .ok (.getfield 159, 3) := by decide +kernel
theorem dX11_alibi_27 : decode cX11_alibi 27 = .ok (.iload_n 3, 1) := by decide +kernel
theorem dX11_alibi_28 : decode cX11_alibi 28 = .ok (.iaload, 1) := by decide +kernel
theorem dX11_alibi_29 : decode cX11_alibi 29 = .ok (.iconst 1, 1) := by decide +kernel
theorem dX11_alibi_30 : decode cX11_alibi 30 = .ok (.iload_n 1, 1) := by decide +kernel
theorem dX11_alibi_31 : decode cX11_alibi 31 = .ok (.ishl, 1) := by decide +kernel
theorem dX11_alibi_32 : decode cX11_alibi 32 = .ok (.if_icmp .ne 9, 3) := by decide +kernel
theorem dX11_alibi_35 : decode cX11_alibi 35 = .ok (.iload_n 2, 1) := by decide +kernel
theorem dX11_alibi_36 : decode cX11_alibi 36 = .ok (.iconst 1, 1) := by decide +kernel
theorem dX11_alibi_37 : decode cX11_alibi 37 = .ok (.iload_n 3, 1) := by decide +kernel
theorem dX11_alibi_38 : decode cX11_alibi 38 = .ok (.ishl, 1) := by decide +kernel
theorem dX11_alibi_39 : decode cX11_alibi 39 = .ok (.ior, 1) := by decide +kernel
theorem dX11_alibi_40 : decode cX11_alibi 40 = .ok (.istore_n 2, 1) := by decide +kernel
theorem dX11_alibi_41 : decode cX11_alibi 41 = .ok (.iinc 3 1, 3) := by decide +kernel
theorem dX11_alibi_44 : decode cX11_alibi 44 = .ok (.goto (-35), 3) := by decide +kernel
theorem dX11_alibi_47 : decode cX11_alibi 47 = .ok (.iload_n 2, 1) := by decide +kernel
theorem dX11_alibi_48 : decode cX11_alibi 48 = .ok (.ireturn, 1) := by decide +kernel
theorem dX11_odds_0 : decode cX11_odds 0 = .ok (.aload_n 0, 1) := by decide +kernel
theorem dX11_odds_1 : decode cX11_odds 1 = .ok (.iload_n 1, 1) := by decide +kernel
theorem dX11_odds_2 : decode cX11_odds 2 = .ok (.iload_n 2, 1) := by decide +kernel
theorem dX11_odds_3 : decode cX11_odds 3 = .ok (.invokevirtual 178, 3) := by decide +kernel
theorem dX11_odds_6 : decode cX11_odds 6 = .ok (.aload_n 0, 1) := by decide +kernel
theorem dX11_odds_7 : decode cX11_odds 7 = .ok (.getfield 19, 3) := by decide +kernel
theorem dX11_odds_10 : decode cX11_odds 10 = .ok (.iload_n 1, 1) := by decide +kernel
theorem dX11_odds_11 : decode cX11_odds 11 = .ok (.invokevirtual 329, 3) := by decide +kernel
theorem dX11_odds_14 : decode cX11_odds 14 = .ok (.aload_n 0, 1) := by decide +kernel
theorem dX11_odds_15 : decode cX11_odds 15 = .ok (.getfield 19, 3) := by decide +kernel
theorem dX11_odds_18 : decode cX11_odds 18 = .ok (.iload_n 2, 1) := by decide +kernel
theorem dX11_odds_19 : decode cX11_odds 19 = .ok (.invokevirtual 329, 3) := by decide +kernel
theorem dX11_odds_22 : decode cX11_odds 22 = .ok (.imul, 1) := by decide +kernel
theorem dX11_odds_23 : decode cX11_odds 23 = .ok (.ireturn, 1) := by decide +kernel
theorem dX11_ahead_0 : decode cX11_ahead 0 = .ok (.aload_n 0, 1) := by decide +kernel
theorem dX11_ahead_1 : decode cX11_ahead 1 = .ok (.iload_n 1, 1) := by decide +kernel
theorem dX11_ahead_2 : decode cX11_ahead 2 = .ok (.invokevirtual 146, 3) := by decide +kernel
theorem dX11_ahead_5 : decode cX11_ahead 5 = .ok (.aload_n 0, 1) := by decide +kernel
theorem dX11_ahead_6 : decode cX11_ahead 6 = .ok (.iload_n 2, 1) := by decide +kernel
theorem dX11_ahead_7 : decode cX11_ahead 7 = .ok (.iconst 0, 1) := by decide +kernel
theorem dX11_ahead_8 : decode cX11_ahead 8 = .ok (.sipush 400, 3) := by decide +kernel
theorem dX11_ahead_11 : decode cX11_ahead 11 = .ok (.invokevirtual 192, 3) := by decide +kernel
theorem dX11_ahead_14 : decode cX11_ahead 14 = .ok (.aload_n 0, 1) := by decide +kernel
theorem dX11_ahead_15 : decode cX11_ahead 15 = .ok (.getfield 23, 3) := by decide +kernel
theorem dX11_ahead_18 : decode cX11_ahead 18 = .ok (.aload_n 0, 1) := by decide +kernel
theorem dX11_ahead_19 : decode cX11_ahead 19 = .ok (.getfield 19, 3) := by decide +kernel
theorem dX11_ahead_22 : decode cX11_ahead 22 = .ok (.invokevirtual 114, 3) := by decide +kernel
theorem dX11_ahead_25 : decode cX11_ahead 25 = .ok (.aload_n 0, 1) := by decide +kernel
theorem dX11_ahead_26 : decode cX11_ahead 26 = .ok (.getfield 23, 3) := by decide +kernel
theorem dX11_ahead_29 : decode cX11_ahead 29 = .ok (.aload_n 0, 1) := by decide +kernel
theorem dX11_ahead_30 : decode cX11_ahead 30 = .ok (.getfield 32, 3) := by decide +kernel
theorem dX11_ahead_33 : decode cX11_ahead 33 = .ok (.iload_n 2, 1) := by decide +kernel
theorem dX11_ahead_34 : decode cX11_ahead 34 = .ok (.iconst 0, 1) := by decide +kernel
theorem dX11_ahead_35 : decode cX11_ahead 35 = .ok (.invokestatic 248, 3) := by decide +kernel
theorem dX11_ahead_38 : decode cX11_ahead 38 = .ok (.pop, 1) := by decide +kernel
theorem dX11_ahead_39 : decode cX11_ahead 39 = .ok (.iload_n 3, 1) := by decide +kernel
theorem dX11_ahead_40 : decode cX11_ahead 40 = .ok (.ifCond .eq 15, 3) := by decide +kernel
theorem dX11_ahead_43 : decode cX11_ahead 43 = .ok (.aload_n 0, 1) := by decide +kernel
theorem dX11_ahead_44 : decode cX11_ahead 44 = .ok (.getfield 23, 3) := by decide +kernel
theorem dX11_ahead_47 : decode cX11_ahead 47 = .ok (.getfield 156, 3) := by decide +kernel
theorem dX11_ahead_50 : decode cX11_ahead 50 = .ok (.iload_n 1, 1) := by decide +kernel
theorem dX11_ahead_51 : decode cX11_ahead 51 = .ok (.iaload, 1) := by decide +kernel
theorem dX11_ahead_52 : decode cX11_ahead 52 = .ok (.goto 12, 3) := by decide +kernel
theorem dX11_ahead_55 : decode cX11_ahead 55 = .ok (.aload_n 0, 1) := by decide +kernel
theorem dX11_ahead_56 : decode cX11_ahead 56 = .ok (.getfield 23, 3) := by decide +kernel
theorem dX11_ahead_59 : decode cX11_ahead 59 = .ok (.getfield 149, 3) := by decide +kernel
theorem dX11_ahead_62 : decode cX11_ahead 62 = .ok (.iload_n 1, 1) := by decide +kernel
theorem dX11_ahead_63 : decode cX11_ahead 63 = .ok (.iaload, 1) := by decide +kernel
theorem dX11_ahead_64 : decode cX11_ahead 64 = .ok (.ireturn, 1) := by decide +kernel
theorem dX11_calm_0 : decode cX11_calm 0 = .ok (.aload_n 0, 1) := by decide +kernel
theorem dX11_calm_1 : decode cX11_calm 1 = .ok (.iload_n 1, 1) := by decide +kernel
theorem dX11_calm_2 : decode cX11_calm 2 = .ok (.iconst 0, 1) := by decide +kernel
theorem dX11_calm_3 : decode cX11_calm 3 = .ok (.sipush 400, 3) := by decide +kernel
theorem dX11_calm_6 : decode cX11_calm 6 = .ok (.invokevirtual 192, 3) := by decide +kernel
theorem dX11_calm_9 : decode cX11_calm 9 = .ok (.aload_n 0, 1) := by decide +kernel
theorem dX11_calm_10 : decode cX11_calm 10 = .ok (.getfield 23, 3) := by decide +kernel
theorem dX11_calm_13 : decode cX11_calm 13 = .ok (.aload_n 0, 1) := by decide +kernel
theorem dX11_calm_14 : decode cX11_calm 14 = .ok (.getfield 19, 3) := by decide +kernel
theorem dX11_calm_17 : decode cX11_calm 17 = .ok (.invokevirtual 114, 3) := by decide +kernel
theorem dX11_calm_20 : decode cX11_calm 20 = .ok (.aload_n 0, 1) := by decide +kernel
theorem dX11_calm_21 : decode cX11_calm 21 = .ok (.getfield 23, 3) := by decide +kernel
theorem dX11_calm_24 : decode cX11_calm 24 = .ok (.aload_n 0, 1) := by decide +kernel
theorem dX11_calm_25 : decode cX11_calm 25 = .ok (.getfield 32, 3) := by decide +kernel
theorem dX11_calm_28 : decode cX11_calm 28 = .ok (.iload_n 1, 1) := by decide +kernel
theorem dX11_calm_29 : decode cX11_calm 29 = .ok (.iconst 0, 1) := by decide +kernel
theorem dX11_calm_30 : decode cX11_calm 30 = .ok (.invokestatic 248, 3) := by decide +kernel
theorem dX11_calm_33 : decode cX11_calm 33 = .ok (.ireturn, 1) := by decide +kernel
theorem dX11_trial_0 : decode cX11_trial 0 = .ok (.aload_n 0, 1) := by decide +kernel
theorem dX11_trial_1 : decode cX11_trial 1 = .ok (.iload_n 1, 1) := by decide +kernel
theorem dX11_trial_2 : decode cX11_trial 2 = .ok (.iconst 0, 1) := by decide +kernel
theorem dX11_trial_3 : decode cX11_trial 3 = .ok (.bipush 60, 2) := by decide +kernel
theorem dX11_trial_5 : decode cX11_trial 5 = .ok (.invokevirtual 192, 3) := by decide +kernel
theorem dX11_trial_8 : decode cX11_trial 8 = .ok (.aload_n 0, 1) := by decide +kernel
theorem dX11_trial_9 : decode cX11_trial 9 = .ok (.iload_n 1, 1) := by decide +kernel
theorem dX11_trial_10 : decode cX11_trial 10 = .ok (.aload_n 0, 1) := by decide +kernel
theorem dX11_trial_11 : decode cX11_trial 11 = .ok (.getfield 19, 3) := by decide +kernel
theorem dX11_trial_14 : decode cX11_trial 14 = .ok (.getfield 332, 3) := by decide +kernel
theorem dX11_trial_17 : decode cX11_trial 17 = .ok (.invokevirtual 335, 3) := by decide +kernel
theorem dX11_trial_20 : decode cX11_trial 20 = .ok (.istore_n 3, 1) := by decide +kernel
theorem dX11_trial_21 : decode cX11_trial 21 = .ok (.iload_n 2, 1) := by decide +kernel
theorem dX11_trial_22 : decode cX11_trial 22 = .ok (.ifCond .eq 13, 3) := by decide +kernel
theorem dX11_trial_25 : decode cX11_trial 25 = .ok (.aload_n 0, 1) := by decide +kernel
theorem dX11_trial_26 : decode cX11_trial 26 = .ok (.getfield 23, 3) := by decide +kernel
theorem dX11_trial_29 : decode cX11_trial 29 = .ok (.invokevirtual 338, 3) := by decide +kernel
theorem dX11_trial_32 : decode cX11_trial 32 = .ok (.goto 4, 3) := by decide +kernel
theorem dX11_trial_35 : decode cX11_trial 35 = .ok (.iload_n 3, 1) := by decide +kernel
theorem dX11_trial_36 : decode cX11_trial 36 = .ok (.ireturn, 1) := by decide +kernel
theorem dX11_span_0 : decode cX11_span 0 = .ok (.aload_n 0, 1) := by decide +kernel
theorem dX11_span_1 : decode cX11_span 1 = .ok (.iload_n 1, 1) := by decide +kernel
theorem dX11_span_2 : decode cX11_span 2 = .ok (.iconst 0, 1) := by decide +kernel
theorem dX11_span_3 : decode cX11_span 3 = .ok (.bipush 60, 2) := by decide +kernel
theorem dX11_span_5 : decode cX11_span 5 = .ok (.invokevirtual 192, 3) := by decide +kernel
theorem dX11_span_8 : decode cX11_span 8 = .ok (.aload_n 0, 1) := by decide +kernel
theorem dX11_span_9 : decode cX11_span 9 = .ok (.iload_n 1, 1) := by decide +kernel
theorem dX11_span_10 : decode cX11_span 10 = .ok (.iconst 1, 1) := by decide +kernel
theorem dX11_span_11 : decode cX11_span 11 = .ok (.invokevirtual 335, 3) := by decide +kernel
theorem dX11_span_14 : decode cX11_span 14 = .ok (.istore_n 3, 1) := by decide +kernel
theorem dX11_span_15 : decode cX11_span 15 = .ok (.iconst 2, 1) := by decide +kernel
theorem dX11_span_16 : decode cX11_span 16 = .ok (.istore 4, 2) := by decide +kernel
theorem dX11_span_18 : decode cX11_span 18 = .ok (.iload 4, 2) := by decide +kernel
theorem dX11_span_20 : decode cX11_span 20 = .ok (.bipush 6, 2) := by decide +kernel
theorem dX11_span_22 : decode cX11_span 22 = .ok (.if_icmp .gt 38, 3) := by decide +kernel
theorem dX11_span_25 : decode cX11_span 25 = .ok (.aload_n 0, 1) := by decide +kernel
theorem dX11_span_26 : decode cX11_span 26 = .ok (.iload_n 1, 1) := by decide +kernel
theorem dX11_span_27 : decode cX11_span 27 = .ok (.iload 4, 2) := by decide +kernel
theorem dX11_span_29 : decode cX11_span 29 = .ok (.invokevirtual 335, 3) := by decide +kernel
theorem dX11_span_32 : decode cX11_span 32 = .ok (.istore 5, 2) := by decide +kernel
theorem dX11_span_34 : decode cX11_span 34 = .ok (.iload_n 2, 1) := by decide +kernel
theorem dX11_span_35 : decode cX11_span 35 = .ok (.ifCond .eq 12, 3) := by decide +kernel
theorem dX11_span_38 : decode cX11_span 38 = .ok (.iload_n 3, 1) := by decide +kernel
theorem dX11_span_39 : decode cX11_span 39 = .ok (.iload 5, 2) := by decide +kernel
theorem dX11_span_41 : decode cX11_span 41 = .ok (.invokestatic 201, 3) := by decide +kernel
theorem dX11_span_44 : decode cX11_span 44 = .ok (.goto 9, 3) := by decide +kernel
theorem dX11_span_47 : decode cX11_span 47 = .ok (.iload_n 3, 1) := by decide +kernel
theorem dX11_span_48 : decode cX11_span 48 = .ok (.iload 5, 2) := by decide +kernel
theorem dX11_span_50 : decode cX11_span 50 = .ok (.invokestatic 196, 3) := by decide +kernel
theorem dX11_span_53 : decode cX11_span 53 = .ok (.istore_n 3, 1) := by decide +kernel
theorem dX11_span_54 : decode cX11_span 54 = .ok (.iinc 4 1, 3) := by decide +kernel
theorem dX11_span_57 : decode cX11_span 57 = .ok (.goto (-39), 3) := by decide +kernel
theorem dX11_span_60 : decode cX11_span 60 = .ok (.iload_n 3, 1) := by decide +kernel
theorem dX11_span_61 : decode cX11_span 61 = .ok (.ireturn, 1) := by decide +kernel
theorem dX11_led_0 : decode cX11_led 0 = .ok (.aload_n 0, 1) := by decide +kernel
theorem dX11_led_1 : decode cX11_led 1 = .ok (.iload_n 1, 1) := by decide +kernel
theorem dX11_led_2 : decode cX11_led 2 = .ok (.invokevirtual 146, 3) := by decide +kernel
theorem dX11_led_5 : decode cX11_led 5 = .ok (.iconst 0, 1) := by decide +kernel
theorem dX11_led_6 : decode cX11_led 6 = .ok (.istore_n 3, 1) := by decide +kernel
theorem dX11_led_7 : decode cX11_led 7 = .ok (.iconst (-1), 1) := by decide +kernel
theorem dX11_led_8 : decode cX11_led 8 = .ok (.istore 4, 2) := by decide +kernel
theorem dX11_led_10 : decode cX11_led 10 = .ok (.aload_n 0, 1) := by decide +kernel
theorem dX11_led_11 : decode cX11_led 11 = .ok (.getfield 19, 3) := by decide +kernel
theorem dX11_led_14 : decode cX11_led 14 = .ok (.invokevirtual 341, 3) := by decide +kernel
theorem dX11_led_17 : decode cX11_led 17 = .ok (.iconst 1, 1) := by decide +kernel
theorem dX11_led_18 : decode cX11_led 18 = .ok (.isub, 1) := by decide +kernel
theorem dX11_led_19 : decode cX11_led 19 = .ok (.istore 5, 2) := by decide +kernel
theorem dX11_led_21 : decode cX11_led 21 = .ok (.iload 5, 2) := by decide +kernel
theorem dX11_led_23 : decode cX11_led 23 = .ok (.ifCond .lt 40, 3) := by decide +kernel
theorem dX11_led_26 : decode cX11_led 26 = .ok (.aload_n 0, 1) := by decide +kernel
theorem dX11_led_27 : decode cX11_led 27 = .ok (.getfield 19, 3) := by decide +kernel
theorem dX11_led_30 : decode cX11_led 30 = .ok (.iload 5, 2) := by decide +kernel
theorem dX11_led_32 : decode cX11_led 32 = .ok (.invokevirtual 344, 3) := by decide +kernel
theorem dX11_led_35 : decode cX11_led 35 = .ok (.istore 6, 2) := by decide +kernel
theorem dX11_led_37 : decode cX11_led 37 = .ok (.iload 6, 2) := by decide +kernel
theorem dX11_led_39 : decode cX11_led 39 = .ok (.iload_n 1, 1) := by decide +kernel
theorem dX11_led_40 : decode cX11_led 40 = .ok (.invokestatic 347, 3) := by decide +kernel
theorem dX11_led_43 : decode cX11_led 43 = .ok (.ifCond .eq 14, 3) := by decide +kernel
theorem dX11_led_46 : decode cX11_led 46 = .ok (.iinc 3 1, 3) := by decide +kernel
theorem dX11_led_49 : decode cX11_led 49 = .ok (.iload 6, 2) := by decide +kernel
theorem dX11_led_51 : decode cX11_led 51 = .ok (.iconst 3, 1) := by decide +kernel
theorem dX11_led_52 : decode cX11_led 52 = .ok (.invokestatic 351, 3) := by decide +kernel
theorem dX11_led_55 : decode cX11_led 55 = .ok (.istore 4, 2) := by decide +kernel
theorem dX11_led_57 : decode cX11_led 57 = .ok (.iinc 5 (-1), 3) := by decide +kernel
theorem dX11_led_60 : decode cX11_led 60 = .ok (.goto (-39), 3) := by decide +kernel
theorem dX11_led_63 : decode cX11_led 63 = .ok (.iload_n 2, 1) := by decide +kernel
theorem dX11_led_64 : decode cX11_led 64 = .ok (.ifCond .eq 8, 3) := by decide +kernel
theorem dX11_led_67 : decode cX11_led 67 = .ok (.iload 4, 2) := by decide +kernel
theorem dX11_led_69 : decode cX11_led 69 = .ok (.goto 4, 3) := by decide +kernel
theorem dX11_led_72 : decode cX11_led 72 = .ok (.iload_n 3, 1) := by decide +kernel
theorem dX11_led_73 : decode cX11_led 73 = .ok (.ireturn, 1) := by decide +kernel
theorem dX11_log_0 : decode cX11_log 0 = .ok (.iload_n 2, 1) := by decide +kernel
theorem dX11_log_1 : decode cX11_log 1 = .ok (.ifCond .lt 8, 3) := by decide +kernel
theorem dX11_log_4 : decode cX11_log 4 = .ok (.iload_n 2, 1) := by decide +kernel
theorem dX11_log_5 : decode cX11_log 5 = .ok (.iconst 3, 1) := by decide +kernel
theorem dX11_log_6 : decode cX11_log 6 = .ok (.if_icmp .le 11, 3) := by decide +kernel
theorem dX11_log_9 : decode cX11_log 9 = .ok (.new 175, 3) := by decide +kernel
theorem dX11_log_12 : decode cX11_log 12 = .ok (.dup, 1) := by decide +kernel
theorem dX11_log_13 : decode cX11_log 13 = .ok (.invokespecial 177, 3) := by decide +kernel
theorem dX11_log_16 : decode cX11_log 16 = .ok (.athrow, 1) := by decide +kernel
theorem dX11_log_17 : decode cX11_log 17 = .ok (.iload_n 1, 1) := by decide +kernel
theorem dX11_log_18 : decode cX11_log 18 = .ok (.ifCond .lt 14, 3) := by decide +kernel
theorem dX11_log_21 : decode cX11_log 21 = .ok (.iload_n 1, 1) := by decide +kernel
theorem dX11_log_22 : decode cX11_log 22 = .ok (.aload_n 0, 1) := by decide +kernel
theorem dX11_log_23 : decode cX11_log 23 = .ok (.getfield 19, 3) := by decide +kernel
theorem dX11_log_26 : decode cX11_log 26 = .ok (.invokevirtual 341, 3) := by decide +kernel
theorem dX11_log_29 : decode cX11_log 29 = .ok (.if_icmp .lt 5, 3) := by decide +kernel
theorem dX11_log_32 : decode cX11_log 32 = .ok (.iconst (-1), 1) := by decide +kernel
theorem dX11_log_33 : decode cX11_log 33 = .ok (.ireturn, 1) := by decide +kernel
theorem dX11_log_34 : decode cX11_log 34 = .ok (.aload_n 0, 1) := by decide +kernel
theorem dX11_log_35 : decode cX11_log 35 = .ok (.getfield 19, 3) := by decide +kernel
theorem dX11_log_38 : decode cX11_log 38 = .ok (.iload_n 1, 1) := by decide +kernel
theorem dX11_log_39 : decode cX11_log 39 = .ok (.invokevirtual 344, 3) := by decide +kernel
theorem dX11_log_42 : decode cX11_log 42 = .ok (.iload_n 2, 1) := by decide +kernel
theorem dX11_log_43 : decode cX11_log 43 = .ok (.invokestatic 351, 3) := by decide +kernel
theorem dX11_log_46 : decode cX11_log 46 = .ok (.ireturn, 1) := by decide +kernel
theorem dX11_seed_0 : decode cX11_seed 0 = .ok (.aload_n 0, 1) := by decide +kernel
theorem dX11_seed_1 : decode cX11_seed 1 = .ok (.getfield 19, 3) := by decide +kernel
theorem dX11_seed_4 : decode cX11_seed 4 = .ok (.getfield 332, 3) := by decide +kernel
theorem dX11_seed_7 : decode cX11_seed 7 = .ok (.istore_n 2, 1) := by decide +kernel
theorem dX11_seed_8 : decode cX11_seed 8 = .ok (.aload_n 0, 1) := by decide +kernel
theorem dX11_seed_9 : decode cX11_seed 9 = .ok (.getfield 19, 3) := by decide +kernel
theorem dX11_seed_12 : decode cX11_seed 12 = .ok (.iload_n 1, 1) := by decide +kernel
theorem dX11_seed_13 : decode cX11_seed 13 = .ok (.putfield 332, 3) := by decide +kernel
theorem dX11_seed_16 : decode cX11_seed 16 = .ok (.iload_n 2, 1) := by decide +kernel
theorem dX11_seed_17 : decode cX11_seed 17 = .ok (.ireturn, 1) := by decide +kernel
theorem dX11_undo_0 : decode cX11_undo 0 = .ok (.aload_n 0, 1) := by decide +kernel
theorem dX11_undo_1 : decode cX11_undo 1 = .ok (.getfield 134, 3) := by decide +kernel
theorem dX11_undo_4 : decode cX11_undo 4 = .ok (.ifCond .gt 5, 3) := by decide +kernel
theorem dX11_undo_7 : decode cX11_undo 7 = .ok (.iconst 0, 1) := by decide +kernel
theorem dX11_undo_8 : decode cX11_undo 8 = .ok (.ireturn, 1) := by decide +kernel
theorem dX11_undo_9 : decode cX11_undo 9 = .ok (.aload_n 0, 1) := by decide +kernel
theorem dX11_undo_10 : decode cX11_undo 10 = .ok (.dup, 1) := by decide +kernel
theorem dX11_undo_11 : decode cX11_undo 11 = .ok (.getfield 134, 3) := by decide +kernel
theorem dX11_undo_14 : decode cX11_undo 14 = .ok (.iconst 1, 1) := by decide +kernel
theorem dX11_undo_15 : decode cX11_undo 15 = .ok (.isub, 1) := by decide +kernel
theorem dX11_undo_16 : decode cX11_undo 16 = .ok (.putfield 134, 3) := by decide +kernel
theorem dX11_undo_19 : decode cX11_undo 19 = .ok (.aload_n 0, 1) := by decide +kernel
theorem dX11_undo_20 : decode cX11_undo 20 = .ok (.getfield 19, 3) := by decide +kernel
theorem dX11_undo_23 : decode cX11_undo 23 = .ok (.aload_n 0, 1) := by decide +kernel
theorem dX11_undo_24 : decode cX11_undo 24 = .ok (.getfield 99, 3) := by decide +kernel
theorem dX11_undo_27 : decode cX11_undo 27 = .ok (.aload_n 0, 1) := by decide +kernel
theorem dX11_undo_28 : decode cX11_undo 28 = .ok (.getfield 354, 3) := by decide +kernel
theorem dX11_undo_31 : decode cX11_undo 31 = .ok (.aload_n 0, 1) := by decide +kernel
theorem dX11_undo_32 : decode cX11_undo 32 = .ok (.getfield 134, 3) := by decide +kernel
theorem dX11_undo_35 : decode cX11_undo 35 = .ok (.iadd, 1) := by decide +kernel
theorem dX11_undo_36 : decode cX11_undo 36 = .ok (.bipush 12, 2) := by decide +kernel
theorem dX11_undo_38 : decode cX11_undo 38 = .ok (.irem, 1) := by decide +kernel
theorem dX11_undo_39 : decode cX11_undo 39 = .ok (.aaload, 1) := by decide +kernel
theorem dX11_undo_40 : decode cX11_undo 40 = .ok (.invokevirtual 114, 3) := by decide +kernel
theorem dX11_undo_43 : decode cX11_undo 43 = .ok (.iconst 1, 1) := by decide +kernel
theorem dX11_undo_44 : decode cX11_undo 44 = .ok (.ireturn, 1) := by decide +kernel
theorem dX11_image_0 : decode cX11_image 0 = .ok (.aload_n 0, 1) := by decide +kernel
theorem dX11_image_1 : decode cX11_image 1 = .ok (.getfield 26, 3) := by decide +kernel
theorem dX11_image_4 : decode cX11_image 4 = .ok (.aload_n 0, 1) := by decide +kernel
theorem dX11_image_5 : decode cX11_image 5 = .ok (.getfield 19, 3) := by decide +kernel
theorem dX11_image_8 : decode cX11_image 8 = .ok (.invokevirtual 114, 3) := by decide +kernel
theorem dX11_image_11 : decode cX11_image 11 = .ok (.aload_n 0, 1) := by decide +kernel
theorem dX11_image_12 : decode cX11_image 12 = .ok (.getfield 39, 3) := by decide +kernel
theorem dX11_image_15 : decode cX11_image 15 = .ok (.aload_n 0, 1) := by decide +kernel
theorem dX11_image_16 : decode cX11_image 16 = .ok (.getfield 32, 3) := by decide +kernel
theorem dX11_image_19 : decode cX11_image 19 = .ok (.invokevirtual 140, 3) := by decide +kernel
theorem dX11_image_22 : decode cX11_image 22 = .ok (.aload_n 0, 1) := by decide +kernel
theorem dX11_image_23 : decode cX11_image 23 = .ok (.iconst 1, 1) := by decide +kernel
theorem dX11_image_24 : decode cX11_image 24 = .ok (.putfield 357, 3) := by decide +kernel
theorem dX11_image_27 : decode cX11_image 27 = .ok (.return_, 1) := by decide +kernel
theorem dX11_back_0 : decode cX11_back 0 = .ok (.aload_n 0, 1) := by decide +kernel
theorem dX11_back_1 : decode cX11_back 1 = .ok (.getfield 357, 3) := by decide +kernel
theorem dX11_back_4 : decode cX11_back 4 = .ok (.ifCond .ne 5, 3) := by decide +kernel
theorem dX11_back_7 : decode cX11_back 7 = .ok (.iconst 0, 1) := by decide +kernel
theorem dX11_back_8 : decode cX11_back 8 = .ok (.ireturn, 1) := by decide +kernel
theorem dX11_back_9 : decode cX11_back 9 = .ok (.aload_n 0, 1) := by decide +kernel
theorem dX11_back_10 : decode cX11_back 10 = .ok (.getfield 19, 3) := by decide +kernel
theorem dX11_back_13 : decode cX11_back 13 = .ok (.aload_n 0, 1) := by decide +kernel
theorem dX11_back_14 : decode cX11_back 14 = .ok (.getfield 26, 3) := by decide +kernel
theorem dX11_back_17 : decode cX11_back 17 = .ok (.invokevirtual 114, 3) := by decide +kernel
theorem dX11_back_20 : decode cX11_back 20 = .ok (.aload_n 0, 1) := by decide +kernel
theorem dX11_back_21 : decode cX11_back 21 = .ok (.getfield 32, 3) := by decide +kernel
theorem dX11_back_24 : decode cX11_back 24 = .ok (.aload_n 0, 1) := by decide +kernel
theorem dX11_back_25 : decode cX11_back 25 = .ok (.getfield 39, 3) := by decide +kernel
theorem dX11_back_28 : decode cX11_back 28 = .ok (.invokevirtual 140, 3) := by decide +kernel
theorem dX11_back_31 : decode cX11_back 31 = .ok (.aload_n 0, 1) := by decide +kernel
theorem dX11_back_32 : decode cX11_back 32 = .ok (.iconst 0, 1) := by decide +kernel
theorem dX11_back_33 : decode cX11_back 33 = .ok (.putfield 134, 3) := by decide +kernel
theorem dX11_back_36 : decode cX11_back 36 = .ok (.iconst 1, 1) := by decide +kernel
theorem dX11_back_37 : decode cX11_back 37 = .ok (.ireturn, 1) := by decide +kernel
theorem dX11_count_0 : decode cX11_count 0 = .ok (.iload_n 1, 1) := by decide +kernel
theorem dX11_count_1 : decode cX11_count 1 = .ok (.tableswitch 168 0 12 #[67, 75, 83, 91, 99, 107, 115, 123, 131, 139, 147, 155, 163], 67) := by decide +kernel
theorem dX11_count_68 : decode cX11_count 68 = .ok (.aload_n 0, 1) := by decide +kernel
theorem dX11_count_69 : decode cX11_count 69 = .ok (.getfield 19, 3) := by decide +kernel
theorem dX11_count_72 : decode cX11_count 72 = .ok (.getfield 326, 3) := by decide +kernel
theorem dX11_count_75 : decode cX11_count 75 = .ok (.ireturn, 1) := by decide +kernel
theorem dX11_count_76 : decode cX11_count 76 = .ok (.aload_n 0, 1) := by decide +kernel
theorem dX11_count_77 : decode cX11_count 77 = .ok (.getfield 19, 3) := by decide +kernel
theorem dX11_count_80 : decode cX11_count 80 = .ok (.getfield 128, 3) := by decide +kernel
theorem dX11_count_83 : decode cX11_count 83 = .ok (.ireturn, 1) := by decide +kernel
theorem dX11_count_84 : decode cX11_count 84 = .ok (.aload_n 0, 1) := by decide +kernel
theorem dX11_count_85 : decode cX11_count 85 = .ok (.getfield 32, 3) := by decide +kernel
theorem dX11_count_88 : decode cX11_count 88 = .ok (.getfield 143, 3) := by decide +kernel
theorem dX11_count_91 : decode cX11_count 91 = .ok (.ireturn, 1) := by decide +kernel
theorem dX11_count_92 : decode cX11_count 92 = .ok (.aload_n 0, 1) := by decide +kernel
theorem dX11_count_93 : decode cX11_count 93 = .ok (.getfield 19, 3) := by decide +kernel
theorem dX11_count_96 : decode cX11_count 96 = .ok (.getfield 361, 3) := by decide +kernel
theorem dX11_count_99 : decode cX11_count 99 = .ok (.ireturn, 1) := by decide +kernel
theorem dX11_count_100 : decode cX11_count 100 = .ok (.aload_n 0, 1) := by decide +kernel
theorem dX11_count_101 : decode cX11_count 101 = .ok (.getfield 19, 3) := by decide +kernel
theorem dX11_count_104 : decode cX11_count 104 = .ok (.getfield 236, 3) := by decide +kernel
theorem dX11_count_107 : decode cX11_count 107 = .ok (.ireturn, 1) := by decide +kernel
theorem dX11_count_108 : decode cX11_count 108 = .ok (.aload_n 0, 1) := by decide +kernel
theorem dX11_count_109 : decode cX11_count 109 = .ok (.getfield 19, 3) := by decide +kernel
theorem dX11_count_112 : decode cX11_count 112 = .ok (.getfield 364, 3) := by decide +kernel
theorem dX11_count_115 : decode cX11_count 115 = .ok (.ireturn, 1) := by decide +kernel
theorem dX11_count_116 : decode cX11_count 116 = .ok (.aload_n 0, 1) := by decide +kernel
theorem dX11_count_117 : decode cX11_count 117 = .ok (.getfield 19, 3) := by decide +kernel
theorem dX11_count_120 : decode cX11_count 120 = .ok (.getfield 367, 3) := by decide +kernel
theorem dX11_count_123 : decode cX11_count 123 = .ok (.ireturn, 1) := by decide +kernel
theorem dX11_count_124 : decode cX11_count 124 = .ok (.aload_n 0, 1) := by decide +kernel
theorem dX11_count_125 : decode cX11_count 125 = .ok (.getfield 19, 3) := by decide +kernel
theorem dX11_count_128 : decode cX11_count 128 = .ok (.invokevirtual 338, 3) := by decide +kernel
theorem dX11_count_131 : decode cX11_count 131 = .ok (.ireturn, 1) := by decide +kernel
theorem dX11_count_132 : decode cX11_count 132 = .ok (.aload_n 0, 1) := by decide +kernel
theorem dX11_count_133 : decode cX11_count 133 = .ok (.getfield 19, 3) := by decide +kernel
theorem dX11_count_136 : decode cX11_count 136 = .ok (.invokevirtual 370, 3) := by decide +kernel
theorem dX11_count_139 : decode cX11_count 139 = .ok (.ireturn, 1) := by decide +kernel
theorem dX11_count_140 : decode cX11_count 140 = .ok (.aload_n 0, 1) := by decide +kernel
theorem dX11_count_141 : decode cX11_count 141 = .ok (.getfield 72, 3) := by decide +kernel
theorem dX11_count_144 : decode cX11_count 144 = .ok (.invokevirtual 373, 3) := by decide +kernel
theorem dX11_count_147 : decode cX11_count 147 = .ok (.ireturn, 1) := by decide +kernel
theorem dX11_count_148 : decode cX11_count 148 = .ok (.aload_n 0, 1) := by decide +kernel
theorem dX11_count_149 : decode cX11_count 149 = .ok (.getfield 19, 3) := by decide +kernel
theorem dX11_count_152 : decode cX11_count 152 = .ok (.getfield 245, 3) := by decide +kernel
theorem dX11_count_155 : decode cX11_count 155 = .ok (.ireturn, 1) := by decide +kernel
theorem dX11_count_156 : decode cX11_count 156 = .ok (.aload_n 0, 1) := by decide +kernel
theorem dX11_count_157 : decode cX11_count 157 = .ok (.getfield 19, 3) := by decide +kernel
theorem dX11_count_160 : decode cX11_count 160 = .ok (.invokevirtual 341, 3) := by decide +kernel
theorem dX11_count_163 : decode cX11_count 163 = .ok (.ireturn, 1) := by decide +kernel
theorem dX11_count_164 : decode cX11_count 164 = .ok (.aload_n 0, 1) := by decide +kernel
theorem dX11_count_165 : decode cX11_count 165 = .ok (.getfield 134, 3) := by decide +kernel
theorem dX11_count_168 : decode cX11_count 168 = .ok (.ireturn, 1) := by decide +kernel
theorem dX11_count_169 : decode cX11_count 169 = .ok (.iconst (-1), 1) := by decide +kernel
theorem dX11_count_170 : decode cX11_count 170 = .ok (.ireturn, 1) := by decide +kernel
theorem dX11_needPerson_0 : decode cX11_needPerson 0 = .ok (.aload_n 0, 1) := by decide +kernel
theorem dX11_needPerson_1 : decode cX11_needPerson 1 = .ok (.getfield 19, 3) := by decide +kernel
theorem dX11_needPerson_4 : decode cX11_needPerson 4 = .ok (.iload_n 1, 1) := by decide +kernel
theorem dX11_needPerson_5 : decode cX11_needPerson 5 = .ok (.invokevirtual 376, 3) := by decide +kernel
theorem dX11_needPerson_8 : decode cX11_needPerson 8 = .ok (.ifCond .ne 11, 3) := by decide +kernel
theorem dX11_needPerson_11 : decode cX11_needPerson 11 = .ok (.new 380, 3) := by decide +kernel
theorem dX11_needPerson_14 : decode cX11_needPerson 14 = .ok (.dup, 1) := by decide +kernel
theorem dX11_needPerson_15 : decode cX11_needPerson 15 = .ok (.invokespecial 382, 3) := by decide +kernel
theorem dX11_needPerson_18 : decode cX11_needPerson 18 = .ok (.athrow, 1) := by decide +kernel
theorem dX11_needPerson_19 : decode cX11_needPerson 19 = .ok (.return_, 1) := by decide +kernel
theorem dX11_needRoom_0 : decode cX11_needRoom 0 = .ok (.iload_n 1, 1) := by decide +kernel
theorem dX11_needRoom_1 : decode cX11_needRoom 1 = .ok (.ifCond .lt 9, 3) := by decide +kernel
theorem dX11_needRoom_4 : decode cX11_needRoom 4 = .ok (.iload_n 1, 1) := by decide +kernel
theorem dX11_needRoom_5 : decode cX11_needRoom 5 = .ok (.bipush 6, 2) := by decide +kernel
theorem dX11_needRoom_7 : decode cX11_needRoom 7 = .ok (.if_icmp .lt 11, 3) := by decide +kernel
theorem dX11_needRoom_10 : decode cX11_needRoom 10 = .ok (.new 380, 3) := by decide +kernel
theorem dX11_needRoom_13 : decode cX11_needRoom 13 = .ok (.dup, 1) := by decide +kernel
theorem dX11_needRoom_14 : decode cX11_needRoom 14 = .ok (.invokespecial 382, 3) := by decide +kernel
theorem dX11_needRoom_17 : decode cX11_needRoom 17 = .ok (.athrow, 1) := by decide +kernel
theorem dX11_needRoom_18 : decode cX11_needRoom 18 = .ok (.return_, 1) := by decide +kernel
theorem dX11_needTwo_0 : decode cX11_needTwo 0 = .ok (.aload_n 0, 1) := by decide +kernel
theorem dX11_needTwo_1 : decode cX11_needTwo 1 = .ok (.iload_n 1, 1) := by decide +kernel
theorem dX11_needTwo_2 : decode cX11_needTwo 2 = .ok (.invokevirtual 146, 3) := by decide +kernel
theorem dX11_needTwo_5 : decode cX11_needTwo 5 = .ok (.aload_n 0, 1) := by decide +kernel
theorem dX11_needTwo_6 : decode cX11_needTwo 6 = .ok (.iload_n 2, 1) := by decide +kernel
theorem dX11_needTwo_7 : decode cX11_needTwo 7 = .ok (.invokevirtual 146, 3) := by decide +kernel
theorem dX11_needTwo_10 : decode cX11_needTwo 10 = .ok (.iload_n 1, 1) := by decide +kernel
theorem dX11_needTwo_11 : decode cX11_needTwo 11 = .ok (.iload_n 2, 1) := by decide +kernel
theorem dX11_needTwo_12 : decode cX11_needTwo 12 = .ok (.if_icmp .ne 11, 3) := by decide +kernel
theorem dX11_needTwo_15 : decode cX11_needTwo 15 = .ok (.new 125, 3) := by decide +kernel
theorem dX11_needTwo_18 : decode cX11_needTwo 18 = .ok (.dup, 1) := by decide +kernel
theorem dX11_needTwo_19 : decode cX11_needTwo 19 = .ok (.invokespecial 127, 3) := by decide +kernel
theorem dX11_needTwo_22 : decode cX11_needTwo 22 = .ok (.athrow, 1) := by decide +kernel
theorem dX11_needTwo_23 : decode cX11_needTwo 23 = .ok (.return_, 1) := by decide +kernel
theorem dX11_needNumber_0 : decode cX11_needNumber 0 = .ok (.iload_n 1, 1) := by decide +kernel
theorem dX11_needNumber_1 : decode cX11_needNumber 1 = .ok (.iload_n 2, 1) := by decide +kernel
theorem dX11_needNumber_2 : decode cX11_needNumber 2 = .ok (.if_icmp .lt 8, 3) := by decide +kernel
theorem dX11_needNumber_5 : decode cX11_needNumber 5 = .ok (.iload_n 1, 1) := by decide +kernel
theorem dX11_needNumber_6 : decode cX11_needNumber 6 = .ok (.iload_n 3, 1) := by decide +kernel
theorem dX11_needNumber_7 : decode cX11_needNumber 7 = .ok (.if_icmp .le 11, 3) := by decide +kernel
theorem dX11_needNumber_10 : decode cX11_needNumber 10 = .ok (.new 125, 3) := by decide +kernel
theorem dX11_needNumber_13 : decode cX11_needNumber 13 = .ok (.dup, 1) := by decide +kernel
theorem dX11_needNumber_14 : decode cX11_needNumber 14 = .ok (.invokespecial 127, 3) := by decide +kernel
theorem dX11_needNumber_17 : decode cX11_needNumber 17 = .ok (.athrow, 1) := by decide +kernel
theorem dX11_needNumber_18 : decode cX11_needNumber 18 = .ok (.return_, 1) := by decide +kernel
theorem dX11_needCup_0 : decode cX11_needCup 0 = .ok (.aload_n 0, 1) := by decide +kernel
theorem dX11_needCup_1 : decode cX11_needCup 1 = .ok (.iload_n 1, 1) := by decide +kernel
theorem dX11_needCup_2 : decode cX11_needCup 2 = .ok (.aload_n 0, 1) := by decide +kernel
theorem dX11_needCup_3 : decode cX11_needCup 3 = .ok (.getfield 19, 3) := by decide +kernel
theorem dX11_needCup_6 : decode cX11_needCup 6 = .ok (.invokevirtual 221, 3) := by decide +kernel
theorem dX11_needCup_9 : decode cX11_needCup 9 = .ok (.iand, 1) := by decide +kernel
theorem dX11_needCup_10 : decode cX11_needCup 10 = .ok (.invokestatic 321, 3) := by decide +kernel
theorem dX11_needCup_13 : decode cX11_needCup 13 = .ok (.iconst 2, 1) := by decide +kernel
theorem dX11_needCup_14 : decode cX11_needCup 14 = .ok (.bipush 8, 2) := by decide +kernel
theorem dX11_needCup_16 : decode cX11_needCup 16 = .ok (.invokevirtual 192, 3) := by decide +kernel
theorem dX11_needCup_19 : decode cX11_needCup 19 = .ok (.aload_n 0, 1) := by decide +kernel
theorem dX11_needCup_20 : decode cX11_needCup 20 = .ok (.iload_n 2, 1) := by decide +kernel
theorem dX11_needCup_21 : decode cX11_needCup 21 = .ok (.iconst 0, 1) := by decide +kernel
theorem dX11_needCup_22 : decode cX11_needCup 22 = .ok (.iconst 3, 1) := by decide +kernel
theorem dX11_needCup_23 : decode cX11_needCup 23 = .ok (.invokevirtual 192, 3) := by decide +kernel
theorem dX11_needCup_26 : decode cX11_needCup 26 = .ok (.return_, 1) := by decide +kernel
theorem dX11_textWasRead_0 : decode cX11_textWasRead 0 = .ok (.aload_n 0, 1) := by decide +kernel
theorem dX11_textWasRead_1 : decode cX11_textWasRead 1 = .ok (.iload_n 1, 1) := by decide +kernel
theorem dX11_textWasRead_2 : decode cX11_textWasRead 2 = .ok (.ifCond .eq 7, 3) := by decide +kernel
theorem dX11_textWasRead_5 : decode cX11_textWasRead 5 = .ok (.iconst (-1), 1) := by decide +kernel
theorem dX11_textWasRead_6 : decode cX11_textWasRead 6 = .ok (.goto 10, 3) := by decide +kernel
theorem dX11_textWasRead_9 : decode cX11_textWasRead 9 = .ok (.aload_n 0, 1) := by decide +kernel
theorem dX11_textWasRead_10 : decode cX11_textWasRead 10 = .ok (.getfield 10, 3) := by decide +kernel
theorem dX11_textWasRead_13 : decode cX11_textWasRead 13 = .ok (.getfield 383, 3) := by decide +kernel
theorem dX11_textWasRead_16 : decode cX11_textWasRead 16 = .ok (.putfield 103, 3) := by decide +kernel
theorem dX11_textWasRead_19 : decode cX11_textWasRead 19 = .ok (.aload_n 0, 1) := by decide +kernel
theorem dX11_textWasRead_20 : decode cX11_textWasRead 20 = .ok (.getfield 10, 3) := by decide +kernel
theorem dX11_textWasRead_23 : decode cX11_textWasRead 23 = .ok (.iconst 0, 1) := by decide +kernel
theorem dX11_textWasRead_24 : decode cX11_textWasRead 24 = .ok (.putfield 107, 3) := by decide +kernel
theorem dX11_textWasRead_27 : decode cX11_textWasRead 27 = .ok (.return_, 1) := by decide +kernel
theorem dX11_weighDrinkers_0 : decode cX11_weighDrinkers 0 = .ok (.aload_n 0, 1) := by decide +kernel
theorem dX11_weighDrinkers_1 : decode cX11_weighDrinkers 1 = .ok (.getfield 95, 3) := by decide +kernel
theorem dX11_weighDrinkers_4 : decode cX11_weighDrinkers 4 = .ok (.invokevirtual 386, 3) := by decide +kernel
theorem dX11_weighDrinkers_7 : decode cX11_weighDrinkers 7 = .ok (.istore_n 1, 1) := by decide +kernel
theorem dX11_weighDrinkers_8 : decode cX11_weighDrinkers 8 = .ok (.aload_n 0, 1) := by decide +kernel
theorem dX11_weighDrinkers_9 : decode cX11_weighDrinkers 9 = .ok (.getfield 10, 3) := by decide +kernel
theorem dX11_weighDrinkers_12 : decode cX11_weighDrinkers 12 = .ok (.iconst 0, 1) := by decide +kernel
theorem dX11_weighDrinkers_13 : decode cX11_weighDrinkers 13 = .ok (.putfield 107, 3) := by decide +kernel
theorem dX11_weighDrinkers_16 : decode cX11_weighDrinkers 16 = .ok (.iload_n 1, 1) := by decide +kernel
theorem dX11_weighDrinkers_17 : decode cX11_weighDrinkers 17 = .ok (.ifCond .ne 11, 3) := by decide +kernel
theorem dX11_weighDrinkers_20 : decode cX11_weighDrinkers 20 = .ok (.new 125, 3) := by decide +kernel
theorem dX11_weighDrinkers_23 : decode cX11_weighDrinkers 23 = .ok (.dup, 1) := by decide +kernel
theorem dX11_weighDrinkers_24 : decode cX11_weighDrinkers 24 = .ok (.invokespecial 127, 3) := by decide +kernel
theorem dX11_weighDrinkers_27 : decode cX11_weighDrinkers 27 = .ok (.athrow, 1) := by decide +kernel
theorem dX11_weighDrinkers_28 : decode cX11_weighDrinkers 28 = .ok (.return_, 1) := by decide +kernel
theorem dX11_tryDays_0 : decode cX11_tryDays 0 = .ok (.aload_n 0, 1) := by decide +kernel
theorem dX11_tryDays_1 : decode cX11_tryDays 1 = .ok (.getfield 23, 3) := by decide +kernel
theorem dX11_tryDays_4 : decode cX11_tryDays 4 = .ok (.aload_n 0, 1) := by decide +kernel
theorem dX11_tryDays_5 : decode cX11_tryDays 5 = .ok (.getfield 19, 3) := by decide +kernel
theorem dX11_tryDays_8 : decode cX11_tryDays 8 = .ok (.invokevirtual 114, 3) := by decide +kernel
theorem dX11_tryDays_11 : decode cX11_tryDays 11 = .ok (.aload_n 0, 1) := by decide +kernel
theorem dX11_tryDays_12 : decode cX11_tryDays 12 = .ok (.getfield 23, 3) := by decide +kernel
theorem dX11_tryDays_15 : decode cX11_tryDays 15 = .ok (.iload_n 2, 1) := by decide +kernel
theorem dX11_tryDays_16 : decode cX11_tryDays 16 = .ok (.putfield 332, 3) := by decide +kernel
theorem dX11_tryDays_19 : decode cX11_tryDays 19 = .ok (.aload_n 0, 1) := by decide +kernel
theorem dX11_tryDays_20 : decode cX11_tryDays 20 = .ok (.getfield 23, 3) := by decide +kernel
theorem dX11_tryDays_23 : decode cX11_tryDays 23 = .ok (.aload_n 0, 1) := by decide +kernel
theorem dX11_tryDays_24 : decode cX11_tryDays 24 = .ok (.getfield 32, 3) := by decide +kernel
theorem dX11_tryDays_27 : decode cX11_tryDays 27 = .ok (.iload_n 1, 1) := by decide +kernel
theorem dX11_tryDays_28 : decode cX11_tryDays 28 = .ok (.iconst 1, 1) := by decide +kernel
theorem dX11_tryDays_29 : decode cX11_tryDays 29 = .ok (.invokestatic 248, 3) := by decide +kernel
theorem dX11_tryDays_32 : decode cX11_tryDays 32 = .ok (.pop, 1) := by decide +kernel
theorem dX11_tryDays_33 : decode cX11_tryDays 33 = .ok (.aload_n 0, 1) := by decide +kernel
theorem dX11_tryDays_34 : decode cX11_tryDays 34 = .ok (.getfield 23, 3) := by decide +kernel
theorem dX11_tryDays_37 : decode cX11_tryDays 37 = .ok (.getfield 245, 3) := by decide +kernel
theorem dX11_tryDays_40 : decode cX11_tryDays 40 = .ok (.aload_n 0, 1) := by decide +kernel
theorem dX11_tryDays_41 : decode cX11_tryDays 41 = .ok (.getfield 19, 3) := by decide +kernel
theorem dX11_tryDays_44 : decode cX11_tryDays 44 = .ok (.getfield 245, 3) := by decide +kernel
theorem dX11_tryDays_47 : decode cX11_tryDays 47 = .ok (.isub, 1) := by decide +kernel
theorem dX11_tryDays_48 : decode cX11_tryDays 48 = .ok (.ireturn, 1) := by decide +kernel
theorem dX11_remember_0 : decode cX11_remember 0 = .ok (.aload_n 0, 1) := by decide +kernel
theorem dX11_remember_1 : decode cX11_remember 1 = .ok (.getfield 134, 3) := by decide +kernel
theorem dX11_remember_4 : decode cX11_remember 4 = .ok (.bipush 12, 2) := by decide +kernel
theorem dX11_remember_6 : decode cX11_remember 6 = .ok (.if_icmp .ge 16, 3) := by decide +kernel
theorem dX11_remember_9 : decode cX11_remember 9 = .ok (.aload_n 0, 1) := by decide +kernel
theorem dX11_remember_10 : decode cX11_remember 10 = .ok (.dup, 1) := by decide +kernel
theorem dX11_remember_11 : decode cX11_remember 11 = .ok (.getfield 134, 3) := by decide +kernel
theorem dX11_remember_14 : decode cX11_remember 14 = .ok (.iconst 1, 1) := by decide +kernel
theorem dX11_remember_15 : decode cX11_remember 15 = .ok (.iadd, 1) := by decide +kernel
theorem dX11_remember_16 : decode cX11_remember 16 = .ok (.putfield 134, 3) := by decide +kernel
theorem dX11_remember_19 : decode cX11_remember 19 = .ok (.goto 16, 3) := by decide +kernel
theorem dX11_remember_22 : decode cX11_remember 22 = .ok (.aload_n 0, 1) := by decide +kernel
theorem dX11_remember_23 : decode cX11_remember 23 = .ok (.aload_n 0, 1) := by decide +kernel
theorem dX11_remember_24 : decode cX11_remember 24 = .ok (.getfield 354, 3) := by decide +kernel
theorem dX11_remember_27 : decode cX11_remember 27 = .ok (.iconst 1, 1) := by decide +kernel
theorem dX11_remember_28 : decode cX11_remember 28 = .ok (.iadd, 1) := by decide +kernel
theorem dX11_remember_29 : decode cX11_remember 29 = .ok (.bipush 12, 2) := by decide +kernel
theorem dX11_remember_31 : decode cX11_remember 31 = .ok (.irem, 1) := by decide +kernel
theorem dX11_remember_32 : decode cX11_remember 32 = .ok (.putfield 354, 3) := by decide +kernel
theorem dX11_remember_35 : decode cX11_remember 35 = .ok (.aload_n 0, 1) := by decide +kernel
theorem dX11_remember_36 : decode cX11_remember 36 = .ok (.getfield 99, 3) := by decide +kernel
theorem dX11_remember_39 : decode cX11_remember 39 = .ok (.aload_n 0, 1) := by decide +kernel
theorem dX11_remember_40 : decode cX11_remember 40 = .ok (.getfield 354, 3) := by decide +kernel
theorem dX11_remember_43 : decode cX11_remember 43 = .ok (.aload_n 0, 1) := by decide +kernel
theorem dX11_remember_44 : decode cX11_remember 44 = .ok (.getfield 134, 3) := by decide +kernel
theorem dX11_remember_47 : decode cX11_remember 47 = .ok (.iadd, 1) := by decide +kernel
theorem dX11_remember_48 : decode cX11_remember 48 = .ok (.iconst 1, 1) := by decide +kernel
theorem dX11_remember_49 : decode cX11_remember 49 = .ok (.isub, 1) := by decide +kernel
theorem dX11_remember_50 : decode cX11_remember 50 = .ok (.bipush 12, 2) := by decide +kernel
theorem dX11_remember_52 : decode cX11_remember 52 = .ok (.irem, 1) := by decide +kernel
theorem dX11_remember_53 : decode cX11_remember 53 = .ok (.aaload, 1) := by decide +kernel
theorem dX11_remember_54 : decode cX11_remember 54 = .ok (.aload_n 0, 1) := by decide +kernel
theorem dX11_remember_55 : decode cX11_remember 55 = .ok (.getfield 19, 3) := by decide +kernel
theorem dX11_remember_58 : decode cX11_remember 58 = .ok (.invokevirtual 114, 3) := by decide +kernel
theorem dX11_remember_61 : decode cX11_remember 61 = .ok (.return_, 1) := by decide +kernel
