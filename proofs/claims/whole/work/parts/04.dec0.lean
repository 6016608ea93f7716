theorem dX4_init_0 : decode cX4_init 0 = .ok (.aload_n 0, 1) := by decide +kernel
theorem dX4_init_1 : decode cX4_init 1 = .ok (.invokespecial 3, 3) := by decide +kernel
theorem dX4_init_4 : decode cX4_init 4 = .ok (.aload_n 0, 1) := by decide +kernel
theorem dX4_init_5 : decode cX4_init 5 = .ok (.iconst 5, 1) := by decide +kernel
theorem dX4_init_6 : decode cX4_init 6 = .ok (.putfield 9, 3) := by decide +kernel
theorem dX4_init_9 : decode cX4_init 9 = .ok (.aload_n 0, 1) := by decide +kernel
theorem dX4_init_10 : decode cX4_init 10 = .ok (.bipush 100, 2) := by decide +kernel
theorem dX4_init_12 : decode cX4_init 12 = .ok (.putfield 15, 3) := by decide +kernel
theorem dX4_init_15 : decode cX4_init 15 = .ok (.aload_n 0, 1) := by decide +kernel
theorem dX4_init_16 : decode cX4_init 16 = .ok (.iconst 1, 1) := by decide +kernel
theorem dX4_init_17 : decode cX4_init 17 = .ok (.putfield 18, 3) := by decide +kernel
theorem dX4_init_20 : decode cX4_init 20 = .ok (.aload_n 0, 1) := by decide +kernel
theorem dX4_init_21 : decode cX4_init 21 = .ok (.bipush 8, 2) := by decide +kernel
theorem dX4_init_23 : decode cX4_init 23 = .ok (.newarray .int, 2) := by decide +kernel
theorem dX4_init_25 : decode cX4_init 25 = .ok (.putfield 21, 3) := by decide +kernel
theorem dX4_init_28 : decode cX4_init 28 = .ok (.aload_n 0, 1) := by decide +kernel
theorem dX4_init_29 : decode cX4_init 29 = .ok (.bipush 8, 2) := by decide +kernel
theorem dX4_init_31 : decode cX4_init 31 = .ok (.newarray .int, 2) := by decide +kernel
theorem dX4_init_33 : decode cX4_init 33 = .ok (.putfield 25, 3) := by decide +kernel
theorem dX4_init_36 : decode cX4_init 36 = .ok (.aload_n 0, 1) := by decide +kernel
theorem dX4_init_37 : decode cX4_init 37 = .ok (.bipush 8, 2) := by decide +kernel
theorem dX4_init_39 : decode cX4_init 39 = .ok (.newarray .int, 2) := by decide +kernel
theorem dX4_init_41 : decode cX4_init 41 = .ok (.putfield 28, 3) := by decide +kernel
theorem dX4_init_44 : decode cX4_init 44 = .ok (.aload_n 0, 1) := by decide +kernel
theorem dX4_init_45 : decode cX4_init 45 = .ok (.bipush 8, 2) := by decide +kernel
theorem dX4_init_47 : decode cX4_init 47 = .ok (.newarray .int, 2) := by decide +kernel
theorem dX4_init_49 : decode cX4_init 49 = .ok (.putfield 31, 3) := by decide +kernel
theorem dX4_init_52 : decode cX4_init 52 = .ok (.aload_n 0, 1) := by decide +kernel
theorem dX4_init_53 : decode cX4_init 53 = .ok (.bipush 64, 2) := by decide +kernel
theorem dX4_init_55 : decode cX4_init 55 = .ok (.newarray .int, 2) := by decide +kernel
theorem dX4_init_57 : decode cX4_init 57 = .ok (.putfield 34, 3) := by decide +kernel
theorem dX4_init_60 : decode cX4_init 60 = .ok (.aload_n 0, 1) := by decide +kernel
theorem dX4_init_61 : decode cX4_init 61 = .ok (.bipush 64, 2) := by decide +kernel
theorem dX4_init_63 : decode cX4_init 63 = .ok (.newarray .int, 2) := by decide +kernel
theorem dX4_init_65 : decode cX4_init 65 = .ok (.putfield 37, 3) := by decide +kernel
theorem dX4_init_68 : decode cX4_init 68 = .ok (.aload_n 0, 1) := by decide +kernel
theorem dX4_init_69 : decode cX4_init 69 = .ok (.bipush 64, 2) := by decide +kernel
theorem dX4_init_71 : decode cX4_init 71 = .ok (.newarray .int, 2) := by decide +kernel
theorem dX4_init_73 : decode cX4_init 73 = .ok (.putfield 40, 3) := by decide +kernel
theorem dX4_init_76 : decode cX4_init 76 = .ok (.aload_n 0, 1) := by decide +kernel
theorem dX4_init_77 : decode cX4_init 77 = .ok (.bipush 60, 2) := by decide +kernel
theorem dX4_init_79 : decode cX4_init 79 = .ok (.newarray .int, 2) := by decide +kernel
theorem dX4_init_81 : decode cX4_init 81 = .ok (.putfield 43, 3) := by decide +kernel
theorem dX4_init_84 : decode cX4_init 84 = .ok (.return_, 1) := by decide +kernel
theorem dX4_become_0 : decode cX4_become 0 = .ok (.aload_n 0, 1) := by decide +kernel
theorem dX4_become_1 : decode cX4_become 1 = .ok (.aload_n 1, 1) := by decide +kernel
theorem dX4_become_2 : decode cX4_become 2 = .ok (.getfield 46, 3) := by decide +kernel
theorem dX4_become_5 : decode cX4_become 5 = .ok (.putfield 46, 3) := by decide +kernel
theorem dX4_become_8 : decode cX4_become 8 = .ok (.aload_n 0, 1) := by decide +kernel
theorem dX4_become_9 : decode cX4_become 9 = .ok (.aload_n 1, 1) := by decide +kernel
theorem dX4_become_10 : decode cX4_become 10 = .ok (.getfield 49, 3) := by decide +kernel
theorem dX4_become_13 : decode cX4_become 13 = .ok (.putfield 49, 3) := by decide +kernel
theorem dX4_become_16 : decode cX4_become 16 = .ok (.aload_n 0, 1) := by decide +kernel
theorem dX4_become_17 : decode cX4_become 17 = .ok (.aload_n 1, 1) := by decide +kernel
theorem dX4_become_18 : decode cX4_become 18 = .ok (.getfield 52, 3) := by decide +kernel
theorem dX4_become_21 : decode cX4_become 21 = .ok (.putfield 52, 3) := by decide +kernel
theorem dX4_become_24 : decode cX4_become 24 = .ok (.aload_n 0, 1) := by decide +kernel
theorem dX4_become_25 : decode cX4_become 25 = .ok (.aload_n 1, 1) := by decide +kernel
theorem dX4_become_26 : decode cX4_become 26 = .ok (.getfield 9, 3) := by decide +kernel
theorem dX4_become_29 : decode cX4_become 29 = .ok (.putfield 9, 3) := by decide +kernel
theorem dX4_become_32 : decode cX4_become 32 = .ok (.aload_n 0, 1) := by decide +kernel
theorem dX4_become_33 : decode cX4_become 33 = .ok (.aload_n 1, 1) := by decide +kernel
theorem dX4_become_34 : decode cX4_become 34 = .ok (.getfield 15, 3) := by decide +kernel
theorem dX4_become_37 : decode cX4_become 37 = .ok (.putfield 15, 3) := by decide +kernel
theorem dX4_become_40 : decode cX4_become 40 = .ok (.aload_n 0, 1) := by decide +kernel
theorem dX4_become_41 : decode cX4_become 41 = .ok (.aload_n 1, 1) := by decide +kernel
theorem dX4_become_42 : decode cX4_become 42 = .ok (.getfield 55, 3) := by decide +kernel
theorem dX4_become_45 : decode cX4_become 45 = .ok (.putfield 55, 3) := by decide +kernel
theorem dX4_become_48 : decode cX4_become 48 = .ok (.aload_n 0, 1) := by decide +kernel
theorem dX4_become_49 : decode cX4_become 49 = .ok (.aload_n 1, 1) := by decide +kernel
theorem dX4_become_50 : decode cX4_become 50 = .ok (.getfield 18, 3) := by decide +kernel
theorem dX4_become_53 : decode cX4_become 53 = .ok (.putfield 18, 3) := by decide +kernel
theorem dX4_become_56 : decode cX4_become 56 = .ok (.aload_n 0, 1) := by decide +kernel
theorem dX4_become_57 : decode cX4_become 57 = .ok (.aload_n 1, 1) := by decide +kernel
theorem dX4_become_58 : decode cX4_become 58 = .ok (.getfield 58, 3) := by decide +kernel
theorem dX4_become_61 : decode cX4_become 61 = .ok (.putfield 58, 3) := by decide +kernel
theorem dX4_become_64 : decode cX4_become 64 = .ok (.aload_n 1, 1) := by decide +kernel
theorem dX4_become_65 : decode cX4_become 65 = .ok (.getfield 21, 3) := by decide +kernel
theorem dX4_become_68 : decode cX4_become 68 = .ok (.iconst 0, 1) := by decide +kernel
theorem dX4_become_69 : decode cX4_become 69 = .ok (.aload_n 0, 1) := by decide +kernel
theorem dX4_become_70 : decode cX4_become 70 = .ok (.getfield 21, 3) := by decide +kernel
theorem dX4_become_73 : decode cX4_become 73 = .ok (.iconst 0, 1) := by decide +kernel
theorem dX4_become_74 : decode cX4_become 74 = .ok (.aload_n 0, 1) := by decide +kernel
theorem dX4_become_75 : decode cX4_become 75 = .ok (.getfield 21, 3) := by decide +kernel
theorem dX4_become_78 : decode cX4_become 78 = .ok (.arraylength, 1) := by decide +kernel
theorem dX4_become_79 : decode cX4_become 79 = .ok (.invokestatic 61, 3) := by decide +kernel
theorem dX4_become_82 : decode cX4_become 82 = .ok (.aload_n 1, 1) := by decide +kernel
theorem dX4_become_83 : decode cX4_become 83 = .ok (.getfield 25, 3) := by decide +kernel
theorem dX4_become_86 : decode cX4_become 86 = .ok (.iconst 0, 1) := by decide +kernel
theorem dX4_become_87 : decode cX4_become 87 = .ok (.aload_n 0, 1) := by decide +kernel
theorem dX4_become_88 : decode cX4_become 88 = .ok (.getfield 25, 3) := by decide +kernel
theorem dX4_become_91 : decode cX4_become 91 = .ok (.iconst 0, 1) := by decide +kernel
theorem dX4_become_92 : decode cX4_become 92 = .ok (.aload_n 0, 1) := by decide +kernel
theorem dX4_become_93 : decode cX4_become 93 = .ok (.getfield 25, 3) := by decide +kernel
theorem dX4_become_96 : decode cX4_become 96 = .ok (.arraylength, 1) := by decide +kernel
theorem dX4_become_97 : decode cX4_become 97 = .ok (.invokestatic 61, 3) := by decide +kernel
theorem dX4_become_100 : decode cX4_become 100 = .ok (.aload_n 1, 1) := by decide +kernel
theorem dX4_become_101 : decode cX4_become 101 = .ok (.getfield 28, 3) := by decide +kernel
theorem dX4_become_104 : decode cX4_become 104 = .ok (.iconst 0, 1) := by decide +kernel
theorem dX4_become_105 : decode cX4_become 105 = .ok (.aload_n 0, 1) := by decide +kernel
theorem dX4_become_106 : decode cX4_become 106 = .ok (.getfield 28, 3) := by decide +kernel
theorem dX4_become_109 : decode cX4_become 109 = .ok (.iconst 0, 1) := by decide +kernel
theorem dX4_become_110 : decode cX4_become 110 = .ok (.aload_n 0, 1) := by decide +kernel
theorem dX4_become_111 : decode cX4_become 111 = .ok (.getfield 28, 3) := by decide +kernel
theorem dX4_become_114 : decode cX4_become 114 = .ok (.arraylength, 1) := by decide +kernel
theorem dX4_become_115 : decode cX4_become 115 = .ok (.invokestatic 61, 3) := by decide +kernel
theorem dX4_become_118 : decode cX4_become 118 = .ok (.aload_n 1, 1) := by decide +kernel
theorem dX4_become_119 : decode cX4_become 119 = .ok (.getfield 31, 3) := by decide +kernel
theorem dX4_become_122 : decode cX4_become 122 = .ok (.iconst 0, 1) := by decide +kernel
theorem dX4_become_123 : decode cX4_become 123 = .ok (.aload_n 0, 1) := by decide +kernel
theorem dX4_become_124 : decode cX4_become 124 = .ok (.getfield 31, 3) := by decide +kernel
theorem dX4_become_127 : decode cX4_become 127 = .ok (.iconst 0, 1) := by decide +kernel
theorem dX4_become_128 : decode cX4_become 128 = .ok (.aload_n 0, 1) := by decide +kernel
theorem dX4_become_129 : decode cX4_become 129 = .ok (.getfield 31, 3) := by decide +kernel
theorem dX4_become_132 : decode cX4_become 132 = .ok (.arraylength, 1) := by decide +kernel
theorem dX4_become_133 : decode cX4_become 133 = .ok (.invokestatic 61, 3) := by decide +kernel
theorem dX4_become_136 : decode cX4_become 136 = .ok (.aload_n 1, 1) := by decide +kernel
theorem dX4_become_137 : decode cX4_become 137 = .ok (.getfield 34, 3) := by decide +kernel
theorem dX4_become_140 : decode cX4_become 140 = .ok (.iconst 0, 1) := by decide +kernel
theorem dX4_become_141 : decode cX4_become 141 = .ok (.aload_n 0, 1) := by decide +kernel
theorem dX4_become_142 : decode cX4_become 142 = .ok (.getfield 34, 3) := by decide +kernel
theorem dX4_become_145 : decode cX4_become 145 = .ok (.iconst 0, 1) := by decide +kernel
theorem dX4_become_146 : decode cX4_become 146 = .ok (.aload_n 0, 1) := by decide +kernel
theorem dX4_become_147 : decode cX4_become 147 = .ok (.getfield 34, 3) := by decide +kernel
theorem dX4_become_150 : decode cX4_become 150 = .ok (.arraylength, 1) := by decide +kernel
theorem dX4_become_151 : decode cX4_become 151 = .ok (.invokestatic 61, 3) := by decide +kernel
theorem dX4_become_154 : decode cX4_become 154 = .ok (.aload_n 1, 1) := by decide +kernel
theorem dX4_become_155 : decode cX4_become 155 = .ok (.getfield 37, 3) := by decide +kernel
theorem dX4_become_158 : decode cX4_become 158 = .ok (.iconst 0, 1) := by decide +kernel
theorem dX4_become_159 : decode cX4_become 159 = .ok (.aload_n 0, 1) := by decide +kernel
theorem dX4_become_160 : decode cX4_become 160 = .ok (.getfield 37, 3) := by decide +kernel
theorem dX4_become_163 : decode cX4_become 163 = .ok (.iconst 0, 1) := by decide +kernel
theorem dX4_become_164 : decode cX4_become 164 = .ok (.aload_n 0, 1) := by decide +kernel
theorem dX4_become_165 : decode cX4_become 165 = .ok (.getfield 37, 3) := by decide +kernel
theorem dX4_become_168 : decode cX4_become 168 = .ok (.arraylength, 1) := by decide +kernel
theorem dX4_become_169 : decode cX4_become 169 = .ok (.invokestatic 61, 3) := by decide +kernel
theorem dX4_become_172 : decode cX4_become 172 = .ok (.aload_n 1, 1) := by decide +kernel
theorem dX4_become_173 : decode cX4_become 173 = .ok (.getfield 40, 3) := by decide +kernel
theorem dX4_become_176 : decode cX4_become 176 = .ok (.iconst 0, 1) := by decide +kernel
theorem dX4_become_177 : decode cX4_become 177 = .ok (.aload_n 0, 1) := by decide +kernel
theorem dX4_become_178 : decode cX4_become 178 = .ok (.getfield 40, 3) := by decide +kernel
theorem dX4_become_181 : decode cX4_become 181 = .ok (.iconst 0, 1) := by decide +kernel
theorem dX4_become_182 : decode cX4_become 182 = .ok (.aload_n 0, 1) := by decide +kernel
theorem dX4_become_183 : decode cX4_become 183 = .ok (.getfield 40, 3) := by decide +kernel
theorem dX4_become_186 : decode cX4_become 186 = .ok (.arraylength, 1) := by decide +kernel
theorem dX4_become_187 : decode cX4_become 187 = .ok (.invokestatic 61, 3) := by decide +kernel
theorem dX4_become_190 : decode cX4_become 190 = .ok (.aload_n 1, 1) := by decide +kernel
theorem dX4_become_191 : decode cX4_become 191 = .ok (.getfield 43, 3) := by decide +kernel
theorem dX4_become_194 : decode cX4_become 194 = .ok (.iconst 0, 1) := by decide +kernel
theorem dX4_become_195 : decode cX4_become 195 = .ok (.aload_n 0, 1) := by decide +kernel
theorem dX4_become_196 : decode cX4_become 196 = .ok (.getfield 43, 3) := by decide +kernel
theorem dX4_become_199 : decode cX4_become 199 = .ok (.iconst 0, 1) := by decide +kernel
theorem dX4_become_200 : decode cX4_become 200 = .ok (.aload_n 0, 1) := by decide +kernel
theorem dX4_become_201 : decode cX4_become 201 = .ok (.getfield 43, 3) := by decide +kernel
theorem dX4_become_204 : decode cX4_become 204 = .ok (.arraylength, 1) := by decide +kernel
theorem dX4_become_205 : decode cX4_become 205 = .ok (.invokestatic 61, 3) := by decide +kernel
theorem dX4_become_208 : decode cX4_become 208 = .ok (.return_, 1) := by decide +kernel
theorem dX4_has_0 : decode cX4_has 0 = .ok (.iload_n 1, 1) := by decide +kernel
theorem dX4_has_1 : decode cX4_has 1 = .ok (.ifCond .lt 15, 3) := by decide +kernel
theorem dX4_has_4 : decode cX4_has 4 = .ok (.iload_n 1, 1) := by decide +kernel
theorem dX4_has_5 : decode cX4_has 5 = .ok (.aload_n 0, 1) := by decide +kernel
theorem dX4_has_6 : decode cX4_has 6 = .ok (.getfield 46, 3) := by decide +kernel
theorem dX4_has_9 : decode cX4_has 9 = .ok (.if_icmp .ge 7, 3) := by decide +kernel
theorem dX4_has_12 : decode cX4_has 12 = .ok (.iconst 1, 1) := by decide +kernel
theorem dX4_has_13 : decode cX4_has 13 = .ok (.goto 4, 3) := by decide +kernel
theorem dX4_has_16 : decode cX4_has 16 = .ok (.iconst 0, 1) := by decide +kernel
theorem dX4_has_17 : decode cX4_has 17 = .ok (.ireturn, 1) := by decide +kernel
theorem dX4_everybody_0 : decode cX4_everybody 0 = .ok (.iconst 1, 1) := by decide +kernel
theorem dX4_everybody_1 : decode cX4_everybody 1 = .ok (.aload_n 0, 1) := by decide +kernel
theorem dX4_everybody_2 : decode cX4_everybody 2 = .ok (.getfield 46, 3) := by decide +kernel
theorem dX4_everybody_5 : decode cX4_everybody 5 = .ok (.ishl, 1) := by decide +kernel
theorem dX4_everybody_6 : decode cX4_everybody 6 = .ok (.iconst 1, 1) := by decide +kernel
theorem dX4_everybody_7 : decode cX4_everybody 7 = .ok (.isub, 1) := by decide +kernel
theorem dX4_everybody_8 : decode cX4_everybody 8 = .ok (.ireturn, 1) := by decide +kernel
theorem dX4_enter_0 : decode cX4_enter 0 = .ok (.aload_n 0, 1) := by decide +kernel
theorem dX4_enter_1 : decode cX4_enter 1 = .ok (.getfield 21, 3) := by decide +kernel
theorem dX4_enter_4 : decode cX4_enter 4 = .ok (.aload_n 0, 1) := by decide +kernel
theorem dX4_enter_5 : decode cX4_enter 5 = .ok (.getfield 46, 3) := by decide +kernel
theorem dX4_enter_8 : decode cX4_enter 8 = .ok (.iload_n 1, 1) := by decide +kernel
theorem dX4_enter_9 : decode cX4_enter 9 = .ok (.iastore, 1) := by decide +kernel
theorem dX4_enter_10 : decode cX4_enter 10 = .ok (.aload_n 0, 1) := by decide +kernel
theorem dX4_enter_11 : decode cX4_enter 11 = .ok (.getfield 25, 3) := by decide +kernel
theorem dX4_enter_14 : decode cX4_enter 14 = .ok (.aload_n 0, 1) := by decide +kernel
theorem dX4_enter_15 : decode cX4_enter 15 = .ok (.getfield 46, 3) := by decide +kernel
theorem dX4_enter_18 : decode cX4_enter 18 = .ok (.iconst (-1), 1) := by decide +kernel
theorem dX4_enter_19 : decode cX4_enter 19 = .ok (.iastore, 1) := by decide +kernel
theorem dX4_enter_20 : decode cX4_enter 20 = .ok (.aload_n 0, 1) := by decide +kernel
theorem dX4_enter_21 : decode cX4_enter 21 = .ok (.dup, 1) := by decide +kernel
theorem dX4_enter_22 : decode cX4_enter 22 = .ok (.getfield 46, 3) := by decide +kernel
theorem dX4_enter_25 : decode cX4_enter 25 = .ok (.iconst 1, 1) := by decide +kernel
theorem dX4_enter_26 : decode cX4_enter 26 = .ok (.iadd, 1) := by decide +kernel
theorem dX4_enter_27 : decode cX4_enter 27 = .ok (.putfield 46, 3) := by decide +kernel
theorem dX4_enter_30 : decode cX4_enter 30 = .ok (.return_, 1) := by decide +kernel
theorem dX4_marry_0 : decode cX4_marry 0 = .ok (.aload_n 0, 1) := by decide +kernel
theorem dX4_marry_1 : decode cX4_marry 1 = .ok (.getfield 25, 3) := by decide +kernel
theorem dX4_marry_4 : decode cX4_marry 4 = .ok (.iload_n 1, 1) := by decide +kernel
theorem dX4_marry_5 : decode cX4_marry 5 = .ok (.iload_n 2, 1) := by decide +kernel
theorem dX4_marry_6 : decode cX4_marry 6 = .ok (.iastore, 1) := by decide +kernel
theorem dX4_marry_7 : decode cX4_marry 7 = .ok (.aload_n 0, 1) := by decide +kernel
theorem dX4_marry_8 : decode cX4_marry 8 = .ok (.getfield 25, 3) := by decide +kernel
theorem dX4_marry_11 : decode cX4_marry 11 = .ok (.iload_n 2, 1) := by decide +kernel
theorem dX4_marry_12 : decode cX4_marry 12 = .ok (.iload_n 1, 1) := by decide +kernel
theorem dX4_marry_13 : decode cX4_marry 13 = .ok (.iastore, 1) := by decide +kernel
theorem dX4_marry_14 : decode cX4_marry 14 = .ok (.return_, 1) := by decide +kernel
theorem dX4_couples_0 : decode cX4_couples 0 = .ok (.iconst 0, 1) := by decide +kernel
theorem dX4_couples_1 : decode cX4_couples 1 = .ok (.istore_n 1, 1) := by decide +kernel
theorem dX4_couples_2 : decode cX4_couples 2 = .ok (.iconst 0, 1) := by decide +kernel
theorem dX4_couples_3 : decode cX4_couples 3 = .ok (.istore_n 2, 1) := by decide +kernel
theorem dX4_couples_4 : decode cX4_couples 4 = .ok (.iload_n 2, 1) := by decide +kernel
theorem dX4_couples_5 : decode cX4_couples 5 = .ok (.aload_n 0, 1) := by decide +kernel
theorem dX4_couples_6 : decode cX4_couples 6 = .ok (.getfield 46, 3) := by decide +kernel
theorem dX4_couples_9 : decode cX4_couples 9 = .ok (.if_icmp .ge 22, 3) := by decide +kernel
theorem dX4_couples_12 : decode cX4_couples 12 = .ok (.aload_n 0, 1) := by decide +kernel
theorem dX4_couples_13 : decode cX4_couples 13 = .ok (.getfield 25, 3) := by decide +kernel
theorem dX4_couples_16 : decode cX4_couples 16 = .ok (.iload_n 2, 1) := by decide +kernel
theorem dX4_couples_17 : decode cX4_couples 17 = .ok (.iaload, 1) := by decide +kernel
theorem dX4_couples_18 : decode cX4_couples 18 = .ok (.iload_n 2, 1) := by decide +kernel
theorem dX4_couples_19 : decode cX4_couples 19 = .ok (.if_icmp .le 6, 3) := by decide +kernel
theorem dX4_couples_22 : decode cX4_couples 22 = .ok (.iinc 1 1, 3) := by decide +kernel
theorem dX4_couples_25 : decode cX4_couples 25 = .ok (.iinc 2 1, 3) := by decide +kernel
theorem dX4_couples_28 : decode cX4_couples 28 = .ok (.goto (-24), 3) := by decide +kernel
theorem dX4_couples_31 : decode cX4_couples 31 = .ok (.iload_n 1, 1) := by decide +kernel
theorem dX4_couples_32 : decode cX4_couples 32 = .ok (.ireturn, 1) := by decide +kernel
theorem dX4_likingOf_0 : decode cX4_likingOf 0 = .ok (.aload_n 0, 1) := by decide +kernel
theorem dX4_likingOf_1 : decode cX4_likingOf 1 = .ok (.getfield 34, 3) := by decide +kernel
theorem dX4_likingOf_4 : decode cX4_likingOf 4 = .ok (.iload_n 1, 1) := by decide +kernel
theorem dX4_likingOf_5 : decode cX4_likingOf 5 = .ok (.bipush 8, 2) := by decide +kernel
theorem dX4_likingOf_7 : decode cX4_likingOf 7 = .ok (.imul, 1) := by decide +kernel
theorem dX4_likingOf_8 : decode cX4_likingOf 8 = .ok (.iload_n 2, 1) := by decide +kernel
theorem dX4_likingOf_9 : decode cX4_likingOf 9 = .ok (.iadd, 1) := by decide +kernel
theorem dX4_likingOf_10 : decode cX4_likingOf 10 = .ok (.iaload, 1) := by decide +kernel
theorem dX4_likingOf_11 : decode cX4_likingOf 11 = .ok (.ireturn, 1) := by decide +kernel
theorem dX4_tie_0 : decode cX4_tie 0 = .ok (.aload_n 0, 1) := by decide +kernel
theorem dX4_tie_1 : decode cX4_tie 1 = .ok (.getfield 37, 3) := by decide +kernel
theorem dX4_tie_4 : decode cX4_tie 4 = .ok (.iload_n 1, 1) := by decide +kernel
theorem dX4_tie_5 : decode cX4_tie 5 = .ok (.bipush 8, 2) := by decide +kernel
theorem dX4_tie_7 : decode cX4_tie 7 = .ok (.imul, 1) := by decide +kernel
theorem dX4_tie_8 : decode cX4_tie 8 = .ok (.iload_n 2, 1) := by decide +kernel
theorem dX4_tie_9 : decode cX4_tie 9 = .ok (.iadd, 1) := by decide +kernel
theorem dX4_tie_10 : decode cX4_tie 10 = .ok (.iload_n 3, 1) := by decide +kernel
theorem dX4_tie_11 : decode cX4_tie 11 = .ok (.iastore, 1) := by decide +kernel
theorem dX4_tie_12 : decode cX4_tie 12 = .ok (.aload_n 0, 1) := by decide +kernel
theorem dX4_tie_13 : decode cX4_tie 13 = .ok (.getfield 37, 3) := by decide +kernel
theorem dX4_tie_16 : decode cX4_tie 16 = .ok (.iload_n 2, 1) := by decide +kernel
theorem dX4_tie_17 : decode cX4_tie 17 = .ok (.bipush 8, 2) := by decide +kernel
theorem dX4_tie_19 : decode cX4_tie 19 = .ok (.imul, 1) := by decide +kernel
theorem dX4_tie_20 : decode cX4_tie 20 = .ok (.iload_n 1, 1) := by decide +kernel
theorem dX4_tie_21 : decode cX4_tie 21 = .ok (.iadd, 1) := by decide +kernel
theorem dX4_tie_22 : decode cX4_tie 22 = .ok (.iload_n 3, 1) := by decide +kernel
theorem dX4_tie_23 : decode cX4_tie 23 = .ok (.iastore, 1) := by decide +kernel
theorem dX4_tie_24 : decode cX4_tie 24 = .ok (.aload_n 0, 1) := by decide +kernel
theorem dX4_tie_25 : decode cX4_tie 25 = .ok (.getfield 40, 3) := by decide +kernel
theorem dX4_tie_28 : decode cX4_tie 28 = .ok (.iload_n 1, 1) := by decide +kernel
theorem dX4_tie_29 : decode cX4_tie 29 = .ok (.bipush 8, 2) := by decide +kernel
theorem dX4_tie_31 : decode cX4_tie 31 = .ok (.imul, 1) := by decide +kernel
theorem dX4_tie_32 : decode cX4_tie 32 = .ok (.iload_n 2, 1) := by decide +kernel
theorem dX4_tie_33 : decode cX4_tie 33 = .ok (.iadd, 1) := by decide +kernel
theorem dX4_tie_34 : decode cX4_tie 34 = .ok (.iload 4, 2) := by decide +kernel
theorem dX4_tie_36 : decode cX4_tie 36 = .ok (.iastore, 1) := by decide +kernel
theorem dX4_tie_37 : decode cX4_tie 37 = .ok (.aload_n 0, 1) := by decide +kernel
theorem dX4_tie_38 : decode cX4_tie 38 = .ok (.getfield 40, 3) := by decide +kernel
theorem dX4_tie_41 : decode cX4_tie 41 = .ok (.iload_n 2, 1) := by decide +kernel
theorem dX4_tie_42 : decode cX4_tie 42 = .ok (.bipush 8, 2) := by decide +kernel
theorem dX4_tie_44 : decode cX4_tie 44 = .ok (.imul, 1) := by decide +kernel
theorem dX4_tie_45 : decode cX4_tie 45 = .ok (.iload_n 1, 1) := by decide +kernel
theorem dX4_tie_46 : decode cX4_tie 46 = .ok (.iadd, 1) := by decide +kernel
theorem dX4_tie_47 : decode cX4_tie 47 = .ok (.iload 4, 2) := by decide +kernel
theorem dX4_tie_49 : decode cX4_tie 49 = .ok (.iastore, 1) := by decide +kernel
theorem dX4_tie_50 : decode cX4_tie 50 = .ok (.return_, 1) := by decide +kernel
theorem dX4_holdsOn_0 : decode cX4_holdsOn 0 = .ok (.iload_n 1, 1) := by decide +kernel
theorem dX4_holdsOn_1 : decode cX4_holdsOn 1 = .ok (.bipush 8, 2) := by decide +kernel
theorem dX4_holdsOn_3 : decode cX4_holdsOn 3 = .ok (.imul, 1) := by decide +kernel
theorem dX4_holdsOn_4 : decode cX4_holdsOn 4 = .ok (.iload_n 2, 1) := by decide +kernel
theorem dX4_holdsOn_5 : decode cX4_holdsOn 5 = .ok (.iadd, 1) := by decide +kernel
theorem dX4_holdsOn_6 : decode cX4_holdsOn 6 = .ok (.istore 4, 2) := by decide +kernel
theorem dX4_holdsOn_8 : decode cX4_holdsOn 8 = .ok (.aload_n 0, 1) := by decide +kernel
theorem dX4_holdsOn_9 : decode cX4_holdsOn 9 = .ok (.getfield 37, 3) := by decide +kernel
theorem dX4_holdsOn_12 : decode cX4_holdsOn 12 = .ok (.iload 4, 2) := by decide +kernel
theorem dX4_holdsOn_14 : decode cX4_holdsOn 14 = .ok (.iaload, 1) := by decide +kernel
theorem dX4_holdsOn_15 : decode cX4_holdsOn 15 = .ok (.ifCond .le 18, 3) := by decide +kernel
theorem dX4_holdsOn_18 : decode cX4_holdsOn 18 = .ok (.iload_n 3, 1) := by decide +kernel
theorem dX4_holdsOn_19 : decode cX4_holdsOn 19 = .ok (.aload_n 0, 1) := by decide +kernel
theorem dX4_holdsOn_20 : decode cX4_holdsOn 20 = .ok (.getfield 40, 3) := by decide +kernel
theorem dX4_holdsOn_23 : decode cX4_holdsOn 23 = .ok (.iload 4, 2) := by decide +kernel
theorem dX4_holdsOn_25 : decode cX4_holdsOn 25 = .ok (.iaload, 1) := by decide +kernel
theorem dX4_holdsOn_26 : decode cX4_holdsOn 26 = .ok (.if_icmp .ge 7, 3) := by decide +kernel
theorem dX4_holdsOn_29 : decode cX4_holdsOn 29 = .ok (.iconst 1, 1) := by decide +kernel
theorem dX4_holdsOn_30 : decode cX4_holdsOn 30 = .ok (.goto 4, 3) := by decide +kernel
theorem dX4_holdsOn_33 : decode cX4_holdsOn 33 = .ok (.iconst 0, 1) := by decide +kernel
theorem dX4_holdsOn_34 : decode cX4_holdsOn 34 = .ok (.ireturn, 1) := by decide +kernel
theorem dX4_holds_0 : decode cX4_holds 0 = .ok (.aload_n 0, 1) := by decide +kernel
theorem dX4_holds_1 : decode cX4_holds 1 = .ok (.iload_n 1, 1) := by decide +kernel
theorem dX4_holds_2 : decode cX4_holds 2 = .ok (.iload_n 2, 1) := by decide +kernel
theorem dX4_holds_3 : decode cX4_holds 3 = .ok (.aload_n 0, 1) := by decide +kernel
theorem dX4_holds_4 : decode cX4_holds 4 = .ok (.getfield 55, 3) := by decide +kernel
theorem dX4_holds_7 : decode cX4_holds 7 = .ok (.invokevirtual 67, 3) := by decide +kernel
theorem dX4_holds_10 : decode cX4_holds 10 = .ok (.ireturn, 1) := by decide +kernel
theorem dX4_held_0 : decode cX4_held 0 = .ok (.aload_n 0, 1) := by decide +kernel
theorem dX4_held_1 : decode cX4_held 1 = .ok (.iload_n 1, 1) := by decide +kernel
theorem dX4_held_2 : decode cX4_held 2 = .ok (.iload_n 2, 1) := by decide +kernel
theorem dX4_held_3 : decode cX4_held 3 = .ok (.invokevirtual 71, 3) := by decide +kernel
theorem dX4_held_6 : decode cX4_held 6 = .ok (.ifCond .eq 17, 3) := by decide +kernel
theorem dX4_held_9 : decode cX4_held 9 = .ok (.aload_n 0, 1) := by decide +kernel
theorem dX4_held_10 : decode cX4_held 10 = .ok (.getfield 37, 3) := by decide +kernel
theorem dX4_held_13 : decode cX4_held 13 = .ok (.iload_n 1, 1) := by decide +kernel
theorem dX4_held_14 : decode cX4_held 14 = .ok (.bipush 8, 2) := by decide +kernel
theorem dX4_held_16 : decode cX4_held 16 = .ok (.imul, 1) := by decide +kernel
theorem dX4_held_17 : decode cX4_held 17 = .ok (.iload_n 2, 1) := by decide +kernel
theorem dX4_held_18 : decode cX4_held 18 = .ok (.iadd, 1) := by decide +kernel
theorem dX4_held_19 : decode cX4_held 19 = .ok (.iaload, 1) := by decide +kernel
theorem dX4_held_20 : decode cX4_held 20 = .ok (.goto 4, 3) := by decide +kernel
theorem dX4_held_23 : decode cX4_held 23 = .ok (.iconst 0, 1) := by decide +kernel
theorem dX4_held_24 : decode cX4_held 24 = .ok (.ireturn, 1) := by decide +kernel
theorem dX4_heldTill_0 : decode cX4_heldTill 0 = .ok (.aload_n 0, 1) := by decide +kernel
theorem dX4_heldTill_1 : decode cX4_heldTill 1 = .ok (.iload_n 1, 1) := by decide +kernel
theorem dX4_heldTill_2 : decode cX4_heldTill 2 = .ok (.iload_n 2, 1) := by decide +kernel
theorem dX4_heldTill_3 : decode cX4_heldTill 3 = .ok (.invokevirtual 71, 3) := by decide +kernel
theorem dX4_heldTill_6 : decode cX4_heldTill 6 = .ok (.ifCond .eq 17, 3) := by decide +kernel
theorem dX4_heldTill_9 : decode cX4_heldTill 9 = .ok (.aload_n 0, 1) := by decide +kernel
theorem dX4_heldTill_10 : decode cX4_heldTill 10 = .ok (.getfield 40, 3) := by decide +kernel
theorem dX4_heldTill_13 : decode cX4_heldTill 13 = .ok (.iload_n 1, 1) := by decide +kernel
theorem dX4_heldTill_14 : decode cX4_heldTill 14 = .ok (.bipush 8, 2) := by decide +kernel
theorem dX4_heldTill_16 : decode cX4_heldTill 16 = .ok (.imul, 1) := by decide +kernel
theorem dX4_heldTill_17 : decode cX4_heldTill 17 = .ok (.iload_n 2, 1) := by decide +kernel
theorem dX4_heldTill_18 : decode cX4_heldTill 18 = .ok (.iadd, 1) := by decide +kernel
theorem dX4_heldTill_19 : decode cX4_heldTill 19 = .ok (.iaload, 1) := by decide +kernel
theorem dX4_heldTill_20 : decode cX4_heldTill 20 = .ok (.goto 4, 3) := by decide +kernel
theorem dX4_heldTill_23 : decode cX4_heldTill 23 = .ok (.iconst (-1), 1) := by decide +kernel
theorem dX4_heldTill_24 : decode cX4_heldTill 24 = .ok (.ireturn, 1) := by decide +kernel
theorem dX4_isSecret_0 : decode cX4_isSecret 0 = .ok (.aload_n 0, 1) := by decide +kernel
theorem dX4_isSecret_1 : decode cX4_isSecret 1 = .ok (.getfield 25, 3) := by decide +kernel
theorem dX4_isSecret_4 : decode cX4_isSecret 4 = .ok (.iload_n 1, 1) := by decide +kernel
theorem dX4_isSecret_5 : decode cX4_isSecret 5 = .ok (.iaload, 1) := by decide +kernel
theorem dX4_isSecret_6 : decode cX4_isSecret 6 = .ok (.iload_n 2, 1) := by decide +kernel
theorem dX4_isSecret_7 : decode cX4_isSecret 7 = .ok (.if_icmp .eq 16, 3) := by decide +kernel
theorem dX4_isSecret_10 : decode cX4_isSecret 10 = .ok (.aload_n 0, 1) := by decide +kernel
theorem dX4_isSecret_11 : decode cX4_isSecret 11 = .ok (.iload_n 1, 1) := by decide +kernel
theorem dX4_isSecret_12 : decode cX4_isSecret 12 = .ok (.iload_n 2, 1) := by decide +kernel
theorem dX4_isSecret_13 : decode cX4_isSecret 13 = .ok (.invokevirtual 71, 3) := by decide +kernel
theorem dX4_isSecret_16 : decode cX4_isSecret 16 = .ok (.ifCond .eq 7, 3) := by decide +kernel
theorem dX4_isSecret_19 : decode cX4_isSecret 19 = .ok (.iconst 1, 1) := by decide +kernel
theorem dX4_isSecret_20 : decode cX4_isSecret 20 = .ok (.goto 4, 3) := by decide +kernel
theorem dX4_isSecret_23 : decode cX4_isSecret 23 = .ok (.iconst 0, 1) := by decide +kernel
theorem dX4_isSecret_24 : decode cX4_isSecret 24 = .ok (.ireturn, 1) := by decide +kernel
theorem dX4_boundTo_0 : decode cX4_boundTo 0 = .ok (.iconst 0, 1) := by decide +kernel
theorem dX4_boundTo_1 : decode cX4_boundTo 1 = .ok (.istore_n 2, 1) := by decide +kernel
theorem dX4_boundTo_2 : decode cX4_boundTo 2 = .ok (.iconst 0, 1) := by decide +kernel
theorem dX4_boundTo_3 : decode cX4_boundTo 3 = .ok (.istore_n 3, 1) := by decide +kernel
theorem dX4_boundTo_4 : decode cX4_boundTo 4 = .ok (.iload_n 3, 1) := by decide +kernel
theorem dX4_boundTo_5 : decode cX4_boundTo 5 = .ok (.aload_n 0, 1) := by decide +kernel
theorem dX4_boundTo_6 : decode cX4_boundTo 6 = .ok (.getfield 46, 3) := by decide +kernel
theorem dX4_boundTo_9 : decode cX4_boundTo 9 = .ok (.if_icmp .ge 24, 3) := by decide +kernel
theorem dX4_boundTo_12 : decode cX4_boundTo 12 = .ok (.aload_n 0, 1) := by decide +kernel
theorem dX4_boundTo_13 : decode cX4_boundTo 13 = .ok (.iload_n 1, 1) := by decide +kernel
theorem dX4_boundTo_14 : decode cX4_boundTo 14 = .ok (.iload_n 3, 1) := by decide +kernel
theorem dX4_boundTo_15 : decode cX4_boundTo 15 = .ok (.invokevirtual 71, 3) := by decide +kernel
theorem dX4_boundTo_18 : decode cX4_boundTo 18 = .ok (.ifCond .eq 9, 3) := by decide +kernel
theorem dX4_boundTo_21 : decode cX4_boundTo 21 = .ok (.iload_n 2, 1) := by decide +kernel
theorem dX4_boundTo_22 : decode cX4_boundTo 22 = .ok (.iconst 1, 1) := by decide +kernel
theorem dX4_boundTo_23 : decode cX4_boundTo 23 = .ok (.iload_n 3, 1) := by decide +kernel
theorem dX4_boundTo_24 : decode cX4_boundTo 24 = .ok (.ishl, 1) := by decide +kernel
theorem dX4_boundTo_25 : decode cX4_boundTo 25 = .ok (.ior, 1) := by decide +kernel
theorem dX4_boundTo_26 : decode cX4_boundTo 26 = .ok (.istore_n 2, 1) := by decide +kernel
theorem dX4_boundTo_27 : decode cX4_boundTo 27 = .ok (.iinc 3 1, 3) := by decide +kernel
theorem dX4_boundTo_30 : decode cX4_boundTo 30 = .ok (.goto (-26), 3) := by decide +kernel
theorem dX4_boundTo_33 : decode cX4_boundTo 33 = .ok (.iload_n 2, 1) := by decide +kernel
theorem dX4_boundTo_34 : decode cX4_boundTo 34 = .ok (.ireturn, 1) := by decide +kernel
theorem dX4_closest_0 : decode cX4_closest 0 = .ok (.iconst 0, 1) := by decide +kernel
theorem dX4_closest_1 : decode cX4_closest 1 = .ok (.istore_n 2, 1) := by decide +kernel
theorem dX4_closest_2 : decode cX4_closest 2 = .ok (.iconst (-1), 1) := by decide +kernel
theorem dX4_closest_3 : decode cX4_closest 3 = .ok (.istore_n 3, 1) := by decide +kernel
theorem dX4_closest_4 : decode cX4_closest 4 = .ok (.iconst 0, 1) := by decide +kernel
theorem dX4_closest_5 : decode cX4_closest 5 = .ok (.istore 4, 2) := by decide +kernel
theorem dX4_closest_7 : decode cX4_closest 7 = .ok (.iload 4, 2) := by decide +kernel
theorem dX4_closest_9 : decode cX4_closest 9 = .ok (.aload_n 0, 1) := by decide +kernel
theorem dX4_closest_10 : decode cX4_closest 10 = .ok (.getfield 46, 3) := by decide +kernel
theorem dX4_closest_13 : decode cX4_closest 13 = .ok (.if_icmp .ge 30, 3) := by decide +kernel
theorem dX4_closest_16 : decode cX4_closest 16 = .ok (.aload_n 0, 1) := by decide +kernel
theorem dX4_closest_17 : decode cX4_closest 17 = .ok (.iload_n 1, 1) := by decide +kernel
theorem dX4_closest_18 : decode cX4_closest 18 = .ok (.iload 4, 2) := by decide +kernel
theorem dX4_closest_20 : decode cX4_closest 20 = .ok (.invokevirtual 75, 3) := by decide +kernel
theorem dX4_closest_23 : decode cX4_closest 23 = .ok (.istore 5, 2) := by decide +kernel
theorem dX4_closest_25 : decode cX4_closest 25 = .ok (.iload 5, 2) := by decide +kernel
theorem dX4_closest_27 : decode cX4_closest 27 = .ok (.iload_n 2, 1) := by decide +kernel
theorem dX4_closest_28 : decode cX4_closest 28 = .ok (.if_icmp .le 9, 3) := by decide +kernel
theorem dX4_closest_31 : decode cX4_closest 31 = .ok (.iload 5, 2) := by decide +kernel
theorem dX4_closest_33 : decode cX4_closest 33 = .ok (.istore_n 2, 1) := by decide +kernel
theorem dX4_closest_34 : decode cX4_closest 34 = .ok (.iload 4, 2) := by decide +kernel
theorem dX4_closest_36 : decode cX4_closest 36 = .ok (.istore_n 3, 1) := by decide +kernel
theorem dX4_closest_37 : decode cX4_closest 37 = .ok (.iinc 4 1, 3) := by decide +kernel
theorem dX4_closest_40 : decode cX4_closest 40 = .ok (.goto (-33), 3) := by decide +kernel
theorem dX4_closest_43 : decode cX4_closest 43 = .ok (.iload_n 3, 1) := by decide +kernel
theorem dX4_closest_44 : decode cX4_closest 44 = .ok (.ireturn, 1) := by decide +kernel
theorem dX4_strongest_0 : decode cX4_strongest 0 = .ok (.aload_n 0, 1) := by decide +kernel
theorem dX4_strongest_1 : decode cX4_strongest 1 = .ok (.iload_n 1, 1) := by decide +kernel
theorem dX4_strongest_2 : decode cX4_strongest 2 = .ok (.invokevirtual 79, 3) := by decide +kernel
theorem dX4_strongest_5 : decode cX4_strongest 5 = .ok (.istore_n 2, 1) := by decide +kernel
theorem dX4_strongest_6 : decode cX4_strongest 6 = .ok (.iload_n 2, 1) := by decide +kernel
theorem dX4_strongest_7 : decode cX4_strongest 7 = .ok (.iconst (-1), 1) := by decide +kernel
theorem dX4_strongest_8 : decode cX4_strongest 8 = .ok (.if_icmp .ne 7, 3) := by decide +kernel
theorem dX4_strongest_11 : decode cX4_strongest 11 = .ok (.iconst 0, 1) := by decide +kernel
theorem dX4_strongest_12 : decode cX4_strongest 12 = .ok (.goto 9, 3) := by decide +kernel
theorem dX4_strongest_15 : decode cX4_strongest 15 = .ok (.aload_n 0, 1) := by decide +kernel
theorem dX4_strongest_16 : decode cX4_strongest 16 = .ok (.iload_n 1, 1) := by decide +kernel
theorem dX4_strongest_17 : decode cX4_strongest 17 = .ok (.iload_n 2, 1) := by decide +kernel
theorem dX4_strongest_18 : decode cX4_strongest 18 = .ok (.invokevirtual 75, 3) := by decide +kernel
theorem dX4_strongest_21 : decode cX4_strongest 21 = .ok (.ireturn, 1) := by decide +kernel
theorem dX4_allSuspicion_0 : decode cX4_allSuspicion 0 = .ok (.iconst 0, 1) := by decide +kernel
theorem dX4_allSuspicion_1 : decode cX4_allSuspicion 1 = .ok (.istore_n 1, 1) := by decide +kernel
theorem dX4_allSuspicion_2 : decode cX4_allSuspicion 2 = .ok (.iconst 0, 1) := by decide +kernel
theorem dX4_allSuspicion_3 : decode cX4_allSuspicion 3 = .ok (.istore_n 2, 1) := by decide +kernel
theorem dX4_allSuspicion_4 : decode cX4_allSuspicion 4 = .ok (.iload_n 2, 1) := by decide +kernel
theorem dX4_allSuspicion_5 : decode cX4_allSuspicion 5 = .ok (.aload_n 0, 1) := by decide +kernel
theorem dX4_allSuspicion_6 : decode cX4_allSuspicion 6 = .ok (.getfield 46, 3) := by decide +kernel
theorem dX4_allSuspicion_9 : decode cX4_allSuspicion 9 = .ok (.if_icmp .ge 18, 3) := by decide +kernel
theorem dX4_allSuspicion_12 : decode cX4_allSuspicion 12 = .ok (.iload_n 1, 1) := by decide +kernel
theorem dX4_allSuspicion_13 : decode cX4_allSuspicion 13 = .ok (.aload_n 0, 1) := by decide +kernel
theorem dX4_allSuspicion_14 : decode cX4_allSuspicion 14 = .ok (.getfield 28, 3) := by decide +kernel
theorem dX4_allSuspicion_17 : decode cX4_allSuspicion 17 = .ok (.iload_n 2, 1) := by decide +kernel
theorem dX4_allSuspicion_18 : decode cX4_allSuspicion 18 = .ok (.iaload, 1) := by decide +kernel
theorem dX4_allSuspicion_19 : decode cX4_allSuspicion 19 = .ok (.iadd, 1) := by decide +kernel
theorem dX4_allSuspicion_20 : decode cX4_allSuspicion 20 = .ok (.istore_n 1, 1) := by decide +kernel
theorem dX4_allSuspicion_21 : decode cX4_allSuspicion 21 = .ok (.iinc 2 1, 3) := by decide +kernel
theorem dX4_allSuspicion_24 : decode cX4_allSuspicion 24 = .ok (.goto (-20), 3) := by decide +kernel
theorem dX4_allSuspicion_27 : decode cX4_allSuspicion 27 = .ok (.iload_n 1, 1) := by decide +kernel
theorem dX4_allSuspicion_28 : decode cX4_allSuspicion 28 = .ok (.ireturn, 1) := by decide +kernel
theorem dX4_draw_0 : decode cX4_draw 0 = .ok (.aload_n 0, 1) := by decide +kernel
theorem dX4_draw_1 : decode cX4_draw 1 = .ok (.ldc 83, 2) := by decide +kernel
theorem dX4_draw_3 : decode cX4_draw 3 = .ok (.aload_n 0, 1) := by decide +kernel
theorem dX4_draw_4 : decode cX4_draw 4 = .ok (.getfield 18, 3) := by decide +kernel
theorem dX4_draw_7 : decode cX4_draw 7 = .ok (.imul, 1) := by decide +kernel
theorem dX4_draw_8 : decode cX4_draw 8 = .ok (.sipush 12345, 3) := by decide +kernel
theorem dX4_draw_11 : decode cX4_draw 11 = .ok (.iadd, 1) := by decide +kernel
theorem dX4_draw_12 : decode cX4_draw 12 = .ok (.putfield 18, 3) := by decide +kernel
theorem dX4_draw_15 : decode cX4_draw 15 = .ok (.aload_n 0, 1) := by decide +kernel
theorem dX4_draw_16 : decode cX4_draw 16 = .ok (.getfield 18, 3) := by decide +kernel
theorem dX4_draw_19 : decode cX4_draw 19 = .ok (.bipush 16, 2) := by decide +kernel
theorem dX4_draw_21 : decode cX4_draw 21 = .ok (.iushr, 1) := by decide +kernel
theorem dX4_draw_22 : decode cX4_draw 22 = .ok (.sipush 32767, 3) := by decide +kernel
theorem dX4_draw_25 : decode cX4_draw 25 = .ok (.iand, 1) := by decide +kernel
theorem dX4_draw_26 : decode cX4_draw 26 = .ok (.ireturn, 1) := by decide +kernel
theorem dX4_leaveFootprint_0 : decode cX4_leaveFootprint 0 = .ok (.aload_n 0, 1) := by decide +kernel
theorem dX4_leaveFootprint_1 : decode cX4_leaveFootprint 1 = .ok (.getfield 28, 3) := by decide +kernel
theorem dX4_leaveFootprint_4 : decode cX4_leaveFootprint 4 = .ok (.iload_n 1, 1) := by decide +kernel
theorem dX4_leaveFootprint_5 : decode cX4_leaveFootprint 5 = .ok (.bipush 99, 2) := by decide +kernel
theorem dX4_leaveFootprint_7 : decode cX4_leaveFootprint 7 = .ok (.aload_n 0, 1) := by decide +kernel
theorem dX4_leaveFootprint_8 : decode cX4_leaveFootprint 8 = .ok (.getfield 28, 3) := by decide +kernel
theorem dX4_leaveFootprint_11 : decode cX4_leaveFootprint 11 = .ok (.iload_n 1, 1) := by decide +kernel
theorem dX4_leaveFootprint_12 : decode cX4_leaveFootprint 12 = .ok (.iaload, 1) := by decide +kernel
theorem dX4_leaveFootprint_13 : decode cX4_leaveFootprint 13 = .ok (.iload_n 3, 1) := by decide +kernel
theorem dX4_leaveFootprint_14 : decode cX4_leaveFootprint 14 = .ok (.iadd, 1) := by decide +kernel
theorem dX4_leaveFootprint_15 : decode cX4_leaveFootprint 15 = .ok (.invokestatic 84, 3) := by decide +kernel
theorem dX4_leaveFootprint_18 : decode cX4_leaveFootprint 18 = .ok (.iastore, 1) := by decide +kernel
theorem dX4_leaveFootprint_19 : decode cX4_leaveFootprint 19 = .ok (.aload_n 0, 1) := by decide +kernel
theorem dX4_leaveFootprint_20 : decode cX4_leaveFootprint 20 = .ok (.getfield 28, 3) := by decide +kernel
theorem dX4_leaveFootprint_23 : decode cX4_leaveFootprint 23 = .ok (.iload_n 2, 1) := by decide +kernel
theorem dX4_leaveFootprint_24 : decode cX4_leaveFootprint 24 = .ok (.bipush 99, 2) := by decide +kernel
theorem dX4_leaveFootprint_26 : decode cX4_leaveFootprint 26 = .ok (.aload_n 0, 1) := by decide +kernel
theorem dX4_leaveFootprint_27 : decode cX4_leaveFootprint 27 = .ok (.getfield 28, 3) := by decide +kernel
theorem dX4_leaveFootprint_30 : decode cX4_leaveFootprint 30 = .ok (.iload_n 2, 1) := by decide +kernel
theorem dX4_leaveFootprint_31 : decode cX4_leaveFootprint 31 = .ok (.iaload, 1) := by decide +kernel
theorem dX4_leaveFootprint_32 : decode cX4_leaveFootprint 32 = .ok (.iload_n 3, 1) := by decide +kernel
theorem dX4_leaveFootprint_33 : decode cX4_leaveFootprint 33 = .ok (.iadd, 1) := by decide +kernel
theorem dX4_leaveFootprint_34 : decode cX4_leaveFootprint 34 = .ok (.invokestatic 84, 3) := by decide +kernel
theorem dX4_leaveFootprint_37 : decode cX4_leaveFootprint 37 = .ok (.iastore, 1) := by decide +kernel
theorem dX4_leaveFootprint_38 : decode cX4_leaveFootprint 38 = .ok (.aload_n 0, 1) := by decide +kernel
theorem dX4_leaveFootprint_39 : decode cX4_leaveFootprint 39 = .ok (.getfield 43, 3) := by decide +kernel
theorem dX4_leaveFootprint_42 : decode cX4_leaveFootprint 42 = .ok (.aload_n 0, 1) := by decide +kernel
theorem dX4_leaveFootprint_43 : decode cX4_leaveFootprint 43 = .ok (.getfield 58, 3) := by decide +kernel
theorem dX4_leaveFootprint_46 : decode cX4_leaveFootprint 46 = .ok (.bipush 60, 2) := by decide +kernel
theorem dX4_leaveFootprint_48 : decode cX4_leaveFootprint 48 = .ok (.irem, 1) := by decide +kernel
theorem dX4_leaveFootprint_49 : decode cX4_leaveFootprint 49 = .ok (.aload_n 0, 1) := by decide +kernel
theorem dX4_leaveFootprint_50 : decode cX4_leaveFootprint 50 = .ok (.getfield 55, 3) := by decide +kernel
theorem dX4_leaveFootprint_53 : decode cX4_leaveFootprint 53 = .ok (.bipush 9, 2) := by decide +kernel
theorem dX4_leaveFootprint_55 : decode cX4_leaveFootprint 55 = .ok (.ishl, 1) := by decide +kernel
theorem dX4_leaveFootprint_56 : decode cX4_leaveFootprint 56 = .ok (.iload_n 1, 1) := by decide +kernel
theorem dX4_leaveFootprint_57 : decode cX4_leaveFootprint 57 = .ok (.bipush 6, 2) := by decide +kernel
theorem dX4_leaveFootprint_59 : decode cX4_leaveFootprint 59 = .ok (.ishl, 1) := by decide +kernel
theorem dX4_leaveFootprint_60 : decode cX4_leaveFootprint 60 = .ok (.ior, 1) := by decide +kernel
theorem dX4_leaveFootprint_61 : decode cX4_leaveFootprint 61 = .ok (.iload_n 2, 1) := by decide +kernel
theorem dX4_leaveFootprint_62 : decode cX4_leaveFootprint 62 = .ok (.iconst 3, 1) := by decide +kernel
theorem dX4_leaveFootprint_63 : decode cX4_leaveFootprint 63 = .ok (.ishl, 1) := by decide +kernel
theorem dX4_leaveFootprint_64 : decode cX4_leaveFootprint 64 = .ok (.ior, 1) := by decide +kernel
theorem dX4_leaveFootprint_65 : decode cX4_leaveFootprint 65 = .ok (.aload_n 0, 1) := by decide +kernel
theorem dX4_leaveFootprint_66 : decode cX4_leaveFootprint 66 = .ok (.getfield 21, 3) := by decide +kernel
theorem dX4_leaveFootprint_69 : decode cX4_leaveFootprint 69 = .ok (.iload_n 1, 1) := by decide +kernel
theorem dX4_leaveFootprint_70 : decode cX4_leaveFootprint 70 = .ok (.iaload, 1) := by decide +kernel
theorem dX4_leaveFootprint_71 : decode cX4_leaveFootprint 71 = .ok (.ior, 1) := by decide +kernel
theorem dX4_leaveFootprint_72 : decode cX4_leaveFootprint 72 = .ok (.iastore, 1) := by decide +kernel
theorem dX4_leaveFootprint_73 : decode cX4_leaveFootprint 73 = .ok (.aload_n 0, 1) := by decide +kernel
theorem dX4_leaveFootprint_74 : decode cX4_leaveFootprint 74 = .ok (.dup, 1) := by decide +kernel
theorem dX4_leaveFootprint_75 : decode cX4_leaveFootprint 75 = .ok (.getfield 58, 3) := by decide +kernel
theorem dX4_leaveFootprint_78 : decode cX4_leaveFootprint 78 = .ok (.iconst 1, 1) := by decide +kernel
theorem dX4_leaveFootprint_79 : decode cX4_leaveFootprint 79 = .ok (.iadd, 1) := by decide +kernel
theorem dX4_leaveFootprint_80 : decode cX4_leaveFootprint 80 = .ok (.putfield 58, 3) := by decide +kernel
theorem dX4_leaveFootprint_83 : decode cX4_leaveFootprint 83 = .ok (.return_, 1) := by decide +kernel
theorem dX4_rows_0 : decode cX4_rows 0 = .ok (.aload_n 0, 1) := by decide +kernel
theorem dX4_rows_1 : decode cX4_rows 1 = .ok (.getfield 58, 3) := by decide +kernel
theorem dX4_rows_4 : decode cX4_rows 4 = .ok (.bipush 60, 2) := by decide +kernel
theorem dX4_rows_6 : decode cX4_rows 6 = .ok (.invokestatic 84, 3) := by decide +kernel
theorem dX4_rows_9 : decode cX4_rows 9 = .ok (.ireturn, 1) := by decide +kernel
theorem dX4_rowOf_0 : decode cX4_rowOf 0 = .ok (.aload_n 0, 1) := by decide +kernel
theorem dX4_rowOf_1 : decode cX4_rowOf 1 = .ok (.getfield 43, 3) := by decide +kernel
theorem dX4_rowOf_4 : decode cX4_rowOf 4 = .ok (.aload_n 0, 1) := by decide +kernel
theorem dX4_rowOf_5 : decode cX4_rowOf 5 = .ok (.getfield 58, 3) := by decide +kernel
theorem dX4_rowOf_8 : decode cX4_rowOf 8 = .ok (.iconst 1, 1) := by decide +kernel
theorem dX4_rowOf_9 : decode cX4_rowOf 9 = .ok (.isub, 1) := by decide +kernel
theorem dX4_rowOf_10 : decode cX4_rowOf 10 = .ok (.iload_n 1, 1) := by decide +kernel
theorem dX4_rowOf_11 : decode cX4_rowOf 11 = .ok (.isub, 1) := by decide +kernel
theorem dX4_rowOf_12 : decode cX4_rowOf 12 = .ok (.bipush 60, 2) := by decide +kernel
theorem dX4_rowOf_14 : decode cX4_rowOf 14 = .ok (.irem, 1) := by decide +kernel
theorem dX4_rowOf_15 : decode cX4_rowOf 15 = .ok (.iaload, 1) := by decide +kernel
theorem dX4_rowOf_16 : decode cX4_rowOf 16 = .ok (.ireturn, 1) := by decide +kernel
theorem dX4_rowPart_0 : decode cX4_rowPart 0 = .ok (.iload_n 1, 1) := by decide +kernel
theorem dX4_rowPart_1 : decode cX4_rowPart 1 = .ok (.ifCond .ne 10, 3) := by decide +kernel
theorem dX4_rowPart_4 : decode cX4_rowPart 4 = .ok (.iload_n 0, 1) := by decide +kernel
theorem dX4_rowPart_5 : decode cX4_rowPart 5 = .ok (.bipush 9, 2) := by decide +kernel
theorem dX4_rowPart_7 : decode cX4_rowPart 7 = .ok (.iushr, 1) := by decide +kernel
theorem dX4_rowPart_8 : decode cX4_rowPart 8 = .ok (.goto 14, 3) := by decide +kernel
theorem dX4_rowPart_11 : decode cX4_rowPart 11 = .ok (.iload_n 0, 1) := by decide +kernel
theorem dX4_rowPart_12 : decode cX4_rowPart 12 = .ok (.bipush 9, 2) := by decide +kernel
theorem dX4_rowPart_14 : decode cX4_rowPart 14 = .ok (.iconst 3, 1) := by decide +kernel
theorem dX4_rowPart_15 : decode cX4_rowPart 15 = .ok (.iload_n 1, 1) := by decide +kernel
theorem dX4_rowPart_16 : decode cX4_rowPart 16 = .ok (.imul, 1) := by decide +kernel
theorem dX4_rowPart_17 : decode cX4_rowPart 17 = .ok (.isub, 1) := by decide +kernel
theorem dX4_rowPart_18 : decode cX4_rowPart 18 = .ok (.iushr, 1) := by decide +kernel
theorem dX4_rowPart_19 : decode cX4_rowPart 19 = .ok (.bipush 7, 2) := by decide +kernel
theorem dX4_rowPart_21 : decode cX4_rowPart 21 = .ok (.iand, 1) := by decide +kernel
theorem dX4_rowPart_22 : decode cX4_rowPart 22 = .ok (.ireturn, 1) := by decide +kernel
theorem dX4_rowHas_0 : decode cX4_rowHas 0 = .ok (.iload_n 0, 1) := by decide +kernel
theorem dX4_rowHas_1 : decode cX4_rowHas 1 = .ok (.iconst 1, 1) := by decide +kernel
theorem dX4_rowHas_2 : decode cX4_rowHas 2 = .ok (.invokestatic 89, 3) := by decide +kernel
theorem dX4_rowHas_5 : decode cX4_rowHas 5 = .ok (.iload_n 1, 1) := by decide +kernel
theorem dX4_rowHas_6 : decode cX4_rowHas 6 = .ok (.if_icmp .eq 12, 3) := by decide +kernel
theorem dX4_rowHas_9 : decode cX4_rowHas 9 = .ok (.iload_n 0, 1) := by decide +kernel
theorem dX4_rowHas_10 : decode cX4_rowHas 10 = .ok (.iconst 2, 1) := by decide +kernel
theorem dX4_rowHas_11 : decode cX4_rowHas 11 = .ok (.invokestatic 89, 3) := by decide +kernel
theorem dX4_rowHas_14 : decode cX4_rowHas 14 = .ok (.iload_n 1, 1) := by decide +kernel
theorem dX4_rowHas_15 : decode cX4_rowHas 15 = .ok (.if_icmp .ne 7, 3) := by decide +kernel
theorem dX4_rowHas_18 : decode cX4_rowHas 18 = .ok (.iconst 1, 1) := by decide +kernel
theorem dX4_rowHas_19 : decode cX4_rowHas 19 = .ok (.goto 4, 3) := by decide +kernel
theorem dX4_rowHas_22 : decode cX4_rowHas 22 = .ok (.iconst 0, 1) := by decide +kernel
theorem dX4_rowHas_23 : decode cX4_rowHas 23 = .ok (.ireturn, 1) := by decide +kernel
theorem dJ0_length_8abf5_0 : decode cJ0_length_8abf5 0 = .ok (.aload_n 0, 1) := by decide +kernel
theorem dJ0_length_8abf5_1 : decode cJ0_length_8abf5 1 = .ok (.getfield 9, 3) := by decide +kernel
theorem dJ0_length_8abf5_4 : decode cJ0_length_8abf5 4 = .ok (.arraylength, 1) := by decide +kernel
theorem dJ0_length_8abf5_5 : decode cJ0_length_8abf5 5 = .ok (.aload_n 0, 1) := by decide +kernel
theorem dJ0_length_8abf5_6 : decode cJ0_length_8abf5 6 = .ok (.invokevirtual 335, 3) := by decide +kernel
theorem dJ0_length_8abf5_9 : decode cJ0_length_8abf5 9 = .ok (.ishr, 1) := by decide +kernel
theorem dJ0_length_8abf5_10 : decode cJ0_length_8abf5 10 = .ok (.ireturn, 1) := by decide +kernel
theorem dJ0_charAt_5068e_0 : decode cJ0_charAt_5068e 0 = .ok (.aload_n 0, 1) := by decide +kernel
theorem dJ0_charAt_5068e_1 : decode cJ0_charAt_5068e 1 = .ok (.invokevirtual 492, 3) := by decide +kernel
theorem dJ0_charAt_5068e_4 : decode cJ0_charAt_5068e 4 = .ok (.ifCond .eq 12, 3) := by decide +kernel
theorem dJ0_charAt_5068e_7 : decode cJ0_charAt_5068e 7 = .ok (.aload_n 0, 1) := by decide +kernel
theorem dJ0_charAt_5068e_8 : decode cJ0_charAt_5068e 8 = .ok (.getfield 9, 3) := by decide +kernel
theorem dJ0_charAt_5068e_11 : decode cJ0_charAt_5068e 11 = .ok (.iload_n 1, 1) := by decide +kernel
theorem dJ0_charAt_5068e_12 : decode cJ0_charAt_5068e 12 = .ok (.invokestatic 495, 3) := by decide +kernel
theorem dJ0_charAt_5068e_15 : decode cJ0_charAt_5068e 15 = .ok (.ireturn, 1) := by decide +kernel
theorem dJ0_charAt_5068e_16 : decode cJ0_charAt_5068e 16 = .ok (.aload_n 0, 1) := by decide +kernel
theorem dJ0_charAt_5068e_17 : decode cJ0_charAt_5068e 17 = .ok (.getfield 9, 3) := by decide +kernel
theorem dJ0_charAt_5068e_20 : decode cJ0_charAt_5068e 20 = .ok (.iload_n 1, 1) := by decide +kernel
theorem dJ0_charAt_5068e_21 : decode cJ0_charAt_5068e 21 = .ok (.invokestatic 498, 3) := by decide +kernel
theorem dJ0_charAt_5068e_24 : decode cJ0_charAt_5068e 24 = .ok (.ireturn, 1) := by decide +kernel
theorem dJ0_coder_7d493_0 : decode cJ0_coder_7d493 0 = .ok (.getstatic 38, 3) := by decide +kernel
theorem dJ0_coder_7d493_3 : decode cJ0_coder_7d493 3 = .ok (.ifCond .eq 10, 3) := by decide +kernel
theorem dJ0_coder_7d493_6 : decode cJ0_coder_7d493 6 = .ok (.aload_n 0, 1) := by decide +kernel
theorem dJ0_coder_7d493_7 : decode cJ0_coder_7d493 7 = .ok (.getfield 15, 3) := by decide +kernel
theorem dJ0_coder_7d493_10 : decode cJ0_coder_7d493 10 = .ok (.goto 4, 3) := by decide +kernel
theorem dJ0_coder_7d493_13 : decode cJ0_coder_7d493 13 = .ok (.iconst 1, 1) := by decide +kernel
theorem dJ0_coder_7d493_14 : decode cJ0_coder_7d493 14 = .ok (.ireturn, 1) := by decide +kernel
theorem dJ0_isLatin1_aae02_0 : decode cJ0_isLatin1_aae02 0 = .ok (.getstatic 38, 3) := by decide +kernel
theorem dJ0_isLatin1_aae02_3 : decode cJ0_isLatin1_aae02 3 = .ok (.ifCond .eq 14, 3) := by decide +kernel
theorem dJ0_isLatin1_aae02_6 : decode cJ0_isLatin1_aae02 6 = .ok (.aload_n 0, 1) := by decide +kernel
theorem dJ0_isLatin1_aae02_7 : decode cJ0_isLatin1_aae02 7 = .ok (.getfield 15, 3) := by decide +kernel
theorem dJ0_isLatin1_aae02_10 : decode cJ0_isLatin1_aae02 10 = .ok (.ifCond .ne 7, 3) := by decide +kernel
theorem dJ0_isLatin1_aae02_13 : decode cJ0_isLatin1_aae02 13 = .ok (.iconst 1, 1) := by decide +kernel
theorem dJ0_isLatin1_aae02_14 : decode cJ0_isLatin1_aae02 14 = .ok (.goto 4, 3) := by decide +kernel
theorem dJ0_isLatin1_aae02_17 : decode cJ0_isLatin1_aae02 17 = .ok (.iconst 0, 1) := by decide +kernel
theorem dJ0_isLatin1_aae02_18 : decode cJ0_isLatin1_aae02 18 = .ok (.ireturn, 1) := by decide +kernel
theorem dJ0_checkIndex_df160_0 : decode cJ0_checkIndex_df160 0 = .ok (.iload_n 0, 1) := by decide +kernel
theorem dJ0_checkIndex_df160_1 : decode cJ0_checkIndex_df160 1 = .ok (.iload_n 1, 1) := by decide +kernel
theorem dJ0_checkIndex_df160_2 : decode cJ0_checkIndex_df160 2 = .ok (.getstatic 1053, 3) := by decide +kernel
theorem dJ0_checkIndex_df160_5 : decode cJ0_checkIndex_df160 5 = .ok (.invokestatic 1059, 3) := by decide +kernel
theorem dJ0_checkIndex_df160_8 : decode cJ0_checkIndex_df160 8 = .ok (.pop, 1) := by decide +kernel
theorem dJ0_checkIndex_df160_9 : decode cJ0_checkIndex_df160 9 = .ok (.return_, 1) := by decide +kernel
theorem dJ1_charAt_3b067_0 : decode cJ1_charAt_3b067 0 = .ok (.iload_n 1, 1) := by decide +kernel
theorem dJ1_charAt_3b067_1 : decode cJ1_charAt_3b067 1 = .ok (.aload_n 0, 1) := by decide +kernel
theorem dJ1_charAt_3b067_2 : decode cJ1_charAt_3b067 2 = .ok (.arraylength, 1) := by decide +kernel
theorem dJ1_charAt_3b067_3 : decode cJ1_charAt_3b067 3 = .ok (.invokestatic 9, 3) := by decide +kernel
theorem dJ1_charAt_3b067_6 : decode cJ1_charAt_3b067 6 = .ok (.aload_n 0, 1) := by decide +kernel
theorem dJ1_charAt_3b067_7 : decode cJ1_charAt_3b067 7 = .ok (.iload_n 1, 1) := by decide +kernel
theorem dJ1_charAt_3b067_8 : decode cJ1_charAt_3b067 8 = .ok (.baload, 1) := by decide +kernel
theorem dJ1_charAt_3b067_9 : decode cJ1_charAt_3b067 9 = .ok (.sipush 255, 3) := by decide +kernel
theorem dJ1_charAt_3b067_12 : decode cJ1_charAt_3b067 12 = .ok (.iand, 1) := by decide +kernel
theorem dJ1_charAt_3b067_13 : decode cJ1_charAt_3b067 13 = .ok (.i2c, 1) := by decide +kernel
theorem dJ1_charAt_3b067_14 : decode cJ1_charAt_3b067 14 = .ok (.ireturn, 1) := by decide +kernel
theorem dJ2_getChar_3b067_0 : decode cJ2_getChar_3b067 0 = .ok (.getstatic 44, 3) := by decide +kernel
theorem dJ2_getChar_3b067_3 : decode cJ2_getChar_3b067 3 = .ok (.ifCond .ne 25, 3) := by decide +kernel
theorem dJ2_getChar_3b067_6 : decode cJ2_getChar_3b067 6 = .ok (.iload_n 1, 1) := by decide +kernel
theorem dJ2_getChar_3b067_7 : decode cJ2_getChar_3b067 7 = .ok (.ifCond .lt 11, 3) := by decide +kernel
theorem dJ2_getChar_3b067_10 : decode cJ2_getChar_3b067 10 = .ok (.iload_n 1, 1) := by decide +kernel
theorem dJ2_getChar_3b067_11 : decode cJ2_getChar_3b067 11 = .ok (.aload_n 0, 1) := by decide +kernel
theorem dJ2_getChar_3b067_12 : decode cJ2_getChar_3b067 12 = .ok (.invokestatic 48, 3) := by decide +kernel
theorem dJ2_getChar_3b067_15 : decode cJ2_getChar_3b067 15 = .ok (.if_icmp .lt 13, 3) := by decide +kernel
theorem dJ2_getChar_3b067_18 : decode cJ2_getChar_3b067 18 = .ok (.new 52, 3) := by decide +kernel
theorem dJ2_getChar_3b067_21 : decode cJ2_getChar_3b067 21 = .ok (.dup, 1) := by decide +kernel
theorem dJ2_getChar_3b067_22 : decode cJ2_getChar_3b067 22 = .ok (.ldc 54, 2) := by decide +kernel
theorem dJ2_getChar_3b067_24 : decode cJ2_getChar_3b067 24 = .ok (.invokespecial 56, 3) := by decide +kernel
theorem dJ2_getChar_3b067_27 : decode cJ2_getChar_3b067 27 = .ok (.athrow, 1) := by decide +kernel
theorem dJ2_getChar_3b067_28 : decode cJ2_getChar_3b067 28 = .ok (.iload_n 1, 1) := by decide +kernel
theorem dJ2_getChar_3b067_29 : decode cJ2_getChar_3b067 29 = .ok (.iconst 1, 1) := by decide +kernel
theorem dJ2_getChar_3b067_30 : decode cJ2_getChar_3b067 30 = .ok (.ishl, 1) := by decide +kernel
theorem dJ2_getChar_3b067_31 : decode cJ2_getChar_3b067 31 = .ok (.istore_n 1, 1) := by decide +kernel
theorem dJ2_getChar_3b067_32 : decode cJ2_getChar_3b067 32 = .ok (.aload_n 0, 1) := by decide +kernel
theorem dJ2_getChar_3b067_33 : decode cJ2_getChar_3b067 33 = .ok (.iload_n 1, 1) := by decide +kernel
theorem dJ2_getChar_3b067_34 : decode cJ2_getChar_3b067 34 = .ok (.iinc 1 1, 3) := by decide +kernel
theorem dJ2_getChar_3b067_37 : decode cJ2_getChar_3b067 37 = .ok (.baload, 1) := by decide +kernel
theorem dJ2_getChar_3b067_38 : decode cJ2_getChar_3b067 38 = .ok (.sipush 255, 3) := by decide +kernel
theorem dJ2_getChar_3b067_41 : decode cJ2_getChar_3b067 41 = .ok (.iand, 1) := by decide +kernel
theorem dJ2_getChar_3b067_42 : decode cJ2_getChar_3b067 42 = .ok (.getstatic 59, 3) := by decide +kernel
theorem dJ2_getChar_3b067_45 : decode cJ2_getChar_3b067 45 = .ok (.ishl, 1) := by decide +kernel
theorem dJ2_getChar_3b067_46 : decode cJ2_getChar_3b067 46 = .ok (.aload_n 0, 1) := by decide +kernel
theorem dJ2_getChar_3b067_47 : decode cJ2_getChar_3b067 47 = .ok (.iload_n 1, 1) := by decide +kernel
theorem dJ2_getChar_3b067_48 : decode cJ2_getChar_3b067 48 = .ok (.baload, 1) := by decide +kernel
theorem dJ2_getChar_3b067_49 : decode cJ2_getChar_3b067 49 = .ok (.sipush 255, 3) := by decide +kernel
theorem dJ2_getChar_3b067_52 : decode cJ2_getChar_3b067 52 = .ok (.iand, 1) := by decide +kernel
theorem dJ2_getChar_3b067_53 : decode cJ2_getChar_3b067 53 = .ok (.getstatic 63, 3) := by decide +kernel
theorem dJ2_getChar_3b067_56 : decode cJ2_getChar_3b067 56 = .ok (.ishl, 1) := by decide +kernel
theorem dJ2_getChar_3b067_57 : decode cJ2_getChar_3b067 57 = .ok (.ior, 1) := by decide +kernel
theorem dJ2_getChar_3b067_58 : decode cJ2_getChar_3b067 58 = .ok (.i2c, 1) := by decide +kernel
theorem dJ2_getChar_3b067_59 : decode cJ2_getChar_3b067 59 = .ok (.ireturn, 1) := by decide +kernel
theorem dJ2_length_9d52b_0 : decode cJ2_length_9d52b 0 = .ok (.aload_n 0, 1) := by decide +kernel
theorem dJ2_length_9d52b_1 : decode cJ2_length_9d52b 1 = .ok (.arraylength, 1) := by decide +kernel
theorem dJ2_length_9d52b_2 : decode cJ2_length_9d52b 2 = .ok (.iconst 1, 1) := by decide +kernel
theorem dJ2_length_9d52b_3 : decode cJ2_length_9d52b 3 = .ok (.ishr, 1) := by decide +kernel
theorem dJ2_length_9d52b_4 : decode cJ2_length_9d52b 4 = .ok (.ireturn, 1) := by decide +kernel
theorem dJ2_charAt_3b067_0 : decode cJ2_charAt_3b067 0 = .ok (.iload_n 1, 1) := by decide +kernel
theorem dJ2_charAt_3b067_1 : decode cJ2_charAt_3b067 1 = .ok (.aload_n 0, 1) := by decide +kernel
theorem dJ2_charAt_3b067_2 : decode cJ2_charAt_3b067 2 = .ok (.invokestatic 67, 3) := by decide +kernel
theorem dJ2_charAt_3b067_5 : decode cJ2_charAt_3b067 5 = .ok (.aload_n 0, 1) := by decide +kernel
theorem dJ2_charAt_3b067_6 : decode cJ2_charAt_3b067 6 = .ok (.iload_n 1, 1) := by decide +kernel
theorem dJ2_charAt_3b067_7 : decode cJ2_charAt_3b067 7 = .ok (.invokestatic 71, 3) := by decide +kernel
theorem dJ2_charAt_3b067_10 : decode cJ2_charAt_3b067 10 = .ok (.ireturn, 1) := by decide +kernel
theorem dJ2_checkIndex_2214a_0 : decode cJ2_checkIndex_2214a 0 = .ok (.iload_n 0, 1) := by decide +kernel
theorem dJ2_checkIndex_2214a_1 : decode cJ2_checkIndex_2214a 1 = .ok (.aload_n 1, 1) := by decide +kernel
theorem dJ2_checkIndex_2214a_2 : decode cJ2_checkIndex_2214a 2 = .ok (.invokestatic 48, 3) := by decide +kernel
theorem dJ2_checkIndex_2214a_5 : decode cJ2_checkIndex_2214a 5 = .ok (.invokestatic 414, 3) := by decide +kernel
theorem dJ2_checkIndex_2214a_8 : decode cJ2_checkIndex_2214a 8 = .ok (.return_, 1) := by decide +kernel
theorem dJ3_checkIndex_8e157_0 : decode cJ3_checkIndex_8e157 0 = .ok (.iload_n 0, 1) := by decide +kernel
theorem dJ3_checkIndex_8e157_1 : decode cJ3_checkIndex_8e157 1 = .ok (.ifCond .lt 8, 3) := by decide +kernel
theorem dJ3_checkIndex_8e157_4 : decode cJ3_checkIndex_8e157 4 = .ok (.iload_n 0, 1) := by decide +kernel
theorem dJ3_checkIndex_8e157_5 : decode cJ3_checkIndex_8e157 5 = .ok (.iload_n 1, 1) := by decide +kernel
theorem dJ3_checkIndex_8e157_6 : decode cJ3_checkIndex_8e157 6 = .ok (.if_icmp .lt 10, 3) := by decide +kernel
theorem dJ3_checkIndex_8e157_9 : decode cJ3_checkIndex_8e157 9 = .ok (.aload_n 2, 1) := by decide +kernel
theorem dJ3_checkIndex_8e157_10 : decode cJ3_checkIndex_8e157 10 = .ok (.iload_n 0, 1) := by decide +kernel
theorem dJ3_checkIndex_8e157_11 : decode cJ3_checkIndex_8e157 11 = .ok (.iload_n 1, 1) := by decide +kernel
theorem dJ3_checkIndex_8e157_12 : decode cJ3_checkIndex_8e157 12 = .ok (.invokestatic 95, 3) := by decide +kernel
theorem dJ3_checkIndex_8e157_15 : decode cJ3_checkIndex_8e157 15 = .ok (.athrow, 1) := by decide +kernel
theorem dJ3_checkIndex_8e157_16 : decode cJ3_checkIndex_8e157 16 = .ok (.iload_n 0, 1) := by decide +kernel
theorem dJ3_checkIndex_8e157_17 : decode cJ3_checkIndex_8e157 17 = .ok (.ireturn, 1) := by decide +kernel
theorem dJ6_lowestOneBit_0f7a4_0 : decode cJ6_lowestOneBit_0f7a4 0 = .ok (.iload_n 0, 1) := by decide +kernel
theorem dJ6_lowestOneBit_0f7a4_1 : decode cJ6_lowestOneBit_0f7a4 1 = .ok (.iload_n 0, 1) := by decide +kernel
theorem dJ6_lowestOneBit_0f7a4_2 : decode cJ6_lowestOneBit_0f7a4 2 = .ok (.ineg, 1) := by decide +kernel
theorem dJ6_lowestOneBit_0f7a4_3 : decode cJ6_lowestOneBit_0f7a4 3 = .ok (.iand, 1) := by decide +kernel
theorem dJ6_lowestOneBit_0f7a4_4 : decode cJ6_lowestOneBit_0f7a4 4 = .ok (.ireturn, 1) := by decide +kernel
theorem dJ6_numberOfTrailingZeros_0f7a4_0 : decode cJ6_numberOfTrailingZeros_0f7a4 0 = .ok (.iload_n 0, 1) := by decide +kernel
theorem dJ6_numberOfTrailingZeros_0f7a4_1 : decode cJ6_numberOfTrailingZeros_0f7a4 1 = .ok (.iconst (-1), 1) := by decide +kernel
theorem dJ6_numberOfTrailingZeros_0f7a4_2 : decode cJ6_numberOfTrailingZeros_0f7a4 2 = .ok (.ixor, 1) := by decide +kernel
theorem dJ6_numberOfTrailingZeros_0f7a4_3 : decode cJ6_numberOfTrailingZeros_0f7a4 3 = .ok (.iload_n 0, 1) := by decide +kernel
theorem dJ6_numberOfTrailingZeros_0f7a4_4 : decode cJ6_numberOfTrailingZeros_0f7a4 4 = .ok (.iconst 1, 1) := by decide +kernel
theorem dJ6_numberOfTrailingZeros_0f7a4_5 : decode cJ6_numberOfTrailingZeros_0f7a4 5 = .ok (.isub, 1) := by decide +kernel
theorem dJ6_numberOfTrailingZeros_0f7a4_6 : decode cJ6_numberOfTrailingZeros_0f7a4 6 = .ok (.iand, 1) := by decide +kernel
theorem dJ6_numberOfTrailingZeros_0f7a4_7 : decode cJ6_numberOfTrailingZeros_0f7a4 7 = .ok (.istore_n 0, 1) := by decide +kernel
theorem dJ6_numberOfTrailingZeros_0f7a4_8 : decode cJ6_numberOfTrailingZeros_0f7a4 8 = .ok (.iload_n 0, 1) := by decide +kernel
theorem dJ6_numberOfTrailingZeros_0f7a4_9 : decode cJ6_numberOfTrailingZeros_0f7a4 9 = .ok (.ifCond .gt 8, 3) := by decide +kernel
theorem dJ6_numberOfTrailingZeros_0f7a4_12 : decode cJ6_numberOfTrailingZeros_0f7a4 12 = .ok (.iload_n 0, 1) := by decide +kernel
theorem dJ6_numberOfTrailingZeros_0f7a4_13 : decode cJ6_numberOfTrailingZeros_0f7a4 13 = .ok (.bipush 32, 2) := by decide +kernel
theorem dJ6_numberOfTrailingZeros_0f7a4_15 : decode cJ6_numberOfTrailingZeros_0f7a4 15 = .ok (.iand, 1) := by decide +kernel
theorem dJ6_numberOfTrailingZeros_0f7a4_16 : decode cJ6_numberOfTrailingZeros_0f7a4 16 = .ok (.ireturn, 1) := by decide +kernel
theorem dJ6_numberOfTrailingZeros_0f7a4_17 : decode cJ6_numberOfTrailingZeros_0f7a4 17 = .ok (.iconst 1, 1) := by decide +kernel
theorem dJ6_numberOfTrailingZeros_0f7a4_18 : decode cJ6_numberOfTrailingZeros_0f7a4 18 = .ok (.istore_n 1, 1) := by decide +kernel
theorem dJ6_numberOfTrailingZeros_0f7a4_19 : decode cJ6_numberOfTrailingZeros_0f7a4 19 = .ok (.iload_n 0, 1) := by decide +kernel
theorem dJ6_numberOfTrailingZeros_0f7a4_20 : decode cJ6_numberOfTrailingZeros_0f7a4 20 = .ok (.ldc_w 264, 3) := by decide +kernel
theorem dJ6_numberOfTrailingZeros_0f7a4_23 : decode cJ6_numberOfTrailingZeros_0f7a4 23 = .ok (.if_icmp .le 11, 3) := by decide +kernel
theorem dJ6_numberOfTrailingZeros_0f7a4_26 : decode cJ6_numberOfTrailingZeros_0f7a4 26 = .ok (.iinc 1 16, 3) := by decide +kernel
theorem dJ6_numberOfTrailingZeros_0f7a4_29 : decode cJ6_numberOfTrailingZeros_0f7a4 29 = .ok (.iload_n 0, 1) := by decide +kernel
theorem dJ6_numberOfTrailingZeros_0f7a4_30 : decode cJ6_numberOfTrailingZeros_0f7a4 30 = .ok (.bipush 16, 2) := by decide +kernel
theorem dJ6_numberOfTrailingZeros_0f7a4_32 : decode cJ6_numberOfTrailingZeros_0f7a4 32 = .ok (.iushr, 1) := by decide +kernel
theorem dJ6_numberOfTrailingZeros_0f7a4_33 : decode cJ6_numberOfTrailingZeros_0f7a4 33 = .ok (.istore_n 0, 1) := by decide +kernel
theorem dJ6_numberOfTrailingZeros_0f7a4_34 : decode cJ6_numberOfTrailingZeros_0f7a4 34 = .ok (.iload_n 0, 1) := by decide +kernel
theorem dJ6_numberOfTrailingZeros_0f7a4_35 : decode cJ6_numberOfTrailingZeros_0f7a4 35 = .ok (.sipush 256, 3) := by decide +kernel
theorem dJ6_numberOfTrailingZeros_0f7a4_38 : decode cJ6_numberOfTrailingZeros_0f7a4 38 = .ok (.if_icmp .le 11, 3) := by decide +kernel
theorem dJ6_numberOfTrailingZeros_0f7a4_41 : decode cJ6_numberOfTrailingZeros_0f7a4 41 = .ok (.iinc 1 8, 3) := by decide +kernel
theorem dJ6_numberOfTrailingZeros_0f7a4_44 : decode cJ6_numberOfTrailingZeros_0f7a4 44 = .ok (.iload_n 0, 1) := by decide +kernel
theorem dJ6_numberOfTrailingZeros_0f7a4_45 : decode cJ6_numberOfTrailingZeros_0f7a4 45 = .ok (.bipush 8, 2) := by decide +kernel
theorem dJ6_numberOfTrailingZeros_0f7a4_47 : decode cJ6_numberOfTrailingZeros_0f7a4 47 = .ok (.iushr, 1) := by decide +kernel
theorem dJ6_numberOfTrailingZeros_0f7a4_48 : decode cJ6_numberOfTrailingZeros_0f7a4 48 = .ok (.istore_n 0, 1) := by decide +kernel
theorem dJ6_numberOfTrailingZeros_0f7a4_49 : decode cJ6_numberOfTrailingZeros_0f7a4 49 = .ok (.iload_n 0, 1) := by decide +kernel
theorem dJ6_numberOfTrailingZeros_0f7a4_50 : decode cJ6_numberOfTrailingZeros_0f7a4 50 = .ok (.bipush 16, 2) := by decide +kernel
theorem dJ6_numberOfTrailingZeros_0f7a4_52 : decode cJ6_numberOfTrailingZeros_0f7a4 52 = .ok (.if_icmp .le 10, 3) := by decide +kernel
theorem dJ6_numberOfTrailingZeros_0f7a4_55 : decode cJ6_numberOfTrailingZeros_0f7a4 55 = .ok (.iinc 1 4, 3) := by decide +kernel
theorem dJ6_numberOfTrailingZeros_0f7a4_58 : decode cJ6_numberOfTrailingZeros_0f7a4 58 = .ok (.iload_n 0, 1) := by decide +kernel
theorem dJ6_numberOfTrailingZeros_0f7a4_59 : decode cJ6_numberOfTrailingZeros_0f7a4 59 = .ok (.iconst 4, 1) := by decide +kernel
theorem dJ6_numberOfTrailingZeros_0f7a4_60 : decode cJ6_numberOfTrailingZeros_0f7a4 60 = .ok (.iushr, 1) := by decide +kernel
theorem dJ6_numberOfTrailingZeros_0f7a4_61 : decode cJ6_numberOfTrailingZeros_0f7a4 61 = .ok (.istore_n 0, 1) := by decide +kernel
theorem dJ6_numberOfTrailingZeros_0f7a4_62 : decode cJ6_numberOfTrailingZeros_0f7a4 62 = .ok (.iload_n 0, 1) := by decide +kernel
theorem dJ6_numberOfTrailingZeros_0f7a4_63 : decode cJ6_numberOfTrailingZeros_0f7a4 63 = .ok (.iconst 4, 1) := by decide +kernel
theorem dJ6_numberOfTrailingZeros_0f7a4_64 : decode cJ6_numberOfTrailingZeros_0f7a4 64 = .ok (.if_icmp .le 10, 3) := by decide +kernel
theorem dJ6_numberOfTrailingZeros_0f7a4_67 : decode cJ6_numberOfTrailingZeros_0f7a4 67 = .ok (.iinc 1 2, 3) := by decide +kernel
theorem dJ6_numberOfTrailingZeros_0f7a4_70 : decode cJ6_numberOfTrailingZeros_0f7a4 70 = .ok (.iload_n 0, 1) := by decide +kernel
theorem dJ6_numberOfTrailingZeros_0f7a4_71 : decode cJ6_numberOfTrailingZeros_0f7a4 71 = .ok (.iconst 2, 1) := by decide +kernel
theorem dJ6_numberOfTrailingZeros_0f7a4_72 : decode cJ6_numberOfTrailingZeros_0f7a4 72 = .ok (.iushr, 1) := by decide +kernel
theorem dJ6_numberOfTrailingZeros_0f7a4_73 : decode cJ6_numberOfTrailingZeros_0f7a4 73 = .ok (.istore_n 0, 1) := by decide +kernel
theorem dJ6_numberOfTrailingZeros_0f7a4_74 : decode cJ6_numberOfTrailingZeros_0f7a4 74 = .ok (.iload_n 1, 1) := by decide +kernel
theorem dJ6_numberOfTrailingZeros_0f7a4_75 : decode cJ6_numberOfTrailingZeros_0f7a4 75 = .ok (.iload_n 0, 1) := by decide +kernel
theorem dJ6_numberOfTrailingZeros_0f7a4_76 : decode cJ6_numberOfTrailingZeros_0f7a4 76 = .ok (.iconst 1, 1) := by decide +kernel
theorem dJ6_numberOfTrailingZeros_0f7a4_77 : decode cJ6_numberOfTrailingZeros_0f7a4 77 = .ok (.iushr, 1) := by decide +kernel
theorem dJ6_numberOfTrailingZeros_0f7a4_78 : decode cJ6_numberOfTrailingZeros_0f7a4 78 = .ok (.iadd, 1) := by decide +kernel
theorem dJ6_numberOfTrailingZeros_0f7a4_79 : decode cJ6_numberOfTrailingZeros_0f7a4 79 = .ok (.ireturn, 1) := by decide +kernel
theorem dJ6_bitCount_0f7a4_0 : decode cJ6_bitCount_0f7a4 0 = .ok (.iload_n 0, 1) := by decide +kernel
theorem dJ6_bitCount_0f7a4_1 : decode cJ6_bitCount_0f7a4 1 = .ok (.iload_n 0, 1) := by decide +kernel
theorem dJ6_bitCount_0f7a4_2 : decode cJ6_bitCount_0f7a4 2 = .ok (.iconst 1, 1) := by decide +kernel
theorem dJ6_bitCount_0f7a4_3 : decode cJ6_bitCount_0f7a4 3 = .ok (.iushr, 1) := by decide +kernel
theorem dJ6_bitCount_0f7a4_4 : decode cJ6_bitCount_0f7a4 4 = .ok (.ldc_w 265, 3) := by decide +kernel
theorem dJ6_bitCount_0f7a4_7 : decode cJ6_bitCount_0f7a4 7 = .ok (.iand, 1) := by decide +kernel
theorem dJ6_bitCount_0f7a4_8 : decode cJ6_bitCount_0f7a4 8 = .ok (.isub, 1) := by decide +kernel
theorem dJ6_bitCount_0f7a4_9 : decode cJ6_bitCount_0f7a4 9 = .ok (.istore_n 0, 1) := by decide +kernel
theorem dJ6_bitCount_0f7a4_10 : decode cJ6_bitCount_0f7a4 10 = .ok (.iload_n 0, 1) := by decide +kernel
theorem dJ6_bitCount_0f7a4_11 : decode cJ6_bitCount_0f7a4 11 = .ok (.ldc_w 266, 3) := by decide +kernel
theorem dJ6_bitCount_0f7a4_14 : decode cJ6_bitCount_0f7a4 14 = .ok (.iand, 1) := by decide +kernel
theorem dJ6_bitCount_0f7a4_15 : decode cJ6_bitCount_0f7a4 15 = .ok (.iload_n 0, 1) := by decide +kernel
theorem dJ6_bitCount_0f7a4_16 : decode cJ6_bitCount_0f7a4 16 = .ok (.iconst 2, 1) := by decide +kernel
theorem dJ6_bitCount_0f7a4_17 : decode cJ6_bitCount_0f7a4 17 = .ok (.iushr, 1) := by decide +kernel
theorem dJ6_bitCount_0f7a4_18 : decode cJ6_bitCount_0f7a4 18 = .ok (.ldc_w 266, 3) := by decide +kernel
theorem dJ6_bitCount_0f7a4_21 : decode cJ6_bitCount_0f7a4 21 = .ok (.iand, 1) := by decide +kernel
theorem dJ6_bitCount_0f7a4_22 : decode cJ6_bitCount_0f7a4 22 = .ok (.iadd, 1) := by decide +kernel
theorem dJ6_bitCount_0f7a4_23 : decode cJ6_bitCount_0f7a4 23 = .ok (.istore_n 0, 1) := by decide +kernel
theorem dJ6_bitCount_0f7a4_24 : decode cJ6_bitCount_0f7a4 24 = .ok (.iload_n 0, 1) := by decide +kernel
theorem dJ6_bitCount_0f7a4_25 : decode cJ6_bitCount_0f7a4 25 = .ok (.iload_n 0, 1) := by decide +kernel
theorem dJ6_bitCount_0f7a4_26 : decode cJ6_bitCount_0f7a4 26 = .ok (.iconst 4, 1) := by decide +kernel
theorem dJ6_bitCount_0f7a4_27 : decode cJ6_bitCount_0f7a4 27 = .ok (.iushr, 1) := by decide +kernel
theorem dJ6_bitCount_0f7a4_28 : decode cJ6_bitCount_0f7a4 28 = .ok (.iadd, 1) := by decide +kernel
theorem dJ6_bitCount_0f7a4_29 : decode cJ6_bitCount_0f7a4 29 = .ok (.ldc_w 267, 3) := by decide +kernel
theorem dJ6_bitCount_0f7a4_32 : decode cJ6_bitCount_0f7a4 32 = .ok (.iand, 1) := by decide +kernel
theorem dJ6_bitCount_0f7a4_33 : decode cJ6_bitCount_0f7a4 33 = .ok (.istore_n 0, 1) := by decide +kernel
theorem dJ6_bitCount_0f7a4_34 : decode cJ6_bitCount_0f7a4 34 = .ok (.iload_n 0, 1) := by decide +kernel
theorem dJ6_bitCount_0f7a4_35 : decode cJ6_bitCount_0f7a4 35 = .ok (.iload_n 0, 1) := by decide +kernel
theorem dJ6_bitCount_0f7a4_36 : decode cJ6_bitCount_0f7a4 36 = .ok (.bipush 8, 2) := by decide +kernel
theorem dJ6_bitCount_0f7a4_38 : decode cJ6_bitCount_0f7a4 38 = .ok (.iushr, 1) := by decide +kernel
theorem dJ6_bitCount_0f7a4_39 : decode cJ6_bitCount_0f7a4 39 = .ok (.iadd, 1) := by decide +kernel
theorem dJ6_bitCount_0f7a4_40 : decode cJ6_bitCount_0f7a4 40 = .ok (.istore_n 0, 1) := by decide +kernel
theorem dJ6_bitCount_0f7a4_41 : decode cJ6_bitCount_0f7a4 41 = .ok (.iload_n 0, 1) := by decide +kernel
theorem dJ6_bitCount_0f7a4_42 : decode cJ6_bitCount_0f7a4 42 = .ok (.iload_n 0, 1) := by decide +kernel
theorem dJ6_bitCount_0f7a4_43 : decode cJ6_bitCount_0f7a4 43 = .ok (.bipush 16, 2) := by decide +kernel
theorem dJ6_bitCount_0f7a4_45 : decode cJ6_bitCount_0f7a4 45 = .ok (.iushr, 1) := by decide +kernel
theorem dJ6_bitCount_0f7a4_46 : decode cJ6_bitCount_0f7a4 46 = .ok (.iadd, 1) := by decide +kernel
theorem dJ6_bitCount_0f7a4_47 : decode cJ6_bitCount_0f7a4 47 = .ok (.istore_n 0, 1) := by decide +kernel
theorem dJ6_bitCount_0f7a4_48 : decode cJ6_bitCount_0f7a4 48 = .ok (.iload_n 0, 1) := by decide +kernel
theorem dJ6_bitCount_0f7a4_49 : decode cJ6_bitCount_0f7a4 49 = .ok (.bipush 63, 2) := by decide +kernel
theorem dJ6_bitCount_0f7a4_51 : decode cJ6_bitCount_0f7a4 51 = .ok (.iand, 1) := by decide +kernel
theorem dJ6_bitCount_0f7a4_52 : decode cJ6_bitCount_0f7a4 52 = .ok (.ireturn, 1) := by decide +kernel
theorem dJ9_max_7cf53_0 : decode cJ9_max_7cf53 0 = .ok (.iload_n 0, 1) := by decide +kernel
theorem dJ9_max_7cf53_1 : decode cJ9_max_7cf53 1 = .ok (.iload_n 1, 1) := by decide +kernel
theorem dJ9_max_7cf53_2 : decode cJ9_max_7cf53 2 = .ok (.if_icmp .lt 7, 3) := by decide +kernel
theorem dJ9_max_7cf53_5 : decode cJ9_max_7cf53 5 = .ok (.iload_n 0, 1) := by decide +kernel
theorem dJ9_max_7cf53_6 : decode cJ9_max_7cf53 6 = .ok (.goto 4, 3) := by decide +kernel
theorem dJ9_max_7cf53_9 : decode cJ9_max_7cf53 9 = .ok (.iload_n 1, 1) := by decide +kernel
theorem dJ9_max_7cf53_10 : decode cJ9_max_7cf53 10 = .ok (.ireturn, 1) := by decide +kernel
theorem dJ9_min_7cf53_0 : decode cJ9_min_7cf53 0 = .ok (.iload_n 0, 1) := by decide +kernel
theorem dJ9_min_7cf53_1 : decode cJ9_min_7cf53 1 = .ok (.iload_n 1, 1) := by decide +kernel
theorem dJ9_min_7cf53_2 : decode cJ9_min_7cf53 2 = .ok (.if_icmp .gt 7, 3) := by decide +kernel
theorem dJ9_min_7cf53_5 : decode cJ9_min_7cf53 5 = .ok (.iload_n 0, 1) := by decide +kernel
theorem dJ9_min_7cf53_6 : decode cJ9_min_7cf53 6 = .ok (.goto 4, 3) := by decide +kernel
theorem dJ9_min_7cf53_9 : decode cJ9_min_7cf53 9 = .ok (.iload_n 1, 1) := by decide +kernel
theorem dJ9_min_7cf53_10 : decode cJ9_min_7cf53 10 = .ok (.ireturn, 1) := by decide +kernel
