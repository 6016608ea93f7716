theorem dX12_law_33 : decode cX12_law 33 = .ok (.invokevirtual 257, 3) := by decide +kernel
theorem dX12_law_36 : decode cX12_law 36 = .ok (.ifCond .eq 5, 3) := by decide +kernel
theorem dX12_law_39 : decode cX12_law 39 = .ok (.iconst 0, 1) := by decide +kernel
theorem dX12_law_40 : decode cX12_law 40 = .ok (.ireturn, 1) := by decide +kernel
theorem dX12_law_41 : decode cX12_law 41 = .ok (.aload_n 0, 1) := by decide +kernel
theorem dX12_law_42 : decode cX12_law 42 = .ok (.getfield 13, 3) := by decide +kernel
theorem dX12_law_45 : decode cX12_law 45 = .ok (.sipush 1323, 3) := by decide +kernel
theorem dX12_law_48 : decode cX12_law 48 = .ok (.iload_n 1, 1) := by decide +kernel
theorem dX12_law_49 : decode cX12_law 49 = .ok (.iastore, 1) := by decide +kernel
theorem dX12_law_50 : decode cX12_law 50 = .ok (.iconst 0, 1) := by decide +kernel
theorem dX12_law_51 : decode cX12_law 51 = .ok (.istore_n 2, 1) := by decide +kernel
theorem dX12_law_52 : decode cX12_law 52 = .ok (.iload_n 2, 1) := by decide +kernel
theorem dX12_law_53 : decode cX12_law 53 = .ok (.sipush 849, 3) := by decide +kernel
theorem dX12_law_56 : decode cX12_law 56 = .ok (.if_icmp .ge 29, 3) := by decide +kernel
theorem dX12_law_59 : decode cX12_law 59 = .ok (.aload_n 0, 1) := by decide +kernel
theorem dX12_law_60 : decode cX12_law 60 = .ok (.getfield 13, 3) := by decide +kernel
theorem dX12_law_63 : decode cX12_law 63 = .ok (.sipush 474, 3) := by decide +kernel
theorem dX12_law_66 : decode cX12_law 66 = .ok (.iload_n 2, 1) := by decide +kernel
theorem dX12_law_67 : decode cX12_law 67 = .ok (.iadd, 1) := by decide +kernel
theorem dX12_law_68 : decode cX12_law 68 = .ok (.aload_n 0, 1) := by decide +kernel
theorem dX12_law_69 : decode cX12_law 69 = .ok (.getfield 13, 3) := by decide +kernel
theorem dX12_law_72 : decode cX12_law 72 = .ok (.sipush 1323, 3) := by decide +kernel
theorem dX12_law_75 : decode cX12_law 75 = .ok (.iload_n 2, 1) := by decide +kernel
theorem dX12_law_76 : decode cX12_law 76 = .ok (.iadd, 1) := by decide +kernel
theorem dX12_law_77 : decode cX12_law 77 = .ok (.iaload, 1) := by decide +kernel
theorem dX12_law_78 : decode cX12_law 78 = .ok (.iastore, 1) := by decide +kernel
theorem dX12_law_79 : decode cX12_law 79 = .ok (.iinc 2 1, 3) := by decide +kernel
theorem dX12_law_82 : decode cX12_law 82 = .ok (.goto (-30), 3) := by decide +kernel
theorem dX12_law_85 : decode cX12_law 85 = .ok (.aload_n 0, 1) := by decide +kernel
theorem dX12_law_86 : decode cX12_law 86 = .ok (.getfield 13, 3) := by decide +kernel
theorem dX12_law_89 : decode cX12_law 89 = .ok (.iconst 2, 1) := by decide +kernel
theorem dX12_law_90 : decode cX12_law 90 = .ok (.iconst 1, 1) := by decide +kernel
theorem dX12_law_91 : decode cX12_law 91 = .ok (.iastore, 1) := by decide +kernel
theorem dX12_law_92 : decode cX12_law 92 = .ok (.aload_n 0, 1) := by decide +kernel
theorem dX12_law_93 : decode cX12_law 93 = .ok (.iconst 0, 1) := by decide +kernel
theorem dX12_law_94 : decode cX12_law 94 = .ok (.putfield 55, 3) := by decide +kernel
theorem dX12_law_97 : decode cX12_law 97 = .ok (.iload_n 1, 1) := by decide +kernel
theorem dX12_law_98 : decode cX12_law 98 = .ok (.ireturn, 1) := by decide +kernel
theorem dX12_factOf_0 : decode cX12_factOf 0 = .ok (.iload_n 1, 1) := by decide +kernel
theorem dX12_factOf_1 : decode cX12_factOf 1 = .ok (.tableswitch 142 0 7 #[47, 52, 57, 62, 67, 93, 100, 121], 47) := by decide +kernel
theorem dX12_factOf_48 : decode cX12_factOf 48 = .ok (.aload_n 0, 1) := by decide +kernel
theorem dX12_factOf_49 : decode cX12_factOf 49 = .ok (.getfield 260, 3) := by decide +kernel
theorem dX12_factOf_52 : decode cX12_factOf 52 = .ok (.ireturn, 1) := by decide +kernel
theorem dX12_factOf_53 : decode cX12_factOf 53 = .ok (.aload_n 0, 1) := by decide +kernel
theorem dX12_factOf_54 : decode cX12_factOf 54 = .ok (.getfield 263, 3) := by decide +kernel
theorem dX12_factOf_57 : decode cX12_factOf 57 = .ok (.ireturn, 1) := by decide +kernel
theorem dX12_factOf_58 : decode cX12_factOf 58 = .ok (.aload_n 0, 1) := by decide +kernel
theorem dX12_factOf_59 : decode cX12_factOf 59 = .ok (.getfield 266, 3) := by decide +kernel
theorem dX12_factOf_62 : decode cX12_factOf 62 = .ok (.ireturn, 1) := by decide +kernel
theorem dX12_factOf_63 : decode cX12_factOf 63 = .ok (.aload_n 0, 1) := by decide +kernel
theorem dX12_factOf_64 : decode cX12_factOf 64 = .ok (.getfield 269, 3) := by decide +kernel
theorem dX12_factOf_67 : decode cX12_factOf 67 = .ok (.ireturn, 1) := by decide +kernel
theorem dX12_factOf_68 : decode cX12_factOf 68 = .ok (.aload_n 0, 1) := by decide +kernel
theorem dX12_factOf_69 : decode cX12_factOf 69 = .ok (.aload_n 0, 1) := by decide +kernel
theorem dX12_factOf_70 : decode cX12_factOf 70 = .ok (.getfield 260, 3) := by decide +kernel
theorem dX12_factOf_73 : decode cX12_factOf 73 = .ok (.aload_n 0, 1) := by decide +kernel
theorem dX12_factOf_74 : decode cX12_factOf 74 = .ok (.getfield 263, 3) := by decide +kernel
theorem dX12_factOf_77 : decode cX12_factOf 77 = .ok (.invokevirtual 272, 3) := by decide +kernel
theorem dX12_factOf_80 : decode cX12_factOf 80 = .ok (.aload_n 0, 1) := by decide +kernel
theorem dX12_factOf_81 : decode cX12_factOf 81 = .ok (.aload_n 0, 1) := by decide +kernel
theorem dX12_factOf_82 : decode cX12_factOf 82 = .ok (.getfield 263, 3) := by decide +kernel
theorem dX12_factOf_85 : decode cX12_factOf 85 = .ok (.aload_n 0, 1) := by decide +kernel
theorem dX12_factOf_86 : decode cX12_factOf 86 = .ok (.getfield 260, 3) := by decide +kernel
theorem dX12_factOf_89 : decode cX12_factOf 89 = .ok (.invokevirtual 272, 3) := by decide +kernel
theorem dX12_factOf_92 : decode cX12_factOf 92 = .ok (.iadd, 1) := by decide +kernel
theorem dX12_factOf_93 : decode cX12_factOf 93 = .ok (.ireturn, 1) := by decide +kernel
theorem dX12_factOf_94 : decode cX12_factOf 94 = .ok (.aload_n 0, 1) := by decide +kernel
theorem dX12_factOf_95 : decode cX12_factOf 95 = .ok (.getfield 13, 3) := by decide +kernel
theorem dX12_factOf_98 : decode cX12_factOf 98 = .ok (.iconst 3, 1) := by decide +kernel
theorem dX12_factOf_99 : decode cX12_factOf 99 = .ok (.iaload, 1) := by decide +kernel
theorem dX12_factOf_100 : decode cX12_factOf 100 = .ok (.ireturn, 1) := by decide +kernel
theorem dX12_factOf_101 : decode cX12_factOf 101 = .ok (.aload_n 0, 1) := by decide +kernel
theorem dX12_factOf_102 : decode cX12_factOf 102 = .ok (.aload_n 0, 1) := by decide +kernel
theorem dX12_factOf_103 : decode cX12_factOf 103 = .ok (.getfield 260, 3) := by decide +kernel
theorem dX12_factOf_106 : decode cX12_factOf 106 = .ok (.aload_n 0, 1) := by decide +kernel
theorem dX12_factOf_107 : decode cX12_factOf 107 = .ok (.getfield 263, 3) := by decide +kernel
theorem dX12_factOf_110 : decode cX12_factOf 110 = .ok (.invokevirtual 274, 3) := by decide +kernel
theorem dX12_factOf_113 : decode cX12_factOf 113 = .ok (.ifCond .eq 7, 3) := by decide +kernel
theorem dX12_factOf_116 : decode cX12_factOf 116 = .ok (.iconst 1, 1) := by decide +kernel
theorem dX12_factOf_117 : decode cX12_factOf 117 = .ok (.goto 4, 3) := by decide +kernel
theorem dX12_factOf_120 : decode cX12_factOf 120 = .ok (.iconst 0, 1) := by decide +kernel
theorem dX12_factOf_121 : decode cX12_factOf 121 = .ok (.ireturn, 1) := by decide +kernel
theorem dX12_factOf_122 : decode cX12_factOf 122 = .ok (.aload_n 0, 1) := by decide +kernel
theorem dX12_factOf_123 : decode cX12_factOf 123 = .ok (.aload_n 0, 1) := by decide +kernel
theorem dX12_factOf_124 : decode cX12_factOf 124 = .ok (.getfield 260, 3) := by decide +kernel
theorem dX12_factOf_127 : decode cX12_factOf 127 = .ok (.aload_n 0, 1) := by decide +kernel
theorem dX12_factOf_128 : decode cX12_factOf 128 = .ok (.getfield 263, 3) := by decide +kernel
theorem dX12_factOf_131 : decode cX12_factOf 131 = .ok (.invokevirtual 69, 3) := by decide +kernel
theorem dX12_factOf_134 : decode cX12_factOf 134 = .ok (.ifCond .eq 7, 3) := by decide +kernel
theorem dX12_factOf_137 : decode cX12_factOf 137 = .ok (.iconst 1, 1) := by decide +kernel
theorem dX12_factOf_138 : decode cX12_factOf 138 = .ok (.goto 4, 3) := by decide +kernel
theorem dX12_factOf_141 : decode cX12_factOf 141 = .ok (.iconst 0, 1) := by decide +kernel
theorem dX12_factOf_142 : decode cX12_factOf 142 = .ok (.ireturn, 1) := by decide +kernel
theorem dX12_factOf_143 : decode cX12_factOf 143 = .ok (.iload_n 2, 1) := by decide +kernel
theorem dX12_factOf_144 : decode cX12_factOf 144 = .ok (.ireturn, 1) := by decide +kernel
theorem dX12_holdsLine_0 : decode cX12_holdsLine 0 = .ok (.iconst 0, 1) := by decide +kernel
theorem dX12_holdsLine_1 : decode cX12_holdsLine 1 = .ok (.istore_n 2, 1) := by decide +kernel
theorem dX12_holdsLine_2 : decode cX12_holdsLine 2 = .ok (.sipush 475, 3) := by decide +kernel
theorem dX12_holdsLine_5 : decode cX12_holdsLine 5 = .ok (.iconst 4, 1) := by decide +kernel
theorem dX12_holdsLine_6 : decode cX12_holdsLine 6 = .ok (.iload_n 1, 1) := by decide +kernel
theorem dX12_holdsLine_7 : decode cX12_holdsLine 7 = .ok (.imul, 1) := by decide +kernel
theorem dX12_holdsLine_8 : decode cX12_holdsLine 8 = .ok (.iadd, 1) := by decide +kernel
theorem dX12_holdsLine_9 : decode cX12_holdsLine 9 = .ok (.istore_n 3, 1) := by decide +kernel
theorem dX12_holdsLine_10 : decode cX12_holdsLine 10 = .ok (.aload_n 0, 1) := by decide +kernel
theorem dX12_holdsLine_11 : decode cX12_holdsLine 11 = .ok (.getfield 13, 3) := by decide +kernel
theorem dX12_holdsLine_14 : decode cX12_holdsLine 14 = .ok (.iload_n 3, 1) := by decide +kernel
theorem dX12_holdsLine_15 : decode cX12_holdsLine 15 = .ok (.iconst 2, 1) := by decide +kernel
theorem dX12_holdsLine_16 : decode cX12_holdsLine 16 = .ok (.iadd, 1) := by decide +kernel
theorem dX12_holdsLine_17 : decode cX12_holdsLine 17 = .ok (.iaload, 1) := by decide +kernel
theorem dX12_holdsLine_18 : decode cX12_holdsLine 18 = .ok (.istore 4, 2) := by decide +kernel
theorem dX12_holdsLine_20 : decode cX12_holdsLine 20 = .ok (.iload 4, 2) := by decide +kernel
theorem dX12_holdsLine_22 : decode cX12_holdsLine 22 = .ok (.aload_n 0, 1) := by decide +kernel
theorem dX12_holdsLine_23 : decode cX12_holdsLine 23 = .ok (.getfield 13, 3) := by decide +kernel
theorem dX12_holdsLine_26 : decode cX12_holdsLine 26 = .ok (.iload_n 3, 1) := by decide +kernel
theorem dX12_holdsLine_27 : decode cX12_holdsLine 27 = .ok (.iconst 3, 1) := by decide +kernel
theorem dX12_holdsLine_28 : decode cX12_holdsLine 28 = .ok (.iadd, 1) := by decide +kernel
theorem dX12_holdsLine_29 : decode cX12_holdsLine 29 = .ok (.iaload, 1) := by decide +kernel
theorem dX12_holdsLine_30 : decode cX12_holdsLine 30 = .ok (.if_icmp .ge 229, 3) := by decide +kernel
theorem dX12_holdsLine_33 : decode cX12_holdsLine 33 = .ok (.aload_n 0, 1) := by decide +kernel
theorem dX12_holdsLine_34 : decode cX12_holdsLine 34 = .ok (.getfield 13, 3) := by decide +kernel
theorem dX12_holdsLine_37 : decode cX12_holdsLine 37 = .ok (.sipush 523, 3) := by decide +kernel
theorem dX12_holdsLine_40 : decode cX12_holdsLine 40 = .ok (.iconst 2, 1) := by decide +kernel
theorem dX12_holdsLine_41 : decode cX12_holdsLine 41 = .ok (.iload 4, 2) := by decide +kernel
theorem dX12_holdsLine_43 : decode cX12_holdsLine 43 = .ok (.imul, 1) := by decide +kernel
theorem dX12_holdsLine_44 : decode cX12_holdsLine 44 = .ok (.iadd, 1) := by decide +kernel
theorem dX12_holdsLine_45 : decode cX12_holdsLine 45 = .ok (.iaload, 1) := by decide +kernel
theorem dX12_holdsLine_46 : decode cX12_holdsLine 46 = .ok (.istore 5, 2) := by decide +kernel
theorem dX12_holdsLine_48 : decode cX12_holdsLine 48 = .ok (.iload 5, 2) := by decide +kernel
theorem dX12_holdsLine_50 : decode cX12_holdsLine 50 = .ok (.bipush 8, 2) := by decide +kernel
theorem dX12_holdsLine_52 : decode cX12_holdsLine 52 = .ok (.if_icmp .gt 36, 3) := by decide +kernel
theorem dX12_holdsLine_55 : decode cX12_holdsLine 55 = .ok (.aload_n 0, 1) := by decide +kernel
theorem dX12_holdsLine_56 : decode cX12_holdsLine 56 = .ok (.getfield 39, 3) := by decide +kernel
theorem dX12_holdsLine_59 : decode cX12_holdsLine 59 = .ok (.iload_n 2, 1) := by decide +kernel
theorem dX12_holdsLine_60 : decode cX12_holdsLine 60 = .ok (.aload_n 0, 1) := by decide +kernel
theorem dX12_holdsLine_61 : decode cX12_holdsLine 61 = .ok (.iload 5, 2) := by decide +kernel
theorem dX12_holdsLine_63 : decode cX12_holdsLine 63 = .ok (.aload_n 0, 1) := by decide +kernel
theorem dX12_holdsLine_64 : decode cX12_holdsLine 64 = .ok (.getfield 13, 3) := by decide +kernel
theorem dX12_holdsLine_67 : decode cX12_holdsLine 67 = .ok (.sipush 523, 3) := by decide +kernel
theorem dX12_holdsLine_70 : decode cX12_holdsLine 70 = .ok (.iconst 2, 1) := by decide +kernel
theorem dX12_holdsLine_71 : decode cX12_holdsLine 71 = .ok (.iload 4, 2) := by decide +kernel
theorem dX12_holdsLine_73 : decode cX12_holdsLine 73 = .ok (.imul, 1) := by decide +kernel
theorem dX12_holdsLine_74 : decode cX12_holdsLine 74 = .ok (.iadd, 1) := by decide +kernel
theorem dX12_holdsLine_75 : decode cX12_holdsLine 75 = .ok (.iconst 1, 1) := by decide +kernel
theorem dX12_holdsLine_76 : decode cX12_holdsLine 76 = .ok (.iadd, 1) := by decide +kernel
theorem dX12_holdsLine_77 : decode cX12_holdsLine 77 = .ok (.iaload, 1) := by decide +kernel
theorem dX12_holdsLine_78 : decode cX12_holdsLine 78 = .ok (.invokevirtual 277, 3) := by decide +kernel
theorem dX12_holdsLine_81 : decode cX12_holdsLine 81 = .ok (.iastore, 1) := by decide +kernel
theorem dX12_holdsLine_82 : decode cX12_holdsLine 82 = .ok (.iinc 2 1, 3) := by decide +kernel
theorem dX12_holdsLine_85 : decode cX12_holdsLine 85 = .ok (.goto 168, 3) := by decide +kernel
theorem dX12_holdsLine_88 : decode cX12_holdsLine 88 = .ok (.iload 5, 2) := by decide +kernel
theorem dX12_holdsLine_90 : decode cX12_holdsLine 90 = .ok (.bipush 12, 2) := by decide +kernel
theorem dX12_holdsLine_92 : decode cX12_holdsLine 92 = .ok (.if_icmp .ne 24, 3) := by decide +kernel
theorem dX12_holdsLine_95 : decode cX12_holdsLine 95 = .ok (.aload_n 0, 1) := by decide +kernel
theorem dX12_holdsLine_96 : decode cX12_holdsLine 96 = .ok (.getfield 39, 3) := by decide +kernel
theorem dX12_holdsLine_99 : decode cX12_holdsLine 99 = .ok (.iload_n 2, 1) := by decide +kernel
theorem dX12_holdsLine_100 : decode cX12_holdsLine 100 = .ok (.iconst 1, 1) := by decide +kernel
theorem dX12_holdsLine_101 : decode cX12_holdsLine 101 = .ok (.isub, 1) := by decide +kernel
theorem dX12_holdsLine_102 : decode cX12_holdsLine 102 = .ok (.iconst 1, 1) := by decide +kernel
theorem dX12_holdsLine_103 : decode cX12_holdsLine 103 = .ok (.aload_n 0, 1) := by decide +kernel
theorem dX12_holdsLine_104 : decode cX12_holdsLine 104 = .ok (.getfield 39, 3) := by decide +kernel
theorem dX12_holdsLine_107 : decode cX12_holdsLine 107 = .ok (.iload_n 2, 1) := by decide +kernel
theorem dX12_holdsLine_108 : decode cX12_holdsLine 108 = .ok (.iconst 1, 1) := by decide +kernel
theorem dX12_holdsLine_109 : decode cX12_holdsLine 109 = .ok (.isub, 1) := by decide +kernel
theorem dX12_holdsLine_110 : decode cX12_holdsLine 110 = .ok (.iaload, 1) := by decide +kernel
theorem dX12_holdsLine_111 : decode cX12_holdsLine 111 = .ok (.isub, 1) := by decide +kernel
theorem dX12_holdsLine_112 : decode cX12_holdsLine 112 = .ok (.iastore, 1) := by decide +kernel
theorem dX12_holdsLine_113 : decode cX12_holdsLine 113 = .ok (.goto 140, 3) := by decide +kernel
theorem dX12_holdsLine_116 : decode cX12_holdsLine 116 = .ok (.iinc 2 (-1), 3) := by decide +kernel
theorem dX12_holdsLine_119 : decode cX12_holdsLine 119 = .ok (.aload_n 0, 1) := by decide +kernel
theorem dX12_holdsLine_120 : decode cX12_holdsLine 120 = .ok (.getfield 39, 3) := by decide +kernel
theorem dX12_holdsLine_123 : decode cX12_holdsLine 123 = .ok (.iload_n 2, 1) := by decide +kernel
theorem dX12_holdsLine_124 : decode cX12_holdsLine 124 = .ok (.iconst 1, 1) := by decide +kernel
theorem dX12_holdsLine_125 : decode cX12_holdsLine 125 = .ok (.isub, 1) := by decide +kernel
theorem dX12_holdsLine_126 : decode cX12_holdsLine 126 = .ok (.iaload, 1) := by decide +kernel
theorem dX12_holdsLine_127 : decode cX12_holdsLine 127 = .ok (.istore 6, 2) := by decide +kernel
theorem dX12_holdsLine_129 : decode cX12_holdsLine 129 = .ok (.aload_n 0, 1) := by decide +kernel
theorem dX12_holdsLine_130 : decode cX12_holdsLine 130 = .ok (.getfield 39, 3) := by decide +kernel
theorem dX12_holdsLine_133 : decode cX12_holdsLine 133 = .ok (.iload_n 2, 1) := by decide +kernel
theorem dX12_holdsLine_134 : decode cX12_holdsLine 134 = .ok (.iaload, 1) := by decide +kernel
theorem dX12_holdsLine_135 : decode cX12_holdsLine 135 = .ok (.istore 7, 2) := by decide +kernel
theorem dX12_holdsLine_137 : decode cX12_holdsLine 137 = .ok (.iload 5, 2) := by decide +kernel
theorem dX12_holdsLine_139 : decode cX12_holdsLine 139 = .ok (.bipush 10, 2) := by decide +kernel
theorem dX12_holdsLine_141 : decode cX12_holdsLine 141 = .ok (.if_icmp .ne 18, 3) := by decide +kernel
theorem dX12_holdsLine_144 : decode cX12_holdsLine 144 = .ok (.iload 6, 2) := by decide +kernel
theorem dX12_holdsLine_146 : decode cX12_holdsLine 146 = .ok (.iload 7, 2) := by decide +kernel
theorem dX12_holdsLine_148 : decode cX12_holdsLine 148 = .ok (.if_icmp .ge 7, 3) := by decide +kernel
theorem dX12_holdsLine_151 : decode cX12_holdsLine 151 = .ok (.iconst 1, 1) := by decide +kernel
theorem dX12_holdsLine_152 : decode cX12_holdsLine 152 = .ok (.goto 66, 3) := by decide +kernel
theorem dX12_holdsLine_155 : decode cX12_holdsLine 155 = .ok (.iconst 0, 1) := by decide +kernel
theorem dX12_holdsLine_156 : decode cX12_holdsLine 156 = .ok (.goto 62, 3) := by decide +kernel
theorem dX12_holdsLine_159 : decode cX12_holdsLine 159 = .ok (.iload 5, 2) := by decide +kernel
theorem dX12_holdsLine_161 : decode cX12_holdsLine 161 = .ok (.bipush 11, 2) := by decide +kernel
theorem dX12_holdsLine_163 : decode cX12_holdsLine 163 = .ok (.if_icmp .ne 18, 3) := by decide +kernel
theorem dX12_holdsLine_166 : decode cX12_holdsLine 166 = .ok (.iload 6, 2) := by decide +kernel
theorem dX12_holdsLine_168 : decode cX12_holdsLine 168 = .ok (.iload 7, 2) := by decide +kernel
theorem dX12_holdsLine_170 : decode cX12_holdsLine 170 = .ok (.if_icmp .le 7, 3) := by decide +kernel
theorem dX12_holdsLine_173 : decode cX12_holdsLine 173 = .ok (.iconst 1, 1) := by decide +kernel
theorem dX12_holdsLine_174 : decode cX12_holdsLine 174 = .ok (.goto 44, 3) := by decide +kernel
theorem dX12_holdsLine_177 : decode cX12_holdsLine 177 = .ok (.iconst 0, 1) := by decide +kernel
theorem dX12_holdsLine_178 : decode cX12_holdsLine 178 = .ok (.goto 40, 3) := by decide +kernel
theorem dX12_holdsLine_181 : decode cX12_holdsLine 181 = .ok (.iload 5, 2) := by decide +kernel
theorem dX12_holdsLine_183 : decode cX12_holdsLine 183 = .ok (.bipush 13, 2) := by decide +kernel
theorem dX12_holdsLine_185 : decode cX12_holdsLine 185 = .ok (.if_icmp .ne 20, 3) := by decide +kernel
theorem dX12_holdsLine_188 : decode cX12_holdsLine 188 = .ok (.iload 6, 2) := by decide +kernel
theorem dX12_holdsLine_190 : decode cX12_holdsLine 190 = .ok (.iload 7, 2) := by decide +kernel
theorem dX12_holdsLine_192 : decode cX12_holdsLine 192 = .ok (.iadd, 1) := by decide +kernel
theorem dX12_holdsLine_193 : decode cX12_holdsLine 193 = .ok (.iconst 2, 1) := by decide +kernel
theorem dX12_holdsLine_194 : decode cX12_holdsLine 194 = .ok (.if_icmp .ne 7, 3) := by decide +kernel
theorem dX12_holdsLine_197 : decode cX12_holdsLine 197 = .ok (.iconst 1, 1) := by decide +kernel
theorem dX12_holdsLine_198 : decode cX12_holdsLine 198 = .ok (.goto 20, 3) := by decide +kernel
theorem dX12_holdsLine_201 : decode cX12_holdsLine 201 = .ok (.iconst 0, 1) := by decide +kernel
theorem dX12_holdsLine_202 : decode cX12_holdsLine 202 = .ok (.goto 16, 3) := by decide +kernel
theorem dX12_holdsLine_205 : decode cX12_holdsLine 205 = .ok (.iload 6, 2) := by decide +kernel
theorem dX12_holdsLine_207 : decode cX12_holdsLine 207 = .ok (.iload 7, 2) := by decide +kernel
theorem dX12_holdsLine_209 : decode cX12_holdsLine 209 = .ok (.iadd, 1) := by decide +kernel
theorem dX12_holdsLine_210 : decode cX12_holdsLine 210 = .ok (.ifCond .le 7, 3) := by decide +kernel
theorem dX12_holdsLine_213 : decode cX12_holdsLine 213 = .ok (.iconst 1, 1) := by decide +kernel
theorem dX12_holdsLine_214 : decode cX12_holdsLine 214 = .ok (.goto 4, 3) := by decide +kernel
theorem dX12_holdsLine_217 : decode cX12_holdsLine 217 = .ok (.iconst 0, 1) := by decide +kernel
theorem dX12_holdsLine_218 : decode cX12_holdsLine 218 = .ok (.istore 8, 2) := by decide +kernel
theorem dX12_holdsLine_220 : decode cX12_holdsLine 220 = .ok (.aload_n 0, 1) := by decide +kernel
theorem dX12_holdsLine_221 : decode cX12_holdsLine 221 = .ok (.getfield 39, 3) := by decide +kernel
theorem dX12_holdsLine_224 : decode cX12_holdsLine 224 = .ok (.iload_n 2, 1) := by decide +kernel
theorem dX12_holdsLine_225 : decode cX12_holdsLine 225 = .ok (.iconst 1, 1) := by decide +kernel
theorem dX12_holdsLine_226 : decode cX12_holdsLine 226 = .ok (.isub, 1) := by decide +kernel
theorem dX12_holdsLine_227 : decode cX12_holdsLine 227 = .ok (.iload 5, 2) := by decide +kernel
theorem dX12_holdsLine_229 : decode cX12_holdsLine 229 = .ok (.bipush 9, 2) := by decide +kernel
theorem dX12_holdsLine_231 : decode cX12_holdsLine 231 = .ok (.if_icmp .ne 11, 3) := by decide +kernel
theorem dX12_holdsLine_234 : decode cX12_holdsLine 234 = .ok (.iload 6, 2) := by decide +kernel
theorem dX12_holdsLine_236 : decode cX12_holdsLine 236 = .ok (.iload 7, 2) := by decide +kernel
theorem dX12_holdsLine_238 : decode cX12_holdsLine 238 = .ok (.iadd, 1) := by decide +kernel
theorem dX12_holdsLine_239 : decode cX12_holdsLine 239 = .ok (.goto 13, 3) := by decide +kernel
theorem dX12_holdsLine_242 : decode cX12_holdsLine 242 = .ok (.iload 8, 2) := by decide +kernel
theorem dX12_holdsLine_244 : decode cX12_holdsLine 244 = .ok (.ifCond .eq 7, 3) := by decide +kernel
theorem dX12_holdsLine_247 : decode cX12_holdsLine 247 = .ok (.iconst 1, 1) := by decide +kernel
theorem dX12_holdsLine_248 : decode cX12_holdsLine 248 = .ok (.goto 4, 3) := by decide +kernel
theorem dX12_holdsLine_251 : decode cX12_holdsLine 251 = .ok (.iconst 0, 1) := by decide +kernel
theorem dX12_holdsLine_252 : decode cX12_holdsLine 252 = .ok (.iastore, 1) := by decide +kernel
theorem dX12_holdsLine_253 : decode cX12_holdsLine 253 = .ok (.iinc 4 1, 3) := by decide +kernel
theorem dX12_holdsLine_256 : decode cX12_holdsLine 256 = .ok (.goto (-236), 3) := by decide +kernel
theorem dX12_holdsLine_259 : decode cX12_holdsLine 259 = .ok (.iload_n 2, 1) := by decide +kernel
theorem dX12_holdsLine_260 : decode cX12_holdsLine 260 = .ok (.ifCond .eq 13, 3) := by decide +kernel
theorem dX12_holdsLine_263 : decode cX12_holdsLine 263 = .ok (.aload_n 0, 1) := by decide +kernel
theorem dX12_holdsLine_264 : decode cX12_holdsLine 264 = .ok (.getfield 39, 3) := by decide +kernel
theorem dX12_holdsLine_267 : decode cX12_holdsLine 267 = .ok (.iconst 0, 1) := by decide +kernel
theorem dX12_holdsLine_268 : decode cX12_holdsLine 268 = .ok (.iaload, 1) := by decide +kernel
theorem dX12_holdsLine_269 : decode cX12_holdsLine 269 = .ok (.iconst 1, 1) := by decide +kernel
theorem dX12_holdsLine_270 : decode cX12_holdsLine 270 = .ok (.if_icmp .ne 7, 3) := by decide +kernel
theorem dX12_holdsLine_273 : decode cX12_holdsLine 273 = .ok (.iconst 1, 1) := by decide +kernel
theorem dX12_holdsLine_274 : decode cX12_holdsLine 274 = .ok (.goto 4, 3) := by decide +kernel
theorem dX12_holdsLine_277 : decode cX12_holdsLine 277 = .ok (.iconst 0, 1) := by decide +kernel
theorem dX12_holdsLine_278 : decode cX12_holdsLine 278 = .ok (.ireturn, 1) := by decide +kernel
theorem dX12_sumOf_0 : decode cX12_sumOf 0 = .ok (.iconst 0, 1) := by decide +kernel
theorem dX12_sumOf_1 : decode cX12_sumOf 1 = .ok (.istore_n 2, 1) := by decide +kernel
theorem dX12_sumOf_2 : decode cX12_sumOf 2 = .ok (.iconst 0, 1) := by decide +kernel
theorem dX12_sumOf_3 : decode cX12_sumOf 3 = .ok (.istore_n 3, 1) := by decide +kernel
theorem dX12_sumOf_4 : decode cX12_sumOf 4 = .ok (.aload_n 0, 1) := by decide +kernel
theorem dX12_sumOf_5 : decode cX12_sumOf 5 = .ok (.getfield 13, 3) := by decide +kernel
theorem dX12_sumOf_8 : decode cX12_sumOf 8 = .ok (.iconst 2, 1) := by decide +kernel
theorem dX12_sumOf_9 : decode cX12_sumOf 9 = .ok (.iaload, 1) := by decide +kernel
theorem dX12_sumOf_10 : decode cX12_sumOf 10 = .ok (.iconst 1, 1) := by decide +kernel
theorem dX12_sumOf_11 : decode cX12_sumOf 11 = .ok (.if_icmp .ne 62, 3) := by decide +kernel
theorem dX12_sumOf_14 : decode cX12_sumOf 14 = .ok (.iload_n 3, 1) := by decide +kernel
theorem dX12_sumOf_15 : decode cX12_sumOf 15 = .ok (.aload_n 0, 1) := by decide +kernel
theorem dX12_sumOf_16 : decode cX12_sumOf 16 = .ok (.getfield 13, 3) := by decide +kernel
theorem dX12_sumOf_19 : decode cX12_sumOf 19 = .ok (.sipush 474, 3) := by decide +kernel
theorem dX12_sumOf_22 : decode cX12_sumOf 22 = .ok (.iaload, 1) := by decide +kernel
theorem dX12_sumOf_23 : decode cX12_sumOf 23 = .ok (.if_icmp .ge 50, 3) := by decide +kernel
theorem dX12_sumOf_26 : decode cX12_sumOf 26 = .ok (.aload_n 0, 1) := by decide +kernel
theorem dX12_sumOf_27 : decode cX12_sumOf 27 = .ok (.getfield 13, 3) := by decide +kernel
theorem dX12_sumOf_30 : decode cX12_sumOf 30 = .ok (.sipush 475, 3) := by decide +kernel
theorem dX12_sumOf_33 : decode cX12_sumOf 33 = .ok (.iconst 4, 1) := by decide +kernel
theorem dX12_sumOf_34 : decode cX12_sumOf 34 = .ok (.iload_n 3, 1) := by decide +kernel
theorem dX12_sumOf_35 : decode cX12_sumOf 35 = .ok (.imul, 1) := by decide +kernel
theorem dX12_sumOf_36 : decode cX12_sumOf 36 = .ok (.iadd, 1) := by decide +kernel
theorem dX12_sumOf_37 : decode cX12_sumOf 37 = .ok (.iaload, 1) := by decide +kernel
theorem dX12_sumOf_38 : decode cX12_sumOf 38 = .ok (.iload_n 1, 1) := by decide +kernel
theorem dX12_sumOf_39 : decode cX12_sumOf 39 = .ok (.if_icmp .ne 28, 3) := by decide +kernel
theorem dX12_sumOf_42 : decode cX12_sumOf 42 = .ok (.aload_n 0, 1) := by decide +kernel
theorem dX12_sumOf_43 : decode cX12_sumOf 43 = .ok (.iload_n 3, 1) := by decide +kernel
theorem dX12_sumOf_44 : decode cX12_sumOf 44 = .ok (.invokevirtual 280, 3) := by decide +kernel
theorem dX12_sumOf_47 : decode cX12_sumOf 47 = .ok (.ifCond .eq 20, 3) := by decide +kernel
theorem dX12_sumOf_50 : decode cX12_sumOf 50 = .ok (.iload_n 2, 1) := by decide +kernel
theorem dX12_sumOf_51 : decode cX12_sumOf 51 = .ok (.aload_n 0, 1) := by decide +kernel
theorem dX12_sumOf_52 : decode cX12_sumOf 52 = .ok (.getfield 13, 3) := by decide +kernel
theorem dX12_sumOf_55 : decode cX12_sumOf 55 = .ok (.sipush 475, 3) := by decide +kernel
theorem dX12_sumOf_58 : decode cX12_sumOf 58 = .ok (.iconst 4, 1) := by decide +kernel
theorem dX12_sumOf_59 : decode cX12_sumOf 59 = .ok (.iload_n 3, 1) := by decide +kernel
theorem dX12_sumOf_60 : decode cX12_sumOf 60 = .ok (.imul, 1) := by decide +kernel
theorem dX12_sumOf_61 : decode cX12_sumOf 61 = .ok (.iadd, 1) := by decide +kernel
theorem dX12_sumOf_62 : decode cX12_sumOf 62 = .ok (.iconst 1, 1) := by decide +kernel
theorem dX12_sumOf_63 : decode cX12_sumOf 63 = .ok (.iadd, 1) := by decide +kernel
theorem dX12_sumOf_64 : decode cX12_sumOf 64 = .ok (.iaload, 1) := by decide +kernel
theorem dX12_sumOf_65 : decode cX12_sumOf 65 = .ok (.iadd, 1) := by decide +kernel
theorem dX12_sumOf_66 : decode cX12_sumOf 66 = .ok (.istore_n 2, 1) := by decide +kernel
theorem dX12_sumOf_67 : decode cX12_sumOf 67 = .ok (.iinc 3 1, 3) := by decide +kernel
theorem dX12_sumOf_70 : decode cX12_sumOf 70 = .ok (.goto (-66), 3) := by decide +kernel
theorem dX12_sumOf_73 : decode cX12_sumOf 73 = .ok (.iload_n 2, 1) := by decide +kernel
theorem dX12_sumOf_74 : decode cX12_sumOf 74 = .ok (.ireturn, 1) := by decide +kernel
theorem dX12_looks_0 : decode cX12_looks 0 = .ok (.aload_n 0, 1) := by decide +kernel
theorem dX12_looks_1 : decode cX12_looks 1 = .ok (.iload_n 1, 1) := by decide +kernel
theorem dX12_looks_2 : decode cX12_looks 2 = .ok (.iload_n 2, 1) := by decide +kernel
theorem dX12_looks_3 : decode cX12_looks 3 = .ok (.invokestatic 283, 3) := by decide +kernel
theorem dX12_looks_6 : decode cX12_looks 6 = .ok (.putfield 260, 3) := by decide +kernel
theorem dX12_looks_9 : decode cX12_looks 9 = .ok (.aload_n 0, 1) := by decide +kernel
theorem dX12_looks_10 : decode cX12_looks 10 = .ok (.iload_n 1, 1) := by decide +kernel
theorem dX12_looks_11 : decode cX12_looks 11 = .ok (.iload_n 2, 1) := by decide +kernel
theorem dX12_looks_12 : decode cX12_looks 12 = .ok (.invokestatic 288, 3) := by decide +kernel
theorem dX12_looks_15 : decode cX12_looks 15 = .ok (.putfield 263, 3) := by decide +kernel
theorem dX12_looks_18 : decode cX12_looks 18 = .ok (.aload_n 0, 1) := by decide +kernel
theorem dX12_looks_19 : decode cX12_looks 19 = .ok (.iload_n 3, 1) := by decide +kernel
theorem dX12_looks_20 : decode cX12_looks 20 = .ok (.putfield 266, 3) := by decide +kernel
theorem dX12_looks_23 : decode cX12_looks 23 = .ok (.aload_n 0, 1) := by decide +kernel
theorem dX12_looks_24 : decode cX12_looks 24 = .ok (.iload 4, 2) := by decide +kernel
theorem dX12_looks_26 : decode cX12_looks 26 = .ok (.putfield 269, 3) := by decide +kernel
theorem dX12_looks_29 : decode cX12_looks 29 = .ok (.return_, 1) := by decide +kernel
theorem dX12_bindsBy_0 : decode cX12_bindsBy 0 = .ok (.bipush 9, 2) := by decide +kernel
theorem dX12_bindsBy_2 : decode cX12_bindsBy 2 = .ok (.aload_n 0, 1) := by decide +kernel
theorem dX12_bindsBy_3 : decode cX12_bindsBy 3 = .ok (.getfield 13, 3) := by decide +kernel
theorem dX12_bindsBy_6 : decode cX12_bindsBy 6 = .ok (.iconst 5, 1) := by decide +kernel
theorem dX12_bindsBy_7 : decode cX12_bindsBy 7 = .ok (.iaload, 1) := by decide +kernel
theorem dX12_bindsBy_8 : decode cX12_bindsBy 8 = .ok (.aload_n 0, 1) := by decide +kernel
theorem dX12_bindsBy_9 : decode cX12_bindsBy 9 = .ok (.iconst 0, 1) := by decide +kernel
theorem dX12_bindsBy_10 : decode cX12_bindsBy 10 = .ok (.invokevirtual 291, 3) := by decide +kernel
theorem dX12_bindsBy_13 : decode cX12_bindsBy 13 = .ok (.iadd, 1) := by decide +kernel
theorem dX12_bindsBy_14 : decode cX12_bindsBy 14 = .ok (.invokestatic 283, 3) := by decide +kernel
theorem dX12_bindsBy_17 : decode cX12_bindsBy 17 = .ok (.ireturn, 1) := by decide +kernel
theorem dX12_lastsFor_0 : decode cX12_lastsFor 0 = .ok (.aload_n 0, 1) := by decide +kernel
theorem dX12_lastsFor_1 : decode cX12_lastsFor 1 = .ok (.getfield 13, 3) := by decide +kernel
theorem dX12_lastsFor_4 : decode cX12_lastsFor 4 = .ok (.bipush 6, 2) := by decide +kernel
theorem dX12_lastsFor_6 : decode cX12_lastsFor 6 = .ok (.iaload, 1) := by decide +kernel
theorem dX12_lastsFor_7 : decode cX12_lastsFor 7 = .ok (.aload_n 0, 1) := by decide +kernel
theorem dX12_lastsFor_8 : decode cX12_lastsFor 8 = .ok (.iconst 1, 1) := by decide +kernel
theorem dX12_lastsFor_9 : decode cX12_lastsFor 9 = .ok (.invokevirtual 291, 3) := by decide +kernel
theorem dX12_lastsFor_12 : decode cX12_lastsFor 12 = .ok (.iadd, 1) := by decide +kernel
theorem dX12_lastsFor_13 : decode cX12_lastsFor 13 = .ok (.ireturn, 1) := by decide +kernel
theorem dX12_suspectsBy_0 : decode cX12_suspectsBy 0 = .ok (.aload_n 0, 1) := by decide +kernel
theorem dX12_suspectsBy_1 : decode cX12_suspectsBy 1 = .ok (.getfield 13, 3) := by decide +kernel
theorem dX12_suspectsBy_4 : decode cX12_suspectsBy 4 = .ok (.iconst 2, 1) := by decide +kernel
theorem dX12_suspectsBy_5 : decode cX12_suspectsBy 5 = .ok (.iaload, 1) := by decide +kernel
theorem dX12_suspectsBy_6 : decode cX12_suspectsBy 6 = .ok (.iconst 1, 1) := by decide +kernel
theorem dX12_suspectsBy_7 : decode cX12_suspectsBy 7 = .ok (.if_icmp .ne 11, 3) := by decide +kernel
theorem dX12_suspectsBy_10 : decode cX12_suspectsBy 10 = .ok (.aload_n 0, 1) := by decide +kernel
theorem dX12_suspectsBy_11 : decode cX12_suspectsBy 11 = .ok (.iconst 2, 1) := by decide +kernel
theorem dX12_suspectsBy_12 : decode cX12_suspectsBy 12 = .ok (.invokevirtual 291, 3) := by decide +kernel
theorem dX12_suspectsBy_15 : decode cX12_suspectsBy 15 = .ok (.goto 4, 3) := by decide +kernel
theorem dX12_suspectsBy_18 : decode cX12_suspectsBy 18 = .ok (.iconst 5, 1) := by decide +kernel
theorem dX12_suspectsBy_19 : decode cX12_suspectsBy 19 = .ok (.ireturn, 1) := by decide +kernel
theorem dX12_sipBinds_0 : decode cX12_sipBinds 0 = .ok (.aload_n 0, 1) := by decide +kernel
theorem dX12_sipBinds_1 : decode cX12_sipBinds 1 = .ok (.invokevirtual 294, 3) := by decide +kernel
theorem dX12_sipBinds_4 : decode cX12_sipBinds 4 = .ok (.istore_n 1, 1) := by decide +kernel
theorem dX12_sipBinds_5 : decode cX12_sipBinds 5 = .ok (.aload_n 0, 1) := by decide +kernel
theorem dX12_sipBinds_6 : decode cX12_sipBinds 6 = .ok (.getfield 266, 3) := by decide +kernel
theorem dX12_sipBinds_9 : decode cX12_sipBinds 9 = .ok (.iconst 1, 1) := by decide +kernel
theorem dX12_sipBinds_10 : decode cX12_sipBinds 10 = .ok (.if_icmp .ne 9, 3) := by decide +kernel
theorem dX12_sipBinds_13 : decode cX12_sipBinds 13 = .ok (.iload_n 1, 1) := by decide +kernel
theorem dX12_sipBinds_14 : decode cX12_sipBinds 14 = .ok (.iconst 2, 1) := by decide +kernel
theorem dX12_sipBinds_15 : decode cX12_sipBinds 15 = .ok (.idiv, 1) := by decide +kernel
theorem dX12_sipBinds_16 : decode cX12_sipBinds 16 = .ok (.goto 35, 3) := by decide +kernel
theorem dX12_sipBinds_19 : decode cX12_sipBinds 19 = .ok (.aload_n 0, 1) := by decide +kernel
theorem dX12_sipBinds_20 : decode cX12_sipBinds 20 = .ok (.getfield 266, 3) := by decide +kernel
theorem dX12_sipBinds_23 : decode cX12_sipBinds 23 = .ok (.iconst 2, 1) := by decide +kernel
theorem dX12_sipBinds_24 : decode cX12_sipBinds 24 = .ok (.if_icmp .ne 14, 3) := by decide +kernel
theorem dX12_sipBinds_27 : decode cX12_sipBinds 27 = .ok (.bipush 9, 2) := by decide +kernel
theorem dX12_sipBinds_29 : decode cX12_sipBinds 29 = .ok (.iconst 2, 1) := by decide +kernel
theorem dX12_sipBinds_30 : decode cX12_sipBinds 30 = .ok (.iload_n 1, 1) := by decide +kernel
theorem dX12_sipBinds_31 : decode cX12_sipBinds 31 = .ok (.imul, 1) := by decide +kernel
theorem dX12_sipBinds_32 : decode cX12_sipBinds 32 = .ok (.invokestatic 283, 3) := by decide +kernel
theorem dX12_sipBinds_35 : decode cX12_sipBinds 35 = .ok (.goto 16, 3) := by decide +kernel
theorem dX12_sipBinds_38 : decode cX12_sipBinds 38 = .ok (.aload_n 0, 1) := by decide +kernel
theorem dX12_sipBinds_39 : decode cX12_sipBinds 39 = .ok (.getfield 266, 3) := by decide +kernel
theorem dX12_sipBinds_42 : decode cX12_sipBinds 42 = .ok (.iconst 3, 1) := by decide +kernel
theorem dX12_sipBinds_43 : decode cX12_sipBinds 43 = .ok (.if_icmp .ne 7, 3) := by decide +kernel
theorem dX12_sipBinds_46 : decode cX12_sipBinds 46 = .ok (.iconst 0, 1) := by decide +kernel
theorem dX12_sipBinds_47 : decode cX12_sipBinds 47 = .ok (.goto 4, 3) := by decide +kernel
theorem dX12_sipBinds_50 : decode cX12_sipBinds 50 = .ok (.iload_n 1, 1) := by decide +kernel
theorem dX12_sipBinds_51 : decode cX12_sipBinds 51 = .ok (.ireturn, 1) := by decide +kernel
theorem dX12_noBoth_0 : decode cX12_noBoth 0 = .ok (.aload_n 0, 1) := by decide +kernel
theorem dX12_noBoth_1 : decode cX12_noBoth 1 = .ok (.iload_n 1, 1) := by decide +kernel
theorem dX12_noBoth_2 : decode cX12_noBoth 2 = .ok (.invokevirtual 297, 3) := by decide +kernel
theorem dX12_noBoth_5 : decode cX12_noBoth 5 = .ok (.ifCond .ne 11, 3) := by decide +kernel
theorem dX12_noBoth_8 : decode cX12_noBoth 8 = .ok (.aload_n 0, 1) := by decide +kernel
theorem dX12_noBoth_9 : decode cX12_noBoth 9 = .ok (.iload_n 2, 1) := by decide +kernel
theorem dX12_noBoth_10 : decode cX12_noBoth 10 = .ok (.invokevirtual 297, 3) := by decide +kernel
theorem dX12_noBoth_13 : decode cX12_noBoth 13 = .ok (.ifCond .eq 7, 3) := by decide +kernel
theorem dX12_noBoth_16 : decode cX12_noBoth 16 = .ok (.iconst 1, 1) := by decide +kernel
theorem dX12_noBoth_17 : decode cX12_noBoth 17 = .ok (.goto 4, 3) := by decide +kernel
theorem dX12_noBoth_20 : decode cX12_noBoth 20 = .ok (.iconst 0, 1) := by decide +kernel
theorem dX12_noBoth_21 : decode cX12_noBoth 21 = .ok (.ireturn, 1) := by decide +kernel
theorem dX12_told_0 : decode cX12_told 0 = .ok (.aload_n 0, 1) := by decide +kernel
theorem dX12_told_1 : decode cX12_told 1 = .ok (.iconst 0, 1) := by decide +kernel
theorem dX12_told_2 : decode cX12_told 2 = .ok (.putfield 3, 3) := by decide +kernel
theorem dX12_told_5 : decode cX12_told 5 = .ok (.aload_n 0, 1) := by decide +kernel
theorem dX12_told_6 : decode cX12_told 6 = .ok (.aload_n 0, 1) := by decide +kernel
theorem dX12_told_7 : decode cX12_told 7 = .ok (.iload_n 1, 1) := by decide +kernel
theorem dX12_told_8 : decode cX12_told 8 = .ok (.iload_n 2, 1) := by decide +kernel
theorem dX12_told_9 : decode cX12_told 9 = .ok (.invokevirtual 300, 3) := by decide +kernel
theorem dX12_told_12 : decode cX12_told 12 = .ok (.iconst 1, 1) := by decide +kernel
theorem dX12_told_13 : decode cX12_told 13 = .ok (.invokevirtual 257, 3) := by decide +kernel
theorem dX12_told_16 : decode cX12_told 16 = .ok (.ifCond .ne 64, 3) := by decide +kernel
theorem dX12_told_19 : decode cX12_told 19 = .ok (.aload_n 0, 1) := by decide +kernel
theorem dX12_told_20 : decode cX12_told 20 = .ok (.iload_n 1, 1) := by decide +kernel
theorem dX12_told_21 : decode cX12_told 21 = .ok (.iload_n 2, 1) := by decide +kernel
theorem dX12_told_22 : decode cX12_told 22 = .ok (.if_icmp .eq 23, 3) := by decide +kernel
theorem dX12_told_25 : decode cX12_told 25 = .ok (.iload_n 3, 1) := by decide +kernel
theorem dX12_told_26 : decode cX12_told 26 = .ok (.iconst 0, 1) := by decide +kernel
theorem dX12_told_27 : decode cX12_told 27 = .ok (.iconst 3, 1) := by decide +kernel
theorem dX12_told_28 : decode cX12_told 28 = .ok (.invokestatic 79, 3) := by decide +kernel
theorem dX12_told_31 : decode cX12_told 31 = .ok (.ifCond .eq 14, 3) := by decide +kernel
theorem dX12_told_34 : decode cX12_told 34 = .ok (.iload 4, 2) := by decide +kernel
theorem dX12_told_36 : decode cX12_told 36 = .ok (.iconst 2, 1) := by decide +kernel
theorem dX12_told_37 : decode cX12_told 37 = .ok (.bipush 8, 2) := by decide +kernel
theorem dX12_told_39 : decode cX12_told 39 = .ok (.invokestatic 79, 3) := by decide +kernel
theorem dX12_told_42 : decode cX12_told 42 = .ok (.ifCond .ne 7, 3) := by decide +kernel
theorem dX12_told_45 : decode cX12_told 45 = .ok (.iconst 1, 1) := by decide +kernel
theorem dX12_told_46 : decode cX12_told 46 = .ok (.goto 4, 3) := by decide +kernel
theorem dX12_told_49 : decode cX12_told 49 = .ok (.iconst 0, 1) := by decide +kernel
theorem dX12_told_50 : decode cX12_told 50 = .ok (.iconst 2, 1) := by decide +kernel
theorem dX12_told_51 : decode cX12_told 51 = .ok (.invokevirtual 257, 3) := by decide +kernel
theorem dX12_told_54 : decode cX12_told 54 = .ok (.ifCond .ne 26, 3) := by decide +kernel
theorem dX12_told_57 : decode cX12_told 57 = .ok (.aload_n 0, 1) := by decide +kernel
theorem dX12_told_58 : decode cX12_told 58 = .ok (.iload 5, 2) := by decide +kernel
theorem dX12_told_60 : decode cX12_told 60 = .ok (.iconst 0, 1) := by decide +kernel
theorem dX12_told_61 : decode cX12_told 61 = .ok (.iconst 2, 1) := by decide +kernel
theorem dX12_told_62 : decode cX12_told 62 = .ok (.invokestatic 79, 3) := by decide +kernel
theorem dX12_told_65 : decode cX12_told 65 = .ok (.ifCond .ne 7, 3) := by decide +kernel
theorem dX12_told_68 : decode cX12_told 68 = .ok (.iconst 1, 1) := by decide +kernel
theorem dX12_told_69 : decode cX12_told 69 = .ok (.goto 4, 3) := by decide +kernel
theorem dX12_told_72 : decode cX12_told 72 = .ok (.iconst 0, 1) := by decide +kernel
theorem dX12_told_73 : decode cX12_told 73 = .ok (.iconst 3, 1) := by decide +kernel
theorem dX12_told_74 : decode cX12_told 74 = .ok (.invokevirtual 257, 3) := by decide +kernel
theorem dX12_told_77 : decode cX12_told 77 = .ok (.ifCond .eq 5, 3) := by decide +kernel
theorem dX12_told_80 : decode cX12_told 80 = .ok (.iconst 0, 1) := by decide +kernel
theorem dX12_told_81 : decode cX12_told 81 = .ok (.ireturn, 1) := by decide +kernel
theorem dX12_told_82 : decode cX12_told 82 = .ok (.aload_n 0, 1) := by decide +kernel
theorem dX12_told_83 : decode cX12_told 83 = .ok (.iload_n 1, 1) := by decide +kernel
theorem dX12_told_84 : decode cX12_told 84 = .ok (.iload_n 2, 1) := by decide +kernel
theorem dX12_told_85 : decode cX12_told 85 = .ok (.iload 5, 2) := by decide +kernel
theorem dX12_told_87 : decode cX12_told 87 = .ok (.iconst 2, 1) := by decide +kernel
theorem dX12_told_88 : decode cX12_told 88 = .ok (.if_icmp .ne 7, 3) := by decide +kernel
theorem dX12_told_91 : decode cX12_told 91 = .ok (.iconst 0, 1) := by decide +kernel
theorem dX12_told_92 : decode cX12_told 92 = .ok (.goto 4, 3) := by decide +kernel
theorem dX12_told_95 : decode cX12_told 95 = .ok (.iload_n 3, 1) := by decide +kernel
theorem dX12_told_96 : decode cX12_told 96 = .ok (.iload 5, 2) := by decide +kernel
theorem dX12_told_98 : decode cX12_told 98 = .ok (.iconst 2, 1) := by decide +kernel
theorem dX12_told_99 : decode cX12_told 99 = .ok (.if_icmp .ne 7, 3) := by decide +kernel
theorem dX12_told_102 : decode cX12_told 102 = .ok (.iconst 0, 1) := by decide +kernel
theorem dX12_told_103 : decode cX12_told 103 = .ok (.goto 5, 3) := by decide +kernel
theorem dX12_told_106 : decode cX12_told 106 = .ok (.iload 4, 2) := by decide +kernel
theorem dX12_told_108 : decode cX12_told 108 = .ok (.invokevirtual 303, 3) := by decide +kernel
theorem dX12_told_111 : decode cX12_told 111 = .ok (.iload 5, 2) := by decide +kernel
theorem dX12_told_113 : decode cX12_told 113 = .ok (.ifCond .ne 10, 3) := by decide +kernel
theorem dX12_told_116 : decode cX12_told 116 = .ok (.aload_n 0, 1) := by decide +kernel
theorem dX12_told_117 : decode cX12_told 117 = .ok (.invokevirtual 294, 3) := by decide +kernel
theorem dX12_told_120 : decode cX12_told 120 = .ok (.goto 20, 3) := by decide +kernel
theorem dX12_told_123 : decode cX12_told 123 = .ok (.iload 5, 2) := by decide +kernel
theorem dX12_told_125 : decode cX12_told 125 = .ok (.iconst 1, 1) := by decide +kernel
theorem dX12_told_126 : decode cX12_told 126 = .ok (.if_icmp .ne 10, 3) := by decide +kernel
theorem dX12_told_129 : decode cX12_told 129 = .ok (.aload_n 0, 1) := by decide +kernel
theorem dX12_told_130 : decode cX12_told 130 = .ok (.invokevirtual 306, 3) := by decide +kernel
theorem dX12_told_133 : decode cX12_told 133 = .ok (.goto 7, 3) := by decide +kernel
theorem dX12_told_136 : decode cX12_told 136 = .ok (.aload_n 0, 1) := by decide +kernel
theorem dX12_told_137 : decode cX12_told 137 = .ok (.invokevirtual 309, 3) := by decide +kernel
theorem dX12_told_140 : decode cX12_told 140 = .ok (.ireturn, 1) := by decide +kernel
theorem dX12_sips_0 : decode cX12_sips 0 = .ok (.aload_n 0, 1) := by decide +kernel
theorem dX12_sips_1 : decode cX12_sips 1 = .ok (.iload_n 1, 1) := by decide +kernel
theorem dX12_sips_2 : decode cX12_sips 2 = .ok (.iload_n 2, 1) := by decide +kernel
theorem dX12_sips_3 : decode cX12_sips 3 = .ok (.iload_n 3, 1) := by decide +kernel
theorem dX12_sips_4 : decode cX12_sips 4 = .ok (.iload 4, 2) := by decide +kernel
theorem dX12_sips_6 : decode cX12_sips 6 = .ok (.invokevirtual 303, 3) := by decide +kernel
theorem dX12_sips_9 : decode cX12_sips 9 = .ok (.aload_n 0, 1) := by decide +kernel
theorem dX12_sips_10 : decode cX12_sips 10 = .ok (.invokevirtual 312, 3) := by decide +kernel
theorem dX12_sips_13 : decode cX12_sips 13 = .ok (.istore 5, 2) := by decide +kernel
theorem dX12_sips_15 : decode cX12_sips 15 = .ok (.iload 5, 2) := by decide +kernel
theorem dX12_sips_17 : decode cX12_sips 17 = .ok (.ifCond .ne 5, 3) := by decide +kernel
theorem dX12_sips_20 : decode cX12_sips 20 = .ok (.iconst 0, 1) := by decide +kernel
theorem dX12_sips_21 : decode cX12_sips 21 = .ok (.ireturn, 1) := by decide +kernel
theorem dX12_sips_22 : decode cX12_sips 22 = .ok (.aload_n 0, 1) := by decide +kernel
theorem dX12_sips_23 : decode cX12_sips 23 = .ok (.iload_n 1, 1) := by decide +kernel
theorem dX12_sips_24 : decode cX12_sips 24 = .ok (.iload_n 2, 1) := by decide +kernel
theorem dX12_sips_25 : decode cX12_sips 25 = .ok (.invokevirtual 315, 3) := by decide +kernel
theorem dX12_sips_28 : decode cX12_sips 28 = .ok (.istore 6, 2) := by decide +kernel
theorem dX12_sips_30 : decode cX12_sips 30 = .ok (.iload 6, 2) := by decide +kernel
theorem dX12_sips_32 : decode cX12_sips 32 = .ok (.ifCond .le 20, 3) := by decide +kernel
theorem dX12_sips_35 : decode cX12_sips 35 = .ok (.aload_n 0, 1) := by decide +kernel
theorem dX12_sips_36 : decode cX12_sips 36 = .ok (.getfield 13, 3) := by decide +kernel
theorem dX12_sips_39 : decode cX12_sips 39 = .ok (.sipush 170, 3) := by decide +kernel
theorem dX12_sips_42 : decode cX12_sips 42 = .ok (.iload_n 1, 1) := by decide +kernel
theorem dX12_sips_43 : decode cX12_sips 43 = .ok (.iload_n 2, 1) := by decide +kernel
theorem dX12_sips_44 : decode cX12_sips 44 = .ok (.invokestatic 66, 3) := by decide +kernel
theorem dX12_sips_47 : decode cX12_sips 47 = .ok (.iadd, 1) := by decide +kernel
theorem dX12_sips_48 : decode cX12_sips 48 = .ok (.iaload, 1) := by decide +kernel
theorem dX12_sips_49 : decode cX12_sips 49 = .ok (.goto 4, 3) := by decide +kernel
theorem dX12_sips_52 : decode cX12_sips 52 = .ok (.iconst 0, 1) := by decide +kernel
theorem dX12_sips_53 : decode cX12_sips 53 = .ok (.istore 7, 2) := by decide +kernel
theorem dX12_sips_55 : decode cX12_sips 55 = .ok (.iload 6, 2) := by decide +kernel
theorem dX12_sips_57 : decode cX12_sips 57 = .ok (.iload 5, 2) := by decide +kernel
theorem dX12_sips_59 : decode cX12_sips 59 = .ok (.invokestatic 288, 3) := by decide +kernel
theorem dX12_sips_62 : decode cX12_sips 62 = .ok (.istore 8, 2) := by decide +kernel
theorem dX12_sips_64 : decode cX12_sips 64 = .ok (.iload 7, 2) := by decide +kernel
theorem dX12_sips_66 : decode cX12_sips 66 = .ok (.sipush 9999, 3) := by decide +kernel
theorem dX12_sips_69 : decode cX12_sips 69 = .ok (.aload_n 0, 1) := by decide +kernel
theorem dX12_sips_70 : decode cX12_sips 70 = .ok (.getfield 13, 3) := by decide +kernel
theorem dX12_sips_73 : decode cX12_sips 73 = .ok (.iconst 3, 1) := by decide +kernel
theorem dX12_sips_74 : decode cX12_sips 74 = .ok (.iaload, 1) := by decide +kernel
theorem dX12_sips_75 : decode cX12_sips 75 = .ok (.aload_n 0, 1) := by decide +kernel
theorem dX12_sips_76 : decode cX12_sips 76 = .ok (.invokevirtual 306, 3) := by decide +kernel
theorem dX12_sips_79 : decode cX12_sips 79 = .ok (.iadd, 1) := by decide +kernel
theorem dX12_sips_80 : decode cX12_sips 80 = .ok (.invokestatic 283, 3) := by decide +kernel
theorem dX12_sips_83 : decode cX12_sips 83 = .ok (.invokestatic 288, 3) := by decide +kernel
theorem dX12_sips_86 : decode cX12_sips 86 = .ok (.istore 9, 2) := by decide +kernel
theorem dX12_sips_88 : decode cX12_sips 88 = .ok (.aload_n 0, 1) := by decide +kernel
theorem dX12_sips_89 : decode cX12_sips 89 = .ok (.iload_n 1, 1) := by decide +kernel
theorem dX12_sips_90 : decode cX12_sips 90 = .ok (.iload_n 2, 1) := by decide +kernel
theorem dX12_sips_91 : decode cX12_sips 91 = .ok (.iload 8, 2) := by decide +kernel
theorem dX12_sips_93 : decode cX12_sips 93 = .ok (.iload 9, 2) := by decide +kernel
theorem dX12_sips_95 : decode cX12_sips 95 = .ok (.invokevirtual 143, 3) := by decide +kernel
theorem dX12_sips_98 : decode cX12_sips 98 = .ok (.iload 8, 2) := by decide +kernel
theorem dX12_sips_100 : decode cX12_sips 100 = .ok (.iload 6, 2) := by decide +kernel
theorem dX12_sips_102 : decode cX12_sips 102 = .ok (.if_icmp .gt 10, 3) := by decide +kernel
theorem dX12_sips_105 : decode cX12_sips 105 = .ok (.iload 9, 2) := by decide +kernel
theorem dX12_sips_107 : decode cX12_sips 107 = .ok (.iload 7, 2) := by decide +kernel
theorem dX12_sips_109 : decode cX12_sips 109 = .ok (.if_icmp .le 7, 3) := by decide +kernel
theorem dX12_sips_112 : decode cX12_sips 112 = .ok (.iconst 1, 1) := by decide +kernel
theorem dX12_sips_113 : decode cX12_sips 113 = .ok (.goto 4, 3) := by decide +kernel
theorem dX12_sips_116 : decode cX12_sips 116 = .ok (.iconst 0, 1) := by decide +kernel
theorem dX12_sips_117 : decode cX12_sips 117 = .ok (.ireturn, 1) := by decide +kernel
theorem dX12_shares_0 : decode cX12_shares 0 = .ok (.iconst 0, 1) := by decide +kernel
theorem dX12_shares_1 : decode cX12_shares 1 = .ok (.istore_n 3, 1) := by decide +kernel
theorem dX12_shares_2 : decode cX12_shares 2 = .ok (.iconst 0, 1) := by decide +kernel
theorem dX12_shares_3 : decode cX12_shares 3 = .ok (.istore 4, 2) := by decide +kernel
theorem dX12_shares_5 : decode cX12_shares 5 = .ok (.iload 4, 2) := by decide +kernel
theorem dX12_shares_7 : decode cX12_shares 7 = .ok (.aload_n 0, 1) := by decide +kernel
theorem dX12_shares_8 : decode cX12_shares 8 = .ok (.invokevirtual 58, 3) := by decide +kernel
theorem dX12_shares_11 : decode cX12_shares 11 = .ok (.if_icmp .ge 72, 3) := by decide +kernel
theorem dX12_shares_14 : decode cX12_shares 14 = .ok (.iload 4, 2) := by decide +kernel
theorem dX12_shares_16 : decode cX12_shares 16 = .ok (.iconst 1, 1) := by decide +kernel
theorem dX12_shares_17 : decode cX12_shares 17 = .ok (.iadd, 1) := by decide +kernel
theorem dX12_shares_18 : decode cX12_shares 18 = .ok (.istore 5, 2) := by decide +kernel
theorem dX12_shares_20 : decode cX12_shares 20 = .ok (.iload 5, 2) := by decide +kernel
theorem dX12_shares_22 : decode cX12_shares 22 = .ok (.aload_n 0, 1) := by decide +kernel
theorem dX12_shares_23 : decode cX12_shares 23 = .ok (.invokevirtual 58, 3) := by decide +kernel
theorem dX12_shares_26 : decode cX12_shares 26 = .ok (.if_icmp .ge 51, 3) := by decide +kernel
theorem dX12_shares_29 : decode cX12_shares 29 = .ok (.iload_n 1, 1) := by decide +kernel
theorem dX12_shares_30 : decode cX12_shares 30 = .ok (.iload 4, 2) := by decide +kernel
theorem dX12_shares_32 : decode cX12_shares 32 = .ok (.invokestatic 76, 3) := by decide +kernel
theorem dX12_shares_35 : decode cX12_shares 35 = .ok (.ifCond .eq 36, 3) := by decide +kernel
theorem dX12_shares_38 : decode cX12_shares 38 = .ok (.iload_n 1, 1) := by decide +kernel
theorem dX12_shares_39 : decode cX12_shares 39 = .ok (.iload 5, 2) := by decide +kernel
theorem dX12_shares_41 : decode cX12_shares 41 = .ok (.invokestatic 76, 3) := by decide +kernel
theorem dX12_shares_44 : decode cX12_shares 44 = .ok (.ifCond .eq 27, 3) := by decide +kernel
theorem dX12_shares_47 : decode cX12_shares 47 = .ok (.iload_n 3, 1) := by decide +kernel
theorem dX12_shares_48 : decode cX12_shares 48 = .ok (.aload_n 0, 1) := by decide +kernel
theorem dX12_shares_49 : decode cX12_shares 49 = .ok (.iload 4, 2) := by decide +kernel
theorem dX12_shares_51 : decode cX12_shares 51 = .ok (.iload 5, 2) := by decide +kernel
theorem dX12_shares_53 : decode cX12_shares 53 = .ok (.iload_n 2, 1) := by decide +kernel
theorem dX12_shares_54 : decode cX12_shares 54 = .ok (.iload_n 1, 1) := by decide +kernel
theorem dX12_shares_55 : decode cX12_shares 55 = .ok (.invokestatic 318, 3) := by decide +kernel
theorem dX12_shares_58 : decode cX12_shares 58 = .ok (.invokevirtual 323, 3) := by decide +kernel
theorem dX12_shares_61 : decode cX12_shares 61 = .ok (.ifCond .eq 7, 3) := by decide +kernel
theorem dX12_shares_64 : decode cX12_shares 64 = .ok (.iconst 1, 1) := by decide +kernel
theorem dX12_shares_65 : decode cX12_shares 65 = .ok (.goto 4, 3) := by decide +kernel
theorem dX12_shares_68 : decode cX12_shares 68 = .ok (.iconst 0, 1) := by decide +kernel
theorem dX12_shares_69 : decode cX12_shares 69 = .ok (.iadd, 1) := by decide +kernel
theorem dX12_shares_70 : decode cX12_shares 70 = .ok (.istore_n 3, 1) := by decide +kernel
theorem dX12_shares_71 : decode cX12_shares 71 = .ok (.iinc 5 1, 3) := by decide +kernel
theorem dX12_shares_74 : decode cX12_shares 74 = .ok (.goto (-54), 3) := by decide +kernel
theorem dX12_shares_77 : decode cX12_shares 77 = .ok (.iinc 4 1, 3) := by decide +kernel
theorem dX12_shares_80 : decode cX12_shares 80 = .ok (.goto (-75), 3) := by decide +kernel
theorem dX12_shares_83 : decode cX12_shares 83 = .ok (.iload_n 3, 1) := by decide +kernel
theorem dX12_shares_84 : decode cX12_shares 84 = .ok (.ireturn, 1) := by decide +kernel
theorem dX12_noCup_0 : decode cX12_noCup 0 = .ok (.iload_n 1, 1) := by decide +kernel
theorem dX12_noCup_1 : decode cX12_noCup 1 = .ok (.aload_n 0, 1) := by decide +kernel
theorem dX12_noCup_2 : decode cX12_noCup 2 = .ok (.invokevirtual 327, 3) := by decide +kernel
theorem dX12_noCup_5 : decode cX12_noCup 5 = .ok (.iand, 1) := by decide +kernel
theorem dX12_noCup_6 : decode cX12_noCup 6 = .ok (.invokestatic 318, 3) := by decide +kernel
theorem dX12_noCup_9 : decode cX12_noCup 9 = .ok (.iconst 2, 1) := by decide +kernel
theorem dX12_noCup_10 : decode cX12_noCup 10 = .ok (.if_icmp .lt 12, 3) := by decide +kernel
theorem dX12_noCup_13 : decode cX12_noCup 13 = .ok (.iload_n 2, 1) := by decide +kernel
theorem dX12_noCup_14 : decode cX12_noCup 14 = .ok (.iconst 0, 1) := by decide +kernel
theorem dX12_noCup_15 : decode cX12_noCup 15 = .ok (.iconst 3, 1) := by decide +kernel
theorem dX12_noCup_16 : decode cX12_noCup 16 = .ok (.invokestatic 79, 3) := by decide +kernel
theorem dX12_noCup_19 : decode cX12_noCup 19 = .ok (.ifCond .ne 7, 3) := by decide +kernel
theorem dX12_noCup_22 : decode cX12_noCup 22 = .ok (.iconst 1, 1) := by decide +kernel
theorem dX12_noCup_23 : decode cX12_noCup 23 = .ok (.goto 4, 3) := by decide +kernel
theorem dX12_noCup_26 : decode cX12_noCup 26 = .ok (.iconst 0, 1) := by decide +kernel
theorem dX12_noCup_27 : decode cX12_noCup 27 = .ok (.ireturn, 1) := by decide +kernel
theorem dX12_keepsAll_0 : decode cX12_keepsAll 0 = .ok (.iconst 0, 1) := by decide +kernel
theorem dX12_keepsAll_1 : decode cX12_keepsAll 1 = .ok (.istore_n 1, 1) := by decide +kernel
theorem dX12_keepsAll_2 : decode cX12_keepsAll 2 = .ok (.iload_n 1, 1) := by decide +kernel
theorem dX12_keepsAll_3 : decode cX12_keepsAll 3 = .ok (.sipush 474, 3) := by decide +kernel
theorem dX12_keepsAll_6 : decode cX12_keepsAll 6 = .ok (.if_icmp .ge 21, 3) := by decide +kernel
theorem dX12_keepsAll_9 : decode cX12_keepsAll 9 = .ok (.aload_n 0, 1) := by decide +kernel
theorem dX12_keepsAll_10 : decode cX12_keepsAll 10 = .ok (.getfield 23, 3) := by decide +kernel
theorem dX12_keepsAll_13 : decode cX12_keepsAll 13 = .ok (.iload_n 1, 1) := by decide +kernel
theorem dX12_keepsAll_14 : decode cX12_keepsAll 14 = .ok (.aload_n 0, 1) := by decide +kernel
theorem dX12_keepsAll_15 : decode cX12_keepsAll 15 = .ok (.getfield 13, 3) := by decide +kernel
theorem dX12_keepsAll_18 : decode cX12_keepsAll 18 = .ok (.iload_n 1, 1) := by decide +kernel
theorem dX12_keepsAll_19 : decode cX12_keepsAll 19 = .ok (.iaload, 1) := by decide +kernel
theorem dX12_keepsAll_20 : decode cX12_keepsAll 20 = .ok (.iastore, 1) := by decide +kernel
theorem dX12_keepsAll_21 : decode cX12_keepsAll 21 = .ok (.iinc 1 1, 3) := by decide +kernel
theorem dX12_keepsAll_24 : decode cX12_keepsAll 24 = .ok (.goto (-22), 3) := by decide +kernel
theorem dX12_keepsAll_27 : decode cX12_keepsAll 27 = .ok (.return_, 1) := by decide +kernel
theorem dX12_bringsBack_0 : decode cX12_bringsBack 0 = .ok (.iconst 0, 1) := by decide +kernel
theorem dX12_bringsBack_1 : decode cX12_bringsBack 1 = .ok (.istore_n 1, 1) := by decide +kernel
theorem dX12_bringsBack_2 : decode cX12_bringsBack 2 = .ok (.iload_n 1, 1) := by decide +kernel
theorem dX12_bringsBack_3 : decode cX12_bringsBack 3 = .ok (.sipush 474, 3) := by decide +kernel
theorem dX12_bringsBack_6 : decode cX12_bringsBack 6 = .ok (.if_icmp .ge 21, 3) := by decide +kernel
theorem dX12_bringsBack_9 : decode cX12_bringsBack 9 = .ok (.aload_n 0, 1) := by decide +kernel
theorem dX12_bringsBack_10 : decode cX12_bringsBack 10 = .ok (.getfield 13, 3) := by decide +kernel
theorem dX12_bringsBack_13 : decode cX12_bringsBack 13 = .ok (.iload_n 1, 1) := by decide +kernel
theorem dX12_bringsBack_14 : decode cX12_bringsBack 14 = .ok (.aload_n 0, 1) := by decide +kernel
theorem dX12_bringsBack_15 : decode cX12_bringsBack 15 = .ok (.getfield 23, 3) := by decide +kernel
theorem dX12_bringsBack_18 : decode cX12_bringsBack 18 = .ok (.iload_n 1, 1) := by decide +kernel
theorem dX12_bringsBack_19 : decode cX12_bringsBack 19 = .ok (.iaload, 1) := by decide +kernel
theorem dX12_bringsBack_20 : decode cX12_bringsBack 20 = .ok (.iastore, 1) := by decide +kernel
theorem dX12_bringsBack_21 : decode cX12_bringsBack 21 = .ok (.iinc 1 1, 3) := by decide +kernel
theorem dX12_bringsBack_24 : decode cX12_bringsBack 24 = .ok (.goto (-22), 3) := by decide +kernel
theorem dX12_bringsBack_27 : decode cX12_bringsBack 27 = .ok (.return_, 1) := by decide +kernel
theorem dX12_share_0 : decode cX12_share 0 = .ok (.aload_n 0, 1) := by decide +kernel
theorem dX12_share_1 : decode cX12_share 1 = .ok (.iconst 0, 1) := by decide +kernel
theorem dX12_share_2 : decode cX12_share 2 = .ok (.putfield 3, 3) := by decide +kernel
theorem dX12_share_5 : decode cX12_share 5 = .ok (.aload_n 0, 1) := by decide +kernel
theorem dX12_share_6 : decode cX12_share 6 = .ok (.aload_n 0, 1) := by decide +kernel
theorem dX12_share_7 : decode cX12_share 7 = .ok (.iload_n 1, 1) := by decide +kernel
theorem dX12_share_8 : decode cX12_share 8 = .ok (.iload_n 2, 1) := by decide +kernel
theorem dX12_share_9 : decode cX12_share 9 = .ok (.invokevirtual 330, 3) := by decide +kernel
theorem dX12_share_12 : decode cX12_share 12 = .ok (.iconst 1, 1) := by decide +kernel
theorem dX12_share_13 : decode cX12_share 13 = .ok (.invokevirtual 257, 3) := by decide +kernel
theorem dX12_share_16 : decode cX12_share 16 = .ok (.ifCond .eq 5, 3) := by decide +kernel
theorem dX12_share_19 : decode cX12_share 19 = .ok (.iconst 0, 1) := by decide +kernel
theorem dX12_share_20 : decode cX12_share 20 = .ok (.ireturn, 1) := by decide +kernel
theorem dX12_share_21 : decode cX12_share 21 = .ok (.aload_n 0, 1) := by decide +kernel
theorem dX12_share_22 : decode cX12_share 22 = .ok (.invokevirtual 333, 3) := by decide +kernel
theorem dX12_share_25 : decode cX12_share 25 = .ok (.aload_n 0, 1) := by decide +kernel
theorem dX12_share_26 : decode cX12_share 26 = .ok (.iload_n 1, 1) := by decide +kernel
theorem dX12_share_27 : decode cX12_share 27 = .ok (.aload_n 0, 1) := by decide +kernel
theorem dX12_share_28 : decode cX12_share 28 = .ok (.invokevirtual 327, 3) := by decide +kernel
theorem dX12_share_31 : decode cX12_share 31 = .ok (.iand, 1) := by decide +kernel
theorem dX12_share_32 : decode cX12_share 32 = .ok (.iload_n 2, 1) := by decide +kernel
theorem dX12_share_33 : decode cX12_share 33 = .ok (.invokevirtual 336, 3) := by decide +kernel
theorem dX12_share_36 : decode cX12_share 36 = .ok (.ireturn, 1) := by decide +kernel
theorem dX12_would_0 : decode cX12_would 0 = .ok (.aload_n 0, 1) := by decide +kernel
theorem dX12_would_1 : decode cX12_would 1 = .ok (.iconst 0, 1) := by decide +kernel
theorem dX12_would_2 : decode cX12_would 2 = .ok (.putfield 3, 3) := by decide +kernel
theorem dX12_would_5 : decode cX12_would 5 = .ok (.aload_n 0, 1) := by decide +kernel
theorem dX12_would_6 : decode cX12_would 6 = .ok (.aload_n 0, 1) := by decide +kernel
theorem dX12_would_7 : decode cX12_would 7 = .ok (.iload_n 1, 1) := by decide +kernel
theorem dX12_would_8 : decode cX12_would 8 = .ok (.iload_n 2, 1) := by decide +kernel
theorem dX12_would_9 : decode cX12_would 9 = .ok (.invokevirtual 330, 3) := by decide +kernel
theorem dX12_would_12 : decode cX12_would 12 = .ok (.iconst 1, 1) := by decide +kernel
theorem dX12_would_13 : decode cX12_would 13 = .ok (.invokevirtual 257, 3) := by decide +kernel
theorem dX12_would_16 : decode cX12_would 16 = .ok (.ifCond .eq 5, 3) := by decide +kernel
theorem dX12_would_19 : decode cX12_would 19 = .ok (.iconst 0, 1) := by decide +kernel
theorem dX12_would_20 : decode cX12_would 20 = .ok (.ireturn, 1) := by decide +kernel
theorem dX12_would_21 : decode cX12_would 21 = .ok (.aload_n 0, 1) := by decide +kernel
theorem dX12_would_22 : decode cX12_would 22 = .ok (.invokevirtual 339, 3) := by decide +kernel
theorem dX12_would_25 : decode cX12_would 25 = .ok (.aload_n 0, 1) := by decide +kernel
theorem dX12_would_26 : decode cX12_would 26 = .ok (.iload_n 1, 1) := by decide +kernel
theorem dX12_would_27 : decode cX12_would 27 = .ok (.aload_n 0, 1) := by decide +kernel
theorem dX12_would_28 : decode cX12_would 28 = .ok (.invokevirtual 327, 3) := by decide +kernel
theorem dX12_would_31 : decode cX12_would 31 = .ok (.iand, 1) := by decide +kernel
theorem dX12_would_32 : decode cX12_would 32 = .ok (.iload_n 2, 1) := by decide +kernel
theorem dX12_would_33 : decode cX12_would 33 = .ok (.invokevirtual 336, 3) := by decide +kernel
theorem dX12_would_36 : decode cX12_would 36 = .ok (.istore_n 3, 1) := by decide +kernel
theorem dX12_would_37 : decode cX12_would 37 = .ok (.aload_n 0, 1) := by decide +kernel
theorem dX12_would_38 : decode cX12_would 38 = .ok (.invokevirtual 342, 3) := by decide +kernel
theorem dX12_would_41 : decode cX12_would 41 = .ok (.iload_n 3, 1) := by decide +kernel
theorem dX12_would_42 : decode cX12_would 42 = .ok (.ireturn, 1) := by decide +kernel
theorem dX12_bondsThatHold_0 : decode cX12_bondsThatHold 0 = .ok (.iconst 0, 1) := by decide +kernel
theorem dX12_bondsThatHold_1 : decode cX12_bondsThatHold 1 = .ok (.istore_n 1, 1) := by decide +kernel
theorem dX12_bondsThatHold_2 : decode cX12_bondsThatHold 2 = .ok (.iconst 0, 1) := by decide +kernel
theorem dX12_bondsThatHold_3 : decode cX12_bondsThatHold 3 = .ok (.istore_n 2, 1) := by decide +kernel
theorem dX12_bondsThatHold_4 : decode cX12_bondsThatHold 4 = .ok (.iload_n 2, 1) := by decide +kernel
theorem dX12_bondsThatHold_5 : decode cX12_bondsThatHold 5 = .ok (.aload_n 0, 1) := by decide +kernel
theorem dX12_bondsThatHold_6 : decode cX12_bondsThatHold 6 = .ok (.invokevirtual 58, 3) := by decide +kernel
theorem dX12_bondsThatHold_9 : decode cX12_bondsThatHold 9 = .ok (.if_icmp .ge 39, 3) := by decide +kernel
theorem dX12_bondsThatHold_12 : decode cX12_bondsThatHold 12 = .ok (.iconst 0, 1) := by decide +kernel
theorem dX12_bondsThatHold_13 : decode cX12_bondsThatHold 13 = .ok (.istore_n 3, 1) := by decide +kernel
theorem dX12_bondsThatHold_14 : decode cX12_bondsThatHold 14 = .ok (.iload_n 3, 1) := by decide +kernel
theorem dX12_bondsThatHold_15 : decode cX12_bondsThatHold 15 = .ok (.iload_n 2, 1) := by decide +kernel
theorem dX12_bondsThatHold_16 : decode cX12_bondsThatHold 16 = .ok (.if_icmp .ge 26, 3) := by decide +kernel
theorem dX12_bondsThatHold_19 : decode cX12_bondsThatHold 19 = .ok (.iload_n 1, 1) := by decide +kernel
theorem dX12_bondsThatHold_20 : decode cX12_bondsThatHold 20 = .ok (.aload_n 0, 1) := by decide +kernel
theorem dX12_bondsThatHold_21 : decode cX12_bondsThatHold 21 = .ok (.iload_n 2, 1) := by decide +kernel
theorem dX12_bondsThatHold_22 : decode cX12_bondsThatHold 22 = .ok (.iload_n 3, 1) := by decide +kernel
theorem dX12_bondsThatHold_23 : decode cX12_bondsThatHold 23 = .ok (.invokevirtual 69, 3) := by decide +kernel
theorem dX12_bondsThatHold_26 : decode cX12_bondsThatHold 26 = .ok (.ifCond .eq 7, 3) := by decide +kernel
theorem dX12_bondsThatHold_29 : decode cX12_bondsThatHold 29 = .ok (.iconst 1, 1) := by decide +kernel
theorem dX12_bondsThatHold_30 : decode cX12_bondsThatHold 30 = .ok (.goto 4, 3) := by decide +kernel
theorem dX12_bondsThatHold_33 : decode cX12_bondsThatHold 33 = .ok (.iconst 0, 1) := by decide +kernel
theorem dX12_bondsThatHold_34 : decode cX12_bondsThatHold 34 = .ok (.iadd, 1) := by decide +kernel
theorem dX12_bondsThatHold_35 : decode cX12_bondsThatHold 35 = .ok (.istore_n 1, 1) := by decide +kernel
theorem dX12_bondsThatHold_36 : decode cX12_bondsThatHold 36 = .ok (.iinc 3 1, 3) := by decide +kernel
theorem dX12_bondsThatHold_39 : decode cX12_bondsThatHold 39 = .ok (.goto (-25), 3) := by decide +kernel
theorem dX12_bondsThatHold_42 : decode cX12_bondsThatHold 42 = .ok (.iinc 2 1, 3) := by decide +kernel
theorem dX12_bondsThatHold_45 : decode cX12_bondsThatHold 45 = .ok (.goto (-41), 3) := by decide +kernel
theorem dX12_bondsThatHold_48 : decode cX12_bondsThatHold 48 = .ok (.iload_n 1, 1) := by decide +kernel
theorem dX12_bondsThatHold_49 : decode cX12_bondsThatHold 49 = .ok (.ireturn, 1) := by decide +kernel
theorem dX12_widest_0 : decode cX12_widest 0 = .ok (.aload_n 0, 1) := by decide +kernel
theorem dX12_widest_1 : decode cX12_widest 1 = .ok (.iconst 0, 1) := by decide +kernel
theorem dX12_widest_2 : decode cX12_widest 2 = .ok (.putfield 3, 3) := by decide +kernel
theorem dX12_widest_5 : decode cX12_widest 5 = .ok (.aload_n 0, 1) := by decide +kernel
theorem dX12_widest_6 : decode cX12_widest 6 = .ok (.iload_n 1, 1) := by decide +kernel
theorem dX12_widest_7 : decode cX12_widest 7 = .ok (.iconst 0, 1) := by decide +kernel
theorem dX12_widest_8 : decode cX12_widest 8 = .ok (.iconst 3, 1) := by decide +kernel
theorem dX12_widest_9 : decode cX12_widest 9 = .ok (.invokestatic 79, 3) := by decide +kernel
theorem dX12_widest_12 : decode cX12_widest 12 = .ok (.ifCond .eq 13, 3) := by decide +kernel
theorem dX12_widest_15 : decode cX12_widest 15 = .ok (.iload_n 2, 1) := by decide +kernel
theorem dX12_widest_16 : decode cX12_widest 16 = .ok (.iconst 2, 1) := by decide +kernel
theorem dX12_widest_17 : decode cX12_widest 17 = .ok (.bipush 8, 2) := by decide +kernel
theorem dX12_widest_19 : decode cX12_widest 19 = .ok (.invokestatic 79, 3) := by decide +kernel
theorem dX12_widest_22 : decode cX12_widest 22 = .ok (.ifCond .ne 7, 3) := by decide +kernel
theorem dX12_widest_25 : decode cX12_widest 25 = .ok (.iconst 1, 1) := by decide +kernel
theorem dX12_widest_26 : decode cX12_widest 26 = .ok (.goto 4, 3) := by decide +kernel
theorem dX12_widest_29 : decode cX12_widest 29 = .ok (.iconst 0, 1) := by decide +kernel
theorem dX12_widest_30 : decode cX12_widest 30 = .ok (.iconst 1, 1) := by decide +kernel
theorem dX12_widest_31 : decode cX12_widest 31 = .ok (.invokevirtual 257, 3) := by decide +kernel
theorem dX12_widest_34 : decode cX12_widest 34 = .ok (.ifCond .eq 5, 3) := by decide +kernel
theorem dX12_widest_37 : decode cX12_widest 37 = .ok (.iconst 0, 1) := by decide +kernel
theorem dX12_widest_38 : decode cX12_widest 38 = .ok (.ireturn, 1) := by decide +kernel
theorem dX12_widest_39 : decode cX12_widest 39 = .ok (.iconst (-1), 1) := by decide +kernel
theorem dX12_widest_40 : decode cX12_widest 40 = .ok (.istore_n 3, 1) := by decide +kernel
theorem dX12_widest_41 : decode cX12_widest 41 = .ok (.iconst (-1), 1) := by decide +kernel
theorem dX12_widest_42 : decode cX12_widest 42 = .ok (.istore 4, 2) := by decide +kernel
theorem dX12_widest_44 : decode cX12_widest 44 = .ok (.aload_n 0, 1) := by decide +kernel
theorem dX12_widest_45 : decode cX12_widest 45 = .ok (.invokevirtual 339, 3) := by decide +kernel
theorem dX12_widest_48 : decode cX12_widest 48 = .ok (.iconst 0, 1) := by decide +kernel
theorem dX12_widest_49 : decode cX12_widest 49 = .ok (.istore 5, 2) := by decide +kernel
theorem dX12_widest_51 : decode cX12_widest 51 = .ok (.iload 5, 2) := by decide +kernel
theorem dX12_widest_53 : decode cX12_widest 53 = .ok (.aload_n 0, 1) := by decide +kernel
theorem dX12_widest_54 : decode cX12_widest 54 = .ok (.invokevirtual 327, 3) := by decide +kernel
theorem dX12_widest_57 : decode cX12_widest 57 = .ok (.if_icmp .gt 62, 3) := by decide +kernel
theorem dX12_widest_60 : decode cX12_widest 60 = .ok (.iload 5, 2) := by decide +kernel
theorem dX12_widest_62 : decode cX12_widest 62 = .ok (.invokestatic 318, 3) := by decide +kernel
theorem dX12_widest_65 : decode cX12_widest 65 = .ok (.iload_n 2, 1) := by decide +kernel
theorem dX12_widest_66 : decode cX12_widest 66 = .ok (.if_icmp .eq 6, 3) := by decide +kernel
theorem dX12_widest_69 : decode cX12_widest 69 = .ok (.goto 44, 3) := by decide +kernel
theorem dX12_widest_72 : decode cX12_widest 72 = .ok (.aload_n 0, 1) := by decide +kernel
theorem dX12_widest_73 : decode cX12_widest 73 = .ok (.iload 5, 2) := by decide +kernel
theorem dX12_widest_75 : decode cX12_widest 75 = .ok (.iload_n 1, 1) := by decide +kernel
theorem dX12_widest_76 : decode cX12_widest 76 = .ok (.invokevirtual 336, 3) := by decide +kernel
theorem dX12_widest_79 : decode cX12_widest 79 = .ok (.pop, 1) := by decide +kernel
theorem dX12_widest_80 : decode cX12_widest 80 = .ok (.aload_n 0, 1) := by decide +kernel
theorem dX12_widest_81 : decode cX12_widest 81 = .ok (.invokevirtual 345, 3) := by decide +kernel
theorem dX12_widest_84 : decode cX12_widest 84 = .ok (.istore 6, 2) := by decide +kernel
theorem dX12_widest_86 : decode cX12_widest 86 = .ok (.aload_n 0, 1) := by decide +kernel
theorem dX12_widest_87 : decode cX12_widest 87 = .ok (.invokevirtual 342, 3) := by decide +kernel
theorem dX12_widest_90 : decode cX12_widest 90 = .ok (.iload 6, 2) := by decide +kernel
theorem dX12_widest_92 : decode cX12_widest 92 = .ok (.iload 4, 2) := by decide +kernel
theorem dX12_widest_94 : decode cX12_widest 94 = .ok (.if_icmp .le 8, 3) := by decide +kernel
theorem dX12_widest_97 : decode cX12_widest 97 = .ok (.iload 5, 2) := by decide +kernel
theorem dX12_widest_99 : decode cX12_widest 99 = .ok (.goto 4, 3) := by decide +kernel
theorem dX12_widest_102 : decode cX12_widest 102 = .ok (.iload_n 3, 1) := by decide +kernel
theorem dX12_widest_103 : decode cX12_widest 103 = .ok (.istore_n 3, 1) := by decide +kernel
theorem dX12_widest_104 : decode cX12_widest 104 = .ok (.iload 4, 2) := by decide +kernel
theorem dX12_widest_106 : decode cX12_widest 106 = .ok (.iload 6, 2) := by decide +kernel
theorem dX12_widest_108 : decode cX12_widest 108 = .ok (.invokestatic 288, 3) := by decide +kernel
theorem dX12_widest_111 : decode cX12_widest 111 = .ok (.istore 4, 2) := by decide +kernel
theorem dX12_widest_113 : decode cX12_widest 113 = .ok (.iinc 5 1, 3) := by decide +kernel
theorem dX12_widest_116 : decode cX12_widest 116 = .ok (.goto (-65), 3) := by decide +kernel
theorem dX12_widest_119 : decode cX12_widest 119 = .ok (.iload_n 3, 1) := by decide +kernel
theorem dX12_widest_120 : decode cX12_widest 120 = .ok (.ireturn, 1) := by decide +kernel
theorem dX12_boundTo_0 : decode cX12_boundTo 0 = .ok (.iconst 0, 1) := by decide +kernel
theorem dX12_boundTo_1 : decode cX12_boundTo 1 = .ok (.istore_n 2, 1) := by decide +kernel
theorem dX12_boundTo_2 : decode cX12_boundTo 2 = .ok (.iconst 0, 1) := by decide +kernel
theorem dX12_boundTo_3 : decode cX12_boundTo 3 = .ok (.istore_n 3, 1) := by decide +kernel
theorem dX12_boundTo_4 : decode cX12_boundTo 4 = .ok (.iload_n 3, 1) := by decide +kernel
theorem dX12_boundTo_5 : decode cX12_boundTo 5 = .ok (.aload_n 0, 1) := by decide +kernel
theorem dX12_boundTo_6 : decode cX12_boundTo 6 = .ok (.invokevirtual 58, 3) := by decide +kernel
theorem dX12_boundTo_9 : decode cX12_boundTo 9 = .ok (.if_icmp .ge 33, 3) := by decide +kernel
theorem dX12_boundTo_12 : decode cX12_boundTo 12 = .ok (.iload_n 2, 1) := by decide +kernel
theorem dX12_boundTo_13 : decode cX12_boundTo 13 = .ok (.iload_n 3, 1) := by decide +kernel
theorem dX12_boundTo_14 : decode cX12_boundTo 14 = .ok (.iload_n 1, 1) := by decide +kernel
theorem dX12_boundTo_15 : decode cX12_boundTo 15 = .ok (.if_icmp .eq 18, 3) := by decide +kernel
theorem dX12_boundTo_18 : decode cX12_boundTo 18 = .ok (.aload_n 0, 1) := by decide +kernel
theorem dX12_boundTo_19 : decode cX12_boundTo 19 = .ok (.iload_n 1, 1) := by decide +kernel
theorem dX12_boundTo_20 : decode cX12_boundTo 20 = .ok (.iload_n 3, 1) := by decide +kernel
theorem dX12_boundTo_21 : decode cX12_boundTo 21 = .ok (.invokevirtual 69, 3) := by decide +kernel
theorem dX12_boundTo_24 : decode cX12_boundTo 24 = .ok (.ifCond .eq 9, 3) := by decide +kernel
theorem dX12_boundTo_27 : decode cX12_boundTo 27 = .ok (.iconst 1, 1) := by decide +kernel
theorem dX12_boundTo_28 : decode cX12_boundTo 28 = .ok (.iload_n 3, 1) := by decide +kernel
theorem dX12_boundTo_29 : decode cX12_boundTo 29 = .ok (.ishl, 1) := by decide +kernel
theorem dX12_boundTo_30 : decode cX12_boundTo 30 = .ok (.goto 4, 3) := by decide +kernel
theorem dX12_boundTo_33 : decode cX12_boundTo 33 = .ok (.iconst 0, 1) := by decide +kernel
theorem dX12_boundTo_34 : decode cX12_boundTo 34 = .ok (.ior, 1) := by decide +kernel
theorem dX12_boundTo_35 : decode cX12_boundTo 35 = .ok (.istore_n 2, 1) := by decide +kernel
theorem dX12_boundTo_36 : decode cX12_boundTo 36 = .ok (.iinc 3 1, 3) := by decide +kernel
theorem dX12_boundTo_39 : decode cX12_boundTo 39 = .ok (.goto (-35), 3) := by decide +kernel
theorem dX12_boundTo_42 : decode cX12_boundTo 42 = .ok (.iload_n 2, 1) := by decide +kernel
theorem dX12_boundTo_43 : decode cX12_boundTo 43 = .ok (.ireturn, 1) := by decide +kernel
theorem dX12_mostOf_0 : decode cX12_mostOf 0 = .ok (.iconst (-1), 1) := by decide +kernel
theorem dX12_mostOf_1 : decode cX12_mostOf 1 = .ok (.istore_n 2, 1) := by decide +kernel
theorem dX12_mostOf_2 : decode cX12_mostOf 2 = .ok (.iconst 0, 1) := by decide +kernel
theorem dX12_mostOf_3 : decode cX12_mostOf 3 = .ok (.istore_n 3, 1) := by decide +kernel
theorem dX12_mostOf_4 : decode cX12_mostOf 4 = .ok (.iconst 0, 1) := by decide +kernel
theorem dX12_mostOf_5 : decode cX12_mostOf 5 = .ok (.istore 4, 2) := by decide +kernel
theorem dX12_mostOf_7 : decode cX12_mostOf 7 = .ok (.iload 4, 2) := by decide +kernel
theorem dX12_mostOf_9 : decode cX12_mostOf 9 = .ok (.aload_n 0, 1) := by decide +kernel
theorem dX12_mostOf_10 : decode cX12_mostOf 10 = .ok (.invokevirtual 58, 3) := by decide +kernel
theorem dX12_mostOf_13 : decode cX12_mostOf 13 = .ok (.if_icmp .ge 48, 3) := by decide +kernel
theorem dX12_mostOf_16 : decode cX12_mostOf 16 = .ok (.iload 4, 2) := by decide +kernel
theorem dX12_mostOf_18 : decode cX12_mostOf 18 = .ok (.iload_n 1, 1) := by decide +kernel
theorem dX12_mostOf_19 : decode cX12_mostOf 19 = .ok (.if_icmp .ne 7, 3) := by decide +kernel
theorem dX12_mostOf_22 : decode cX12_mostOf 22 = .ok (.iconst 0, 1) := by decide +kernel
theorem dX12_mostOf_23 : decode cX12_mostOf 23 = .ok (.goto 10, 3) := by decide +kernel
theorem dX12_mostOf_26 : decode cX12_mostOf 26 = .ok (.aload_n 0, 1) := by decide +kernel
theorem dX12_mostOf_27 : decode cX12_mostOf 27 = .ok (.iload_n 1, 1) := by decide +kernel
theorem dX12_mostOf_28 : decode cX12_mostOf 28 = .ok (.iload 4, 2) := by decide +kernel
theorem dX12_mostOf_30 : decode cX12_mostOf 30 = .ok (.invokevirtual 315, 3) := by decide +kernel
theorem dX12_mostOf_33 : decode cX12_mostOf 33 = .ok (.istore 5, 2) := by decide +kernel
theorem dX12_mostOf_35 : decode cX12_mostOf 35 = .ok (.iload 5, 2) := by decide +kernel
theorem dX12_mostOf_37 : decode cX12_mostOf 37 = .ok (.iload_n 3, 1) := by decide +kernel
theorem dX12_mostOf_38 : decode cX12_mostOf 38 = .ok (.if_icmp .le 8, 3) := by decide +kernel
theorem dX12_mostOf_41 : decode cX12_mostOf 41 = .ok (.iload 4, 2) := by decide +kernel
theorem dX12_mostOf_43 : decode cX12_mostOf 43 = .ok (.goto 4, 3) := by decide +kernel
theorem dX12_mostOf_46 : decode cX12_mostOf 46 = .ok (.iload_n 2, 1) := by decide +kernel
theorem dX12_mostOf_47 : decode cX12_mostOf 47 = .ok (.istore_n 2, 1) := by decide +kernel
theorem dX12_mostOf_48 : decode cX12_mostOf 48 = .ok (.iload_n 3, 1) := by decide +kernel
theorem dX12_mostOf_49 : decode cX12_mostOf 49 = .ok (.iload 5, 2) := by decide +kernel
theorem dX12_mostOf_51 : decode cX12_mostOf 51 = .ok (.invokestatic 288, 3) := by decide +kernel
theorem dX12_mostOf_54 : decode cX12_mostOf 54 = .ok (.istore_n 3, 1) := by decide +kernel
theorem dX12_mostOf_55 : decode cX12_mostOf 55 = .ok (.iinc 4 1, 3) := by decide +kernel
theorem dX12_mostOf_58 : decode cX12_mostOf 58 = .ok (.goto (-51), 3) := by decide +kernel
theorem dX12_mostOf_61 : decode cX12_mostOf 61 = .ok (.iload_n 2, 1) := by decide +kernel
theorem dX12_mostOf_62 : decode cX12_mostOf 62 = .ok (.ireturn, 1) := by decide +kernel
theorem dX12_widened_0 : decode cX12_widened 0 = .ok (.iload_n 1, 1) := by decide +kernel
theorem dX12_widened_1 : decode cX12_widened 1 = .ok (.istore_n 2, 1) := by decide +kernel
theorem dX12_widened_2 : decode cX12_widened 2 = .ok (.iconst 0, 1) := by decide +kernel
theorem dX12_widened_3 : decode cX12_widened 3 = .ok (.istore_n 3, 1) := by decide +kernel
theorem dX12_widened_4 : decode cX12_widened 4 = .ok (.iload_n 3, 1) := by decide +kernel
theorem dX12_widened_5 : decode cX12_widened 5 = .ok (.aload_n 0, 1) := by decide +kernel
theorem dX12_widened_6 : decode cX12_widened 6 = .ok (.invokevirtual 58, 3) := by decide +kernel
theorem dX12_widened_9 : decode cX12_widened 9 = .ok (.if_icmp .ge 29, 3) := by decide +kernel
theorem dX12_widened_12 : decode cX12_widened 12 = .ok (.iload_n 2, 1) := by decide +kernel
theorem dX12_widened_13 : decode cX12_widened 13 = .ok (.iload_n 1, 1) := by decide +kernel
theorem dX12_widened_14 : decode cX12_widened 14 = .ok (.iload_n 3, 1) := by decide +kernel
theorem dX12_widened_15 : decode cX12_widened 15 = .ok (.invokestatic 76, 3) := by decide +kernel
theorem dX12_widened_18 : decode cX12_widened 18 = .ok (.ifCond .eq 11, 3) := by decide +kernel
theorem dX12_widened_21 : decode cX12_widened 21 = .ok (.aload_n 0, 1) := by decide +kernel
theorem dX12_widened_22 : decode cX12_widened 22 = .ok (.iload_n 3, 1) := by decide +kernel
theorem dX12_widened_23 : decode cX12_widened 23 = .ok (.invokevirtual 348, 3) := by decide +kernel
theorem dX12_widened_26 : decode cX12_widened 26 = .ok (.goto 4, 3) := by decide +kernel
theorem dX12_widened_29 : decode cX12_widened 29 = .ok (.iconst 0, 1) := by decide +kernel
theorem dX12_widened_30 : decode cX12_widened 30 = .ok (.ior, 1) := by decide +kernel
theorem dX12_widened_31 : decode cX12_widened 31 = .ok (.istore_n 2, 1) := by decide +kernel
theorem dX12_widened_32 : decode cX12_widened 32 = .ok (.iinc 3 1, 3) := by decide +kernel
theorem dX12_widened_35 : decode cX12_widened 35 = .ok (.goto (-31), 3) := by decide +kernel
theorem dX12_widened_38 : decode cX12_widened 38 = .ok (.iload_n 2, 1) := by decide +kernel
theorem dX12_widened_39 : decode cX12_widened 39 = .ok (.ireturn, 1) := by decide +kernel
theorem dX12_circleOf_0 : decode cX12_circleOf 0 = .ok (.iconst 1, 1) := by decide +kernel
theorem dX12_circleOf_1 : decode cX12_circleOf 1 = .ok (.iload_n 1, 1) := by decide +kernel
theorem dX12_circleOf_2 : decode cX12_circleOf 2 = .ok (.ishl, 1) := by decide +kernel
theorem dX12_circleOf_3 : decode cX12_circleOf 3 = .ok (.istore_n 2, 1) := by decide +kernel
theorem dX12_circleOf_4 : decode cX12_circleOf 4 = .ok (.iconst 0, 1) := by decide +kernel
theorem dX12_circleOf_5 : decode cX12_circleOf 5 = .ok (.istore_n 3, 1) := by decide +kernel
theorem dX12_circleOf_6 : decode cX12_circleOf 6 = .ok (.iload_n 3, 1) := by decide +kernel
theorem dX12_circleOf_7 : decode cX12_circleOf 7 = .ok (.bipush 8, 2) := by decide +kernel
theorem dX12_circleOf_9 : decode cX12_circleOf 9 = .ok (.if_icmp .ge 15, 3) := by decide +kernel
theorem dX12_circleOf_12 : decode cX12_circleOf 12 = .ok (.aload_n 0, 1) := by decide +kernel
theorem dX12_circleOf_13 : decode cX12_circleOf 13 = .ok (.iload_n 2, 1) := by decide +kernel
theorem dX12_circleOf_14 : decode cX12_circleOf 14 = .ok (.invokevirtual 351, 3) := by decide +kernel
theorem dX12_circleOf_17 : decode cX12_circleOf 17 = .ok (.istore_n 2, 1) := by decide +kernel
theorem dX12_circleOf_18 : decode cX12_circleOf 18 = .ok (.iinc 3 1, 3) := by decide +kernel
theorem dX12_circleOf_21 : decode cX12_circleOf 21 = .ok (.goto (-15), 3) := by decide +kernel
theorem dX12_circleOf_24 : decode cX12_circleOf 24 = .ok (.iload_n 2, 1) := by decide +kernel
theorem dX12_circleOf_25 : decode cX12_circleOf 25 = .ok (.ireturn, 1) := by decide +kernel
theorem dX12_likesMost_0 : decode cX12_likesMost 0 = .ok (.aload_n 0, 1) := by decide +kernel
theorem dX12_likesMost_1 : decode cX12_likesMost 1 = .ok (.iload_n 1, 1) := by decide +kernel
theorem dX12_likesMost_2 : decode cX12_likesMost 2 = .ok (.invokevirtual 354, 3) := by decide +kernel
theorem dX12_likesMost_5 : decode cX12_likesMost 5 = .ok (.istore_n 2, 1) := by decide +kernel
theorem dX12_likesMost_6 : decode cX12_likesMost 6 = .ok (.iload_n 2, 1) := by decide +kernel
theorem dX12_likesMost_7 : decode cX12_likesMost 7 = .ok (.ifCond .ge 7, 3) := by decide +kernel
theorem dX12_likesMost_10 : decode cX12_likesMost 10 = .ok (.iconst 0, 1) := by decide +kernel
theorem dX12_likesMost_11 : decode cX12_likesMost 11 = .ok (.goto 9, 3) := by decide +kernel
theorem dX12_likesMost_14 : decode cX12_likesMost 14 = .ok (.aload_n 0, 1) := by decide +kernel
theorem dX12_likesMost_15 : decode cX12_likesMost 15 = .ok (.iload_n 1, 1) := by decide +kernel
theorem dX12_likesMost_16 : decode cX12_likesMost 16 = .ok (.iload_n 2, 1) := by decide +kernel
theorem dX12_likesMost_17 : decode cX12_likesMost 17 = .ok (.invokevirtual 272, 3) := by decide +kernel
theorem dX12_likesMost_20 : decode cX12_likesMost 20 = .ok (.ireturn, 1) := by decide +kernel
theorem dX12_isGladder_0 : decode cX12_isGladder 0 = .ok (.iload_n 1, 1) := by decide +kernel
theorem dX12_isGladder_1 : decode cX12_isGladder 1 = .ok (.iload_n 2, 1) := by decide +kernel
theorem dX12_isGladder_2 : decode cX12_isGladder 2 = .ok (.if_icmp .eq 21, 3) := by decide +kernel
theorem dX12_isGladder_5 : decode cX12_isGladder 5 = .ok (.aload_n 0, 1) := by decide +kernel
theorem dX12_isGladder_6 : decode cX12_isGladder 6 = .ok (.iload_n 1, 1) := by decide +kernel
theorem dX12_isGladder_7 : decode cX12_isGladder 7 = .ok (.iload_n 2, 1) := by decide +kernel
theorem dX12_isGladder_8 : decode cX12_isGladder 8 = .ok (.invokevirtual 272, 3) := by decide +kernel
theorem dX12_isGladder_11 : decode cX12_isGladder 11 = .ok (.aload_n 0, 1) := by decide +kernel
theorem dX12_isGladder_12 : decode cX12_isGladder 12 = .ok (.iload_n 1, 1) := by decide +kernel
theorem dX12_isGladder_13 : decode cX12_isGladder 13 = .ok (.invokevirtual 357, 3) := by decide +kernel
theorem dX12_isGladder_16 : decode cX12_isGladder 16 = .ok (.if_icmp .le 7, 3) := by decide +kernel
theorem dX12_isGladder_19 : decode cX12_isGladder 19 = .ok (.iconst 1, 1) := by decide +kernel
theorem dX12_isGladder_20 : decode cX12_isGladder 20 = .ok (.goto 4, 3) := by decide +kernel
theorem dX12_isGladder_23 : decode cX12_isGladder 23 = .ok (.iconst 0, 1) := by decide +kernel
theorem dX12_isGladder_24 : decode cX12_isGladder 24 = .ok (.ireturn, 1) := by decide +kernel
theorem dX12_gladderBy_0 : decode cX12_gladderBy 0 = .ok (.iconst 0, 1) := by decide +kernel
theorem dX12_gladderBy_1 : decode cX12_gladderBy 1 = .ok (.istore_n 2, 1) := by decide +kernel
theorem dX12_gladderBy_2 : decode cX12_gladderBy 2 = .ok (.iconst 0, 1) := by decide +kernel
theorem dX12_gladderBy_3 : decode cX12_gladderBy 3 = .ok (.istore_n 3, 1) := by decide +kernel
theorem dX12_gladderBy_4 : decode cX12_gladderBy 4 = .ok (.iload_n 3, 1) := by decide +kernel
theorem dX12_gladderBy_5 : decode cX12_gladderBy 5 = .ok (.aload_n 0, 1) := by decide +kernel
theorem dX12_gladderBy_6 : decode cX12_gladderBy 6 = .ok (.invokevirtual 58, 3) := by decide +kernel
theorem dX12_gladderBy_9 : decode cX12_gladderBy 9 = .ok (.if_icmp .ge 28, 3) := by decide +kernel
theorem dX12_gladderBy_12 : decode cX12_gladderBy 12 = .ok (.iload_n 2, 1) := by decide +kernel
theorem dX12_gladderBy_13 : decode cX12_gladderBy 13 = .ok (.aload_n 0, 1) := by decide +kernel
theorem dX12_gladderBy_14 : decode cX12_gladderBy 14 = .ok (.iload_n 1, 1) := by decide +kernel
theorem dX12_gladderBy_15 : decode cX12_gladderBy 15 = .ok (.iload_n 3, 1) := by decide +kernel
theorem dX12_gladderBy_16 : decode cX12_gladderBy 16 = .ok (.invokevirtual 360, 3) := by decide +kernel
theorem dX12_gladderBy_19 : decode cX12_gladderBy 19 = .ok (.ifCond .eq 9, 3) := by decide +kernel
theorem dX12_gladderBy_22 : decode cX12_gladderBy 22 = .ok (.iconst 1, 1) := by decide +kernel
theorem dX12_gladderBy_23 : decode cX12_gladderBy 23 = .ok (.iload_n 3, 1) := by decide +kernel
theorem dX12_gladderBy_24 : decode cX12_gladderBy 24 = .ok (.ishl, 1) := by decide +kernel
theorem dX12_gladderBy_25 : decode cX12_gladderBy 25 = .ok (.goto 4, 3) := by decide +kernel
theorem dX12_gladderBy_28 : decode cX12_gladderBy 28 = .ok (.iconst 0, 1) := by decide +kernel
theorem dX12_gladderBy_29 : decode cX12_gladderBy 29 = .ok (.ior, 1) := by decide +kernel
theorem dX12_gladderBy_30 : decode cX12_gladderBy 30 = .ok (.istore_n 2, 1) := by decide +kernel
theorem dX12_gladderBy_31 : decode cX12_gladderBy 31 = .ok (.iinc 3 1, 3) := by decide +kernel
theorem dX12_gladderBy_34 : decode cX12_gladderBy 34 = .ok (.goto (-30), 3) := by decide +kernel
theorem dX12_gladderBy_37 : decode cX12_gladderBy 37 = .ok (.iload_n 2, 1) := by decide +kernel
theorem dX12_gladderBy_38 : decode cX12_gladderBy 38 = .ok (.ireturn, 1) := by decide +kernel
theorem dX12_person_0 : decode cX12_person 0 = .ok (.aload_n 0, 1) := by decide +kernel
theorem dX12_person_1 : decode cX12_person 1 = .ok (.iconst 0, 1) := by decide +kernel
theorem dX12_person_2 : decode cX12_person 2 = .ok (.putfield 3, 3) := by decide +kernel
theorem dX12_person_5 : decode cX12_person 5 = .ok (.aload_n 0, 1) := by decide +kernel
theorem dX12_person_6 : decode cX12_person 6 = .ok (.aload_n 0, 1) := by decide +kernel
theorem dX12_person_7 : decode cX12_person 7 = .ok (.iload_n 1, 1) := by decide +kernel
theorem dX12_person_8 : decode cX12_person 8 = .ok (.invokevirtual 297, 3) := by decide +kernel
theorem dX12_person_11 : decode cX12_person 11 = .ok (.iconst 1, 1) := by decide +kernel
theorem dX12_person_12 : decode cX12_person 12 = .ok (.invokevirtual 257, 3) := by decide +kernel
theorem dX12_person_15 : decode cX12_person 15 = .ok (.ifCond .ne 26, 3) := by decide +kernel
theorem dX12_person_18 : decode cX12_person 18 = .ok (.aload_n 0, 1) := by decide +kernel
theorem dX12_person_19 : decode cX12_person 19 = .ok (.iload_n 2, 1) := by decide +kernel
theorem dX12_person_20 : decode cX12_person 20 = .ok (.iconst 0, 1) := by decide +kernel
theorem dX12_person_21 : decode cX12_person 21 = .ok (.bipush 7, 2) := by decide +kernel
theorem dX12_person_23 : decode cX12_person 23 = .ok (.invokestatic 79, 3) := by decide +kernel
theorem dX12_person_26 : decode cX12_person 26 = .ok (.ifCond .ne 7, 3) := by decide +kernel
theorem dX12_person_29 : decode cX12_person 29 = .ok (.iconst 1, 1) := by decide +kernel
theorem dX12_person_30 : decode cX12_person 30 = .ok (.goto 4, 3) := by decide +kernel
theorem dX12_person_33 : decode cX12_person 33 = .ok (.iconst 0, 1) := by decide +kernel
theorem dX12_person_34 : decode cX12_person 34 = .ok (.iconst 2, 1) := by decide +kernel
theorem dX12_person_35 : decode cX12_person 35 = .ok (.invokevirtual 257, 3) := by decide +kernel
theorem dX12_person_38 : decode cX12_person 38 = .ok (.ifCond .eq 5, 3) := by decide +kernel
theorem dX12_person_41 : decode cX12_person 41 = .ok (.iconst 0, 1) := by decide +kernel
theorem dX12_person_42 : decode cX12_person 42 = .ok (.ireturn, 1) := by decide +kernel
theorem dX12_person_43 : decode cX12_person 43 = .ok (.iload_n 2, 1) := by decide +kernel
theorem dX12_person_44 : decode cX12_person 44 = .ok (.tableswitch 56 4 7 #[32, 38, 44, 50], 32) := by decide +kernel
theorem dX12_person_76 : decode cX12_person 76 = .ok (.aload_n 0, 1) := by decide +kernel
theorem dX12_person_77 : decode cX12_person 77 = .ok (.iload_n 1, 1) := by decide +kernel
theorem dX12_person_78 : decode cX12_person 78 = .ok (.invokevirtual 348, 3) := by decide +kernel
theorem dX12_person_81 : decode cX12_person 81 = .ok (.ireturn, 1) := by decide +kernel
theorem dX12_person_82 : decode cX12_person 82 = .ok (.aload_n 0, 1) := by decide +kernel
theorem dX12_person_83 : decode cX12_person 83 = .ok (.iload_n 1, 1) := by decide +kernel
theorem dX12_person_84 : decode cX12_person 84 = .ok (.invokevirtual 363, 3) := by decide +kernel
theorem dX12_person_87 : decode cX12_person 87 = .ok (.ireturn, 1) := by decide +kernel
theorem dX12_person_88 : decode cX12_person 88 = .ok (.aload_n 0, 1) := by decide +kernel
theorem dX12_person_89 : decode cX12_person 89 = .ok (.iload_n 1, 1) := by decide +kernel
theorem dX12_person_90 : decode cX12_person 90 = .ok (.invokevirtual 366, 3) := by decide +kernel
theorem dX12_person_93 : decode cX12_person 93 = .ok (.ireturn, 1) := by decide +kernel
theorem dX12_person_94 : decode cX12_person 94 = .ok (.aload_n 0, 1) := by decide +kernel
theorem dX12_person_95 : decode cX12_person 95 = .ok (.iload_n 1, 1) := by decide +kernel
theorem dX12_person_96 : decode cX12_person 96 = .ok (.invokevirtual 354, 3) := by decide +kernel
theorem dX12_person_99 : decode cX12_person 99 = .ok (.ireturn, 1) := by decide +kernel
theorem dX12_person_100 : decode cX12_person 100 = .ok (.aload_n 0, 1) := by decide +kernel
theorem dX12_person_101 : decode cX12_person 101 = .ok (.iload_n 1, 1) := by decide +kernel
theorem dX12_person_102 : decode cX12_person 102 = .ok (.iload_n 2, 1) := by decide +kernel
theorem dX12_person_103 : decode cX12_person 103 = .ok (.invokevirtual 73, 3) := by decide +kernel
theorem dX12_person_106 : decode cX12_person 106 = .ok (.ireturn, 1) := by decide +kernel
theorem dX12_liking_0 : decode cX12_liking 0 = .ok (.aload_n 0, 1) := by decide +kernel
theorem dX12_liking_1 : decode cX12_liking 1 = .ok (.iconst 0, 1) := by decide +kernel
theorem dX12_liking_2 : decode cX12_liking 2 = .ok (.putfield 3, 3) := by decide +kernel
theorem dX12_liking_5 : decode cX12_liking 5 = .ok (.aload_n 0, 1) := by decide +kernel
theorem dX12_liking_6 : decode cX12_liking 6 = .ok (.aload_n 0, 1) := by decide +kernel
theorem dX12_liking_7 : decode cX12_liking 7 = .ok (.iload_n 1, 1) := by decide +kernel
theorem dX12_liking_8 : decode cX12_liking 8 = .ok (.iload_n 2, 1) := by decide +kernel
theorem dX12_liking_9 : decode cX12_liking 9 = .ok (.invokevirtual 300, 3) := by decide +kernel
theorem dX12_liking_12 : decode cX12_liking 12 = .ok (.iconst 1, 1) := by decide +kernel
theorem dX12_liking_13 : decode cX12_liking 13 = .ok (.invokevirtual 257, 3) := by decide +kernel
theorem dX12_liking_16 : decode cX12_liking 16 = .ok (.ifCond .ne 21, 3) := by decide +kernel
theorem dX12_liking_19 : decode cX12_liking 19 = .ok (.aload_n 0, 1) := by decide +kernel
theorem dX12_liking_20 : decode cX12_liking 20 = .ok (.iload_n 1, 1) := by decide +kernel
theorem dX12_liking_21 : decode cX12_liking 21 = .ok (.iload_n 2, 1) := by decide +kernel
theorem dX12_liking_22 : decode cX12_liking 22 = .ok (.if_icmp .ne 7, 3) := by decide +kernel
theorem dX12_liking_25 : decode cX12_liking 25 = .ok (.iconst 1, 1) := by decide +kernel
theorem dX12_liking_26 : decode cX12_liking 26 = .ok (.goto 4, 3) := by decide +kernel
theorem dX12_liking_29 : decode cX12_liking 29 = .ok (.iconst 0, 1) := by decide +kernel
theorem dX12_liking_30 : decode cX12_liking 30 = .ok (.iconst 2, 1) := by decide +kernel
theorem dX12_liking_31 : decode cX12_liking 31 = .ok (.invokevirtual 257, 3) := by decide +kernel
theorem dX12_liking_34 : decode cX12_liking 34 = .ok (.ifCond .eq 7, 3) := by decide +kernel
theorem dX12_liking_37 : decode cX12_liking 37 = .ok (.iconst 0, 1) := by decide +kernel
theorem dX12_liking_38 : decode cX12_liking 38 = .ok (.goto 9, 3) := by decide +kernel
theorem dX12_liking_41 : decode cX12_liking 41 = .ok (.aload_n 0, 1) := by decide +kernel
theorem dX12_liking_42 : decode cX12_liking 42 = .ok (.iload_n 1, 1) := by decide +kernel
theorem dX12_liking_43 : decode cX12_liking 43 = .ok (.iload_n 2, 1) := by decide +kernel
theorem dX12_liking_44 : decode cX12_liking 44 = .ok (.invokevirtual 272, 3) := by decide +kernel
theorem dX12_liking_47 : decode cX12_liking 47 = .ok (.ireturn, 1) := by decide +kernel
theorem dX12_bond_0 : decode cX12_bond 0 = .ok (.aload_n 0, 1) := by decide +kernel
theorem dX12_bond_1 : decode cX12_bond 1 = .ok (.iconst 0, 1) := by decide +kernel
theorem dX12_bond_2 : decode cX12_bond 2 = .ok (.putfield 3, 3) := by decide +kernel
theorem dX12_bond_5 : decode cX12_bond 5 = .ok (.aload_n 0, 1) := by decide +kernel
theorem dX12_bond_6 : decode cX12_bond 6 = .ok (.aload_n 0, 1) := by decide +kernel
theorem dX12_bond_7 : decode cX12_bond 7 = .ok (.iload_n 1, 1) := by decide +kernel
theorem dX12_bond_8 : decode cX12_bond 8 = .ok (.iload_n 2, 1) := by decide +kernel
theorem dX12_bond_9 : decode cX12_bond 9 = .ok (.invokevirtual 300, 3) := by decide +kernel
theorem dX12_bond_12 : decode cX12_bond 12 = .ok (.iconst 1, 1) := by decide +kernel
theorem dX12_bond_13 : decode cX12_bond 13 = .ok (.invokevirtual 257, 3) := by decide +kernel
theorem dX12_bond_16 : decode cX12_bond 16 = .ok (.ifCond .ne 21, 3) := by decide +kernel
theorem dX12_bond_19 : decode cX12_bond 19 = .ok (.aload_n 0, 1) := by decide +kernel
theorem dX12_bond_20 : decode cX12_bond 20 = .ok (.iload_n 1, 1) := by decide +kernel
theorem dX12_bond_21 : decode cX12_bond 21 = .ok (.iload_n 2, 1) := by decide +kernel
theorem dX12_bond_22 : decode cX12_bond 22 = .ok (.if_icmp .ne 7, 3) := by decide +kernel
theorem dX12_bond_25 : decode cX12_bond 25 = .ok (.iconst 1, 1) := by decide +kernel
theorem dX12_bond_26 : decode cX12_bond 26 = .ok (.goto 4, 3) := by decide +kernel
theorem dX12_bond_29 : decode cX12_bond 29 = .ok (.iconst 0, 1) := by decide +kernel
theorem dX12_bond_30 : decode cX12_bond 30 = .ok (.iconst 2, 1) := by decide +kernel
theorem dX12_bond_31 : decode cX12_bond 31 = .ok (.invokevirtual 257, 3) := by decide +kernel
theorem dX12_bond_34 : decode cX12_bond 34 = .ok (.ifCond .eq 5, 3) := by decide +kernel
theorem dX12_bond_37 : decode cX12_bond 37 = .ok (.iconst 0, 1) := by decide +kernel
theorem dX12_bond_38 : decode cX12_bond 38 = .ok (.ireturn, 1) := by decide +kernel
theorem dX12_bond_39 : decode cX12_bond 39 = .ok (.iload_n 3, 1) := by decide +kernel
theorem dX12_bond_40 : decode cX12_bond 40 = .ok (.ifCond .ne 12, 3) := by decide +kernel
theorem dX12_bond_43 : decode cX12_bond 43 = .ok (.aload_n 0, 1) := by decide +kernel
theorem dX12_bond_44 : decode cX12_bond 44 = .ok (.iload_n 1, 1) := by decide +kernel
theorem dX12_bond_45 : decode cX12_bond 45 = .ok (.iload_n 2, 1) := by decide +kernel
theorem dX12_bond_46 : decode cX12_bond 46 = .ok (.invokevirtual 315, 3) := by decide +kernel
theorem dX12_bond_49 : decode cX12_bond 49 = .ok (.goto 30, 3) := by decide +kernel
theorem dX12_bond_52 : decode cX12_bond 52 = .ok (.aload_n 0, 1) := by decide +kernel
theorem dX12_bond_53 : decode cX12_bond 53 = .ok (.iload_n 1, 1) := by decide +kernel
theorem dX12_bond_54 : decode cX12_bond 54 = .ok (.iload_n 2, 1) := by decide +kernel
theorem dX12_bond_55 : decode cX12_bond 55 = .ok (.invokevirtual 69, 3) := by decide +kernel
theorem dX12_bond_58 : decode cX12_bond 58 = .ok (.ifCond .eq 20, 3) := by decide +kernel
theorem dX12_bond_61 : decode cX12_bond 61 = .ok (.aload_n 0, 1) := by decide +kernel
theorem dX12_bond_62 : decode cX12_bond 62 = .ok (.getfield 13, 3) := by decide +kernel
theorem dX12_bond_65 : decode cX12_bond 65 = .ok (.sipush 170, 3) := by decide +kernel
theorem dX12_bond_68 : decode cX12_bond 68 = .ok (.iload_n 1, 1) := by decide +kernel
theorem dX12_bond_69 : decode cX12_bond 69 = .ok (.iload_n 2, 1) := by decide +kernel
theorem dX12_bond_70 : decode cX12_bond 70 = .ok (.invokestatic 66, 3) := by decide +kernel
theorem dX12_bond_73 : decode cX12_bond 73 = .ok (.iadd, 1) := by decide +kernel
theorem dX12_bond_74 : decode cX12_bond 74 = .ok (.iaload, 1) := by decide +kernel
theorem dX12_bond_75 : decode cX12_bond 75 = .ok (.goto 4, 3) := by decide +kernel
theorem dX12_bond_78 : decode cX12_bond 78 = .ok (.iconst (-1), 1) := by decide +kernel
theorem dX12_bond_79 : decode cX12_bond 79 = .ok (.ireturn, 1) := by decide +kernel
theorem dX12_circles_0 : decode cX12_circles 0 = .ok (.aload_n 0, 1) := by decide +kernel
theorem dX12_circles_1 : decode cX12_circles 1 = .ok (.iconst 0, 1) := by decide +kernel
theorem dX12_circles_2 : decode cX12_circles 2 = .ok (.putfield 3, 3) := by decide +kernel
theorem dX12_circles_5 : decode cX12_circles 5 = .ok (.iconst 0, 1) := by decide +kernel
theorem dX12_circles_6 : decode cX12_circles 6 = .ok (.istore_n 1, 1) := by decide +kernel
theorem dX12_circles_7 : decode cX12_circles 7 = .ok (.iconst 0, 1) := by decide +kernel
theorem dX12_circles_8 : decode cX12_circles 8 = .ok (.istore_n 2, 1) := by decide +kernel
theorem dX12_circles_9 : decode cX12_circles 9 = .ok (.iload_n 2, 1) := by decide +kernel
theorem dX12_circles_10 : decode cX12_circles 10 = .ok (.aload_n 0, 1) := by decide +kernel
theorem dX12_circles_11 : decode cX12_circles 11 = .ok (.invokevirtual 58, 3) := by decide +kernel
theorem dX12_circles_14 : decode cX12_circles 14 = .ok (.if_icmp .ge 39, 3) := by decide +kernel
theorem dX12_circles_17 : decode cX12_circles 17 = .ok (.aload_n 0, 1) := by decide +kernel
theorem dX12_circles_18 : decode cX12_circles 18 = .ok (.iload_n 2, 1) := by decide +kernel
theorem dX12_circles_19 : decode cX12_circles 19 = .ok (.invokevirtual 363, 3) := by decide +kernel
theorem dX12_circles_22 : decode cX12_circles 22 = .ok (.istore_n 3, 1) := by decide +kernel
theorem dX12_circles_23 : decode cX12_circles 23 = .ok (.iload_n 1, 1) := by decide +kernel
theorem dX12_circles_24 : decode cX12_circles 24 = .ok (.iload_n 3, 1) := by decide +kernel
theorem dX12_circles_25 : decode cX12_circles 25 = .ok (.invokestatic 318, 3) := by decide +kernel
theorem dX12_circles_28 : decode cX12_circles 28 = .ok (.iconst 1, 1) := by decide +kernel
theorem dX12_circles_29 : decode cX12_circles 29 = .ok (.if_icmp .le 15, 3) := by decide +kernel
theorem dX12_circles_32 : decode cX12_circles 32 = .ok (.iload_n 3, 1) := by decide +kernel
theorem dX12_circles_33 : decode cX12_circles 33 = .ok (.invokestatic 369, 3) := by decide +kernel
theorem dX12_circles_36 : decode cX12_circles 36 = .ok (.iload_n 2, 1) := by decide +kernel
theorem dX12_circles_37 : decode cX12_circles 37 = .ok (.if_icmp .ne 7, 3) := by decide +kernel
theorem dX12_circles_40 : decode cX12_circles 40 = .ok (.iconst 1, 1) := by decide +kernel
theorem dX12_circles_41 : decode cX12_circles 41 = .ok (.goto 4, 3) := by decide +kernel
theorem dX12_circles_44 : decode cX12_circles 44 = .ok (.iconst 0, 1) := by decide +kernel
theorem dX12_circles_45 : decode cX12_circles 45 = .ok (.iadd, 1) := by decide +kernel
theorem dX12_circles_46 : decode cX12_circles 46 = .ok (.istore_n 1, 1) := by decide +kernel
theorem dX12_circles_47 : decode cX12_circles 47 = .ok (.iinc 2 1, 3) := by decide +kernel
theorem dX12_circles_50 : decode cX12_circles 50 = .ok (.goto (-41), 3) := by decide +kernel
theorem dX12_circles_53 : decode cX12_circles 53 = .ok (.iload_n 1, 1) := by decide +kernel
theorem dX12_circles_54 : decode cX12_circles 54 = .ok (.ireturn, 1) := by decide +kernel
theorem dX12_ends_0 : decode cX12_ends 0 = .ok (.aload_n 0, 1) := by decide +kernel
theorem dX12_ends_1 : decode cX12_ends 1 = .ok (.iconst 0, 1) := by decide +kernel
theorem dX12_ends_2 : decode cX12_ends 2 = .ok (.putfield 3, 3) := by decide +kernel
theorem dX12_ends_5 : decode cX12_ends 5 = .ok (.aload_n 0, 1) := by decide +kernel
theorem dX12_ends_6 : decode cX12_ends 6 = .ok (.getfield 13, 3) := by decide +kernel
theorem dX12_ends_9 : decode cX12_ends 9 = .ok (.iconst 3, 1) := by decide +kernel
theorem dX12_ends_10 : decode cX12_ends 10 = .ok (.iaload, 1) := by decide +kernel
theorem dX12_ends_11 : decode cX12_ends 11 = .ok (.istore_n 1, 1) := by decide +kernel
theorem dX12_ends_12 : decode cX12_ends 12 = .ok (.iconst 0, 1) := by decide +kernel
theorem dX12_ends_13 : decode cX12_ends 13 = .ok (.istore_n 2, 1) := by decide +kernel
theorem dX12_ends_14 : decode cX12_ends 14 = .ok (.iload_n 2, 1) := by decide +kernel
theorem dX12_ends_15 : decode cX12_ends 15 = .ok (.aload_n 0, 1) := by decide +kernel
theorem dX12_ends_16 : decode cX12_ends 16 = .ok (.invokevirtual 58, 3) := by decide +kernel
theorem dX12_ends_19 : decode cX12_ends 19 = .ok (.if_icmp .ge 54, 3) := by decide +kernel
theorem dX12_ends_22 : decode cX12_ends 22 = .ok (.iconst 0, 1) := by decide +kernel
theorem dX12_ends_23 : decode cX12_ends 23 = .ok (.istore_n 3, 1) := by decide +kernel
theorem dX12_ends_24 : decode cX12_ends 24 = .ok (.iload_n 3, 1) := by decide +kernel
theorem dX12_ends_25 : decode cX12_ends 25 = .ok (.iload_n 2, 1) := by decide +kernel
theorem dX12_ends_26 : decode cX12_ends 26 = .ok (.if_icmp .ge 41, 3) := by decide +kernel
theorem dX12_ends_29 : decode cX12_ends 29 = .ok (.aload_n 0, 1) := by decide +kernel
theorem dX12_ends_30 : decode cX12_ends 30 = .ok (.iload_n 2, 1) := by decide +kernel
theorem dX12_ends_31 : decode cX12_ends 31 = .ok (.iload_n 3, 1) := by decide +kernel
theorem dX12_ends_32 : decode cX12_ends 32 = .ok (.invokevirtual 69, 3) := by decide +kernel
theorem dX12_ends_35 : decode cX12_ends 35 = .ok (.ifCond .eq 24, 3) := by decide +kernel
theorem dX12_ends_38 : decode cX12_ends 38 = .ok (.iload_n 1, 1) := by decide +kernel
theorem dX12_ends_39 : decode cX12_ends 39 = .ok (.aload_n 0, 1) := by decide +kernel
theorem dX12_ends_40 : decode cX12_ends 40 = .ok (.getfield 13, 3) := by decide +kernel
theorem dX12_ends_43 : decode cX12_ends 43 = .ok (.sipush 170, 3) := by decide +kernel
theorem dX12_ends_46 : decode cX12_ends 46 = .ok (.iload_n 2, 1) := by decide +kernel
theorem dX12_ends_47 : decode cX12_ends 47 = .ok (.iload_n 3, 1) := by decide +kernel
theorem dX12_ends_48 : decode cX12_ends 48 = .ok (.invokestatic 66, 3) := by decide +kernel
theorem dX12_ends_51 : decode cX12_ends 51 = .ok (.iadd, 1) := by decide +kernel
theorem dX12_ends_52 : decode cX12_ends 52 = .ok (.iaload, 1) := by decide +kernel
theorem dX12_ends_53 : decode cX12_ends 53 = .ok (.invokestatic 288, 3) := by decide +kernel
theorem dX12_ends_56 : decode cX12_ends 56 = .ok (.goto 4, 3) := by decide +kernel
theorem dX12_ends_59 : decode cX12_ends 59 = .ok (.iload_n 1, 1) := by decide +kernel
theorem dX12_ends_60 : decode cX12_ends 60 = .ok (.istore_n 1, 1) := by decide +kernel
theorem dX12_ends_61 : decode cX12_ends 61 = .ok (.iinc 3 1, 3) := by decide +kernel
theorem dX12_ends_64 : decode cX12_ends 64 = .ok (.goto (-40), 3) := by decide +kernel
theorem dX12_ends_67 : decode cX12_ends 67 = .ok (.iinc 2 1, 3) := by decide +kernel
theorem dX12_ends_70 : decode cX12_ends 70 = .ok (.goto (-56), 3) := by decide +kernel
theorem dX12_ends_73 : decode cX12_ends 73 = .ok (.iload_n 1, 1) := by decide +kernel
theorem dX12_ends_74 : decode cX12_ends 74 = .ok (.ireturn, 1) := by decide +kernel
theorem dX12_free_0 : decode cX12_free 0 = .ok (.aload_n 0, 1) := by decide +kernel
theorem dX12_free_1 : decode cX12_free 1 = .ok (.iconst 0, 1) := by decide +kernel
theorem dX12_free_2 : decode cX12_free 2 = .ok (.putfield 3, 3) := by decide +kernel
theorem dX12_free_5 : decode cX12_free 5 = .ok (.aload_n 0, 1) := by decide +kernel
theorem dX12_free_6 : decode cX12_free 6 = .ok (.iload_n 1, 1) := by decide +kernel
theorem dX12_free_7 : decode cX12_free 7 = .ok (.iconst 0, 1) := by decide +kernel
theorem dX12_free_8 : decode cX12_free 8 = .ok (.sipush 9999, 3) := by decide +kernel
theorem dX12_free_11 : decode cX12_free 11 = .ok (.invokestatic 79, 3) := by decide +kernel
theorem dX12_free_14 : decode cX12_free 14 = .ok (.ifCond .ne 7, 3) := by decide +kernel
theorem dX12_free_17 : decode cX12_free 17 = .ok (.iconst 1, 1) := by decide +kernel
theorem dX12_free_18 : decode cX12_free 18 = .ok (.goto 4, 3) := by decide +kernel
theorem dX12_free_21 : decode cX12_free 21 = .ok (.iconst 0, 1) := by decide +kernel
theorem dX12_free_22 : decode cX12_free 22 = .ok (.iconst 1, 1) := by decide +kernel
theorem dX12_free_23 : decode cX12_free 23 = .ok (.invokevirtual 257, 3) := by decide +kernel
theorem dX12_free_26 : decode cX12_free 26 = .ok (.ifCond .eq 5, 3) := by decide +kernel
theorem dX12_free_29 : decode cX12_free 29 = .ok (.iconst 0, 1) := by decide +kernel
theorem dX12_free_30 : decode cX12_free 30 = .ok (.ireturn, 1) := by decide +kernel
theorem dX12_free_31 : decode cX12_free 31 = .ok (.aload_n 0, 1) := by decide +kernel
theorem dX12_free_32 : decode cX12_free 32 = .ok (.invokevirtual 327, 3) := by decide +kernel
theorem dX12_free_35 : decode cX12_free 35 = .ok (.istore_n 2, 1) := by decide +kernel
theorem dX12_free_36 : decode cX12_free 36 = .ok (.iconst 0, 1) := by decide +kernel
theorem dX12_free_37 : decode cX12_free 37 = .ok (.istore_n 3, 1) := by decide +kernel
theorem dX12_free_38 : decode cX12_free 38 = .ok (.iload_n 3, 1) := by decide +kernel
theorem dX12_free_39 : decode cX12_free 39 = .ok (.aload_n 0, 1) := by decide +kernel
theorem dX12_free_40 : decode cX12_free 40 = .ok (.invokevirtual 58, 3) := by decide +kernel
theorem dX12_free_43 : decode cX12_free 43 = .ok (.if_icmp .ge 77, 3) := by decide +kernel
theorem dX12_free_46 : decode cX12_free 46 = .ok (.iconst 0, 1) := by decide +kernel
theorem dX12_free_47 : decode cX12_free 47 = .ok (.istore 4, 2) := by decide +kernel
theorem dX12_free_49 : decode cX12_free 49 = .ok (.iload 4, 2) := by decide +kernel
theorem dX12_free_51 : decode cX12_free 51 = .ok (.aload_n 0, 1) := by decide +kernel
theorem dX12_free_52 : decode cX12_free 52 = .ok (.invokevirtual 58, 3) := by decide +kernel
theorem dX12_free_55 : decode cX12_free 55 = .ok (.if_icmp .ge 59, 3) := by decide +kernel
theorem dX12_free_58 : decode cX12_free 58 = .ok (.iload_n 3, 1) := by decide +kernel
theorem dX12_free_59 : decode cX12_free 59 = .ok (.iload 4, 2) := by decide +kernel
theorem dX12_free_61 : decode cX12_free 61 = .ok (.if_icmp .eq 47, 3) := by decide +kernel
theorem dX12_free_64 : decode cX12_free 64 = .ok (.aload_n 0, 1) := by decide +kernel
theorem dX12_free_65 : decode cX12_free 65 = .ok (.getfield 13, 3) := by decide +kernel
theorem dX12_free_68 : decode cX12_free 68 = .ok (.bipush 106, 2) := by decide +kernel
theorem dX12_free_70 : decode cX12_free 70 = .ok (.iload_n 3, 1) := by decide +kernel
theorem dX12_free_71 : decode cX12_free 71 = .ok (.iload 4, 2) := by decide +kernel
theorem dX12_free_73 : decode cX12_free 73 = .ok (.invokestatic 66, 3) := by decide +kernel
theorem dX12_free_76 : decode cX12_free 76 = .ok (.iadd, 1) := by decide +kernel
theorem dX12_free_77 : decode cX12_free 77 = .ok (.iaload, 1) := by decide +kernel
theorem dX12_free_78 : decode cX12_free 78 = .ok (.ifCond .le 30, 3) := by decide +kernel
theorem dX12_free_81 : decode cX12_free 81 = .ok (.aload_n 0, 1) := by decide +kernel
theorem dX12_free_82 : decode cX12_free 82 = .ok (.getfield 13, 3) := by decide +kernel
theorem dX12_free_85 : decode cX12_free 85 = .ok (.sipush 170, 3) := by decide +kernel
theorem dX12_free_88 : decode cX12_free 88 = .ok (.iload_n 3, 1) := by decide +kernel
theorem dX12_free_89 : decode cX12_free 89 = .ok (.iload 4, 2) := by decide +kernel
theorem dX12_free_91 : decode cX12_free 91 = .ok (.invokestatic 66, 3) := by decide +kernel
theorem dX12_free_94 : decode cX12_free 94 = .ok (.iadd, 1) := by decide +kernel
theorem dX12_free_95 : decode cX12_free 95 = .ok (.iaload, 1) := by decide +kernel
theorem dX12_free_96 : decode cX12_free 96 = .ok (.iload_n 1, 1) := by decide +kernel
theorem dX12_free_97 : decode cX12_free 97 = .ok (.if_icmp .le 11, 3) := by decide +kernel
theorem dX12_free_100 : decode cX12_free 100 = .ok (.iload_n 2, 1) := by decide +kernel
theorem dX12_free_101 : decode cX12_free 101 = .ok (.iconst 1, 1) := by decide +kernel
theorem dX12_free_102 : decode cX12_free 102 = .ok (.iload_n 3, 1) := by decide +kernel
theorem dX12_free_103 : decode cX12_free 103 = .ok (.ishl, 1) := by decide +kernel
theorem dX12_free_104 : decode cX12_free 104 = .ok (.iconst (-1), 1) := by decide +kernel
theorem dX12_free_105 : decode cX12_free 105 = .ok (.ixor, 1) := by decide +kernel
theorem dX12_free_106 : decode cX12_free 106 = .ok (.iand, 1) := by decide +kernel
theorem dX12_free_107 : decode cX12_free 107 = .ok (.istore_n 2, 1) := by decide +kernel
theorem dX12_free_108 : decode cX12_free 108 = .ok (.iinc 4 1, 3) := by decide +kernel
theorem dX12_free_111 : decode cX12_free 111 = .ok (.goto (-62), 3) := by decide +kernel
theorem dX12_free_114 : decode cX12_free 114 = .ok (.iinc 3 1, 3) := by decide +kernel
theorem dX12_free_117 : decode cX12_free 117 = .ok (.goto (-79), 3) := by decide +kernel
theorem dX12_free_120 : decode cX12_free 120 = .ok (.iload_n 2, 1) := by decide +kernel
theorem dX12_free_121 : decode cX12_free 121 = .ok (.ireturn, 1) := by decide +kernel
theorem dX12_isSecret_0 : decode cX12_isSecret 0 = .ok (.aload_n 0, 1) := by decide +kernel
theorem dX12_isSecret_1 : decode cX12_isSecret 1 = .ok (.iload_n 1, 1) := by decide +kernel
theorem dX12_isSecret_2 : decode cX12_isSecret 2 = .ok (.iload_n 2, 1) := by decide +kernel
theorem dX12_isSecret_3 : decode cX12_isSecret 3 = .ok (.invokevirtual 69, 3) := by decide +kernel
theorem dX12_isSecret_6 : decode cX12_isSecret 6 = .ok (.ifCond .eq 16, 3) := by decide +kernel
theorem dX12_isSecret_9 : decode cX12_isSecret 9 = .ok (.aload_n 0, 1) := by decide +kernel
theorem dX12_isSecret_10 : decode cX12_isSecret 10 = .ok (.iload_n 1, 1) := by decide +kernel
theorem dX12_isSecret_11 : decode cX12_isSecret 11 = .ok (.iload_n 2, 1) := by decide +kernel
theorem dX12_isSecret_12 : decode cX12_isSecret 12 = .ok (.invokevirtual 274, 3) := by decide +kernel
theorem dX12_isSecret_15 : decode cX12_isSecret 15 = .ok (.ifCond .ne 7, 3) := by decide +kernel
theorem dX12_isSecret_18 : decode cX12_isSecret 18 = .ok (.iconst 1, 1) := by decide +kernel
theorem dX12_isSecret_19 : decode cX12_isSecret 19 = .ok (.goto 4, 3) := by decide +kernel
theorem dX12_isSecret_22 : decode cX12_isSecret 22 = .ok (.iconst 0, 1) := by decide +kernel
theorem dX12_isSecret_23 : decode cX12_isSecret 23 = .ok (.ireturn, 1) := by decide +kernel
theorem dX12_secrets_0 : decode cX12_secrets 0 = .ok (.aload_n 0, 1) := by decide +kernel
theorem dX12_secrets_1 : decode cX12_secrets 1 = .ok (.iconst 0, 1) := by decide +kernel
theorem dX12_secrets_2 : decode cX12_secrets 2 = .ok (.putfield 3, 3) := by decide +kernel
theorem dX12_secrets_5 : decode cX12_secrets 5 = .ok (.iconst 0, 1) := by decide +kernel
theorem dX12_secrets_6 : decode cX12_secrets 6 = .ok (.istore_n 1, 1) := by decide +kernel
theorem dX12_secrets_7 : decode cX12_secrets 7 = .ok (.iconst 0, 1) := by decide +kernel
theorem dX12_secrets_8 : decode cX12_secrets 8 = .ok (.istore_n 2, 1) := by decide +kernel
theorem dX12_secrets_9 : decode cX12_secrets 9 = .ok (.iload_n 2, 1) := by decide +kernel
theorem dX12_secrets_10 : decode cX12_secrets 10 = .ok (.aload_n 0, 1) := by decide +kernel
theorem dX12_secrets_11 : decode cX12_secrets 11 = .ok (.invokevirtual 58, 3) := by decide +kernel
theorem dX12_secrets_14 : decode cX12_secrets 14 = .ok (.if_icmp .ge 39, 3) := by decide +kernel
theorem dX12_secrets_17 : decode cX12_secrets 17 = .ok (.iconst 0, 1) := by decide +kernel
theorem dX12_secrets_18 : decode cX12_secrets 18 = .ok (.istore_n 3, 1) := by decide +kernel
theorem dX12_secrets_19 : decode cX12_secrets 19 = .ok (.iload_n 3, 1) := by decide +kernel
theorem dX12_secrets_20 : decode cX12_secrets 20 = .ok (.iload_n 2, 1) := by decide +kernel
theorem dX12_secrets_21 : decode cX12_secrets 21 = .ok (.if_icmp .ge 26, 3) := by decide +kernel
theorem dX12_secrets_24 : decode cX12_secrets 24 = .ok (.iload_n 1, 1) := by decide +kernel
theorem dX12_secrets_25 : decode cX12_secrets 25 = .ok (.aload_n 0, 1) := by decide +kernel
theorem dX12_secrets_26 : decode cX12_secrets 26 = .ok (.iload_n 2, 1) := by decide +kernel
theorem dX12_secrets_27 : decode cX12_secrets 27 = .ok (.iload_n 3, 1) := by decide +kernel
theorem dX12_secrets_28 : decode cX12_secrets 28 = .ok (.invokevirtual 372, 3) := by decide +kernel
theorem dX12_secrets_31 : decode cX12_secrets 31 = .ok (.ifCond .eq 7, 3) := by decide +kernel
theorem dX12_secrets_34 : decode cX12_secrets 34 = .ok (.iconst 1, 1) := by decide +kernel
theorem dX12_secrets_35 : decode cX12_secrets 35 = .ok (.goto 4, 3) := by decide +kernel
theorem dX12_secrets_38 : decode cX12_secrets 38 = .ok (.iconst 0, 1) := by decide +kernel
theorem dX12_secrets_39 : decode cX12_secrets 39 = .ok (.iadd, 1) := by decide +kernel
theorem dX12_secrets_40 : decode cX12_secrets 40 = .ok (.istore_n 1, 1) := by decide +kernel
theorem dX12_secrets_41 : decode cX12_secrets 41 = .ok (.iinc 3 1, 3) := by decide +kernel
theorem dX12_secrets_44 : decode cX12_secrets 44 = .ok (.goto (-25), 3) := by decide +kernel
theorem dX12_secrets_47 : decode cX12_secrets 47 = .ok (.iinc 2 1, 3) := by decide +kernel
theorem dX12_secrets_50 : decode cX12_secrets 50 = .ok (.goto (-41), 3) := by decide +kernel
theorem dX12_secrets_53 : decode cX12_secrets 53 = .ok (.iload_n 1, 1) := by decide +kernel
theorem dX12_secrets_54 : decode cX12_secrets 54 = .ok (.ireturn, 1) := by decide +kernel
theorem dX12_crossing_0 : decode cX12_crossing 0 = .ok (.iconst 0, 1) := by decide +kernel
theorem dX12_crossing_1 : decode cX12_crossing 1 = .ok (.istore_n 2, 1) := by decide +kernel
theorem dX12_crossing_2 : decode cX12_crossing 2 = .ok (.iconst 0, 1) := by decide +kernel
theorem dX12_crossing_3 : decode cX12_crossing 3 = .ok (.istore_n 3, 1) := by decide +kernel
theorem dX12_crossing_4 : decode cX12_crossing 4 = .ok (.iload_n 3, 1) := by decide +kernel
theorem dX12_crossing_5 : decode cX12_crossing 5 = .ok (.aload_n 0, 1) := by decide +kernel
theorem dX12_crossing_6 : decode cX12_crossing 6 = .ok (.invokevirtual 58, 3) := by decide +kernel
theorem dX12_crossing_9 : decode cX12_crossing 9 = .ok (.if_icmp .ge 36, 3) := by decide +kernel
theorem dX12_crossing_12 : decode cX12_crossing 12 = .ok (.iload_n 2, 1) := by decide +kernel
theorem dX12_crossing_13 : decode cX12_crossing 13 = .ok (.iload_n 1, 1) := by decide +kernel
theorem dX12_crossing_14 : decode cX12_crossing 14 = .ok (.iload_n 3, 1) := by decide +kernel
theorem dX12_crossing_15 : decode cX12_crossing 15 = .ok (.invokestatic 76, 3) := by decide +kernel
theorem dX12_crossing_18 : decode cX12_crossing 18 = .ok (.ifCond .eq 18, 3) := by decide +kernel
theorem dX12_crossing_21 : decode cX12_crossing 21 = .ok (.aload_n 0, 1) := by decide +kernel
theorem dX12_crossing_22 : decode cX12_crossing 22 = .ok (.iload_n 3, 1) := by decide +kernel
theorem dX12_crossing_23 : decode cX12_crossing 23 = .ok (.invokevirtual 348, 3) := by decide +kernel
theorem dX12_crossing_26 : decode cX12_crossing 26 = .ok (.iload_n 1, 1) := by decide +kernel
theorem dX12_crossing_27 : decode cX12_crossing 27 = .ok (.iconst (-1), 1) := by decide +kernel
theorem dX12_crossing_28 : decode cX12_crossing 28 = .ok (.ixor, 1) := by decide +kernel
theorem dX12_crossing_29 : decode cX12_crossing 29 = .ok (.iand, 1) := by decide +kernel
theorem dX12_crossing_30 : decode cX12_crossing 30 = .ok (.invokestatic 318, 3) := by decide +kernel
theorem dX12_crossing_33 : decode cX12_crossing 33 = .ok (.goto 4, 3) := by decide +kernel
theorem dX12_crossing_36 : decode cX12_crossing 36 = .ok (.iconst 0, 1) := by decide +kernel
theorem dX12_crossing_37 : decode cX12_crossing 37 = .ok (.iadd, 1) := by decide +kernel
theorem dX12_crossing_38 : decode cX12_crossing 38 = .ok (.istore_n 2, 1) := by decide +kernel
theorem dX12_crossing_39 : decode cX12_crossing 39 = .ok (.iinc 3 1, 3) := by decide +kernel
theorem dX12_crossing_42 : decode cX12_crossing 42 = .ok (.goto (-38), 3) := by decide +kernel
theorem dX12_crossing_45 : decode cX12_crossing 45 = .ok (.iload_n 2, 1) := by decide +kernel
theorem dX12_crossing_46 : decode cX12_crossing 46 = .ok (.ireturn, 1) := by decide +kernel
theorem dX12_parts_0 : decode cX12_parts 0 = .ok (.aload_n 0, 1) := by decide +kernel
theorem dX12_parts_1 : decode cX12_parts 1 = .ok (.iconst 0, 1) := by decide +kernel
theorem dX12_parts_2 : decode cX12_parts 2 = .ok (.putfield 3, 3) := by decide +kernel
theorem dX12_parts_5 : decode cX12_parts 5 = .ok (.aload_n 0, 1) := by decide +kernel
theorem dX12_parts_6 : decode cX12_parts 6 = .ok (.aload_n 0, 1) := by decide +kernel
theorem dX12_parts_7 : decode cX12_parts 7 = .ok (.iload_n 1, 1) := by decide +kernel
theorem dX12_parts_8 : decode cX12_parts 8 = .ok (.iload_n 2, 1) := by decide +kernel
theorem dX12_parts_9 : decode cX12_parts 9 = .ok (.invokevirtual 300, 3) := by decide +kernel
theorem dX12_parts_12 : decode cX12_parts 12 = .ok (.iconst 1, 1) := by decide +kernel
theorem dX12_parts_13 : decode cX12_parts 13 = .ok (.invokevirtual 257, 3) := by decide +kernel
theorem dX12_parts_16 : decode cX12_parts 16 = .ok (.ifCond .ne 21, 3) := by decide +kernel
theorem dX12_parts_19 : decode cX12_parts 19 = .ok (.aload_n 0, 1) := by decide +kernel
theorem dX12_parts_20 : decode cX12_parts 20 = .ok (.iload_n 1, 1) := by decide +kernel
theorem dX12_parts_21 : decode cX12_parts 21 = .ok (.iload_n 2, 1) := by decide +kernel
theorem dX12_parts_22 : decode cX12_parts 22 = .ok (.if_icmp .ne 7, 3) := by decide +kernel
theorem dX12_parts_25 : decode cX12_parts 25 = .ok (.iconst 1, 1) := by decide +kernel
theorem dX12_parts_26 : decode cX12_parts 26 = .ok (.goto 4, 3) := by decide +kernel
theorem dX12_parts_29 : decode cX12_parts 29 = .ok (.iconst 0, 1) := by decide +kernel
theorem dX12_parts_30 : decode cX12_parts 30 = .ok (.iconst 2, 1) := by decide +kernel
theorem dX12_parts_31 : decode cX12_parts 31 = .ok (.invokevirtual 257, 3) := by decide +kernel
theorem dX12_parts_34 : decode cX12_parts 34 = .ok (.ifCond .eq 5, 3) := by decide +kernel
theorem dX12_parts_37 : decode cX12_parts 37 = .ok (.iconst 0, 1) := by decide +kernel
theorem dX12_parts_38 : decode cX12_parts 38 = .ok (.ireturn, 1) := by decide +kernel
theorem dX12_parts_39 : decode cX12_parts 39 = .ok (.ldc_w 375, 3) := by decide +kernel
theorem dX12_parts_42 : decode cX12_parts 42 = .ok (.istore_n 3, 1) := by decide +kernel
theorem dX12_parts_43 : decode cX12_parts 43 = .ok (.iconst 0, 1) := by decide +kernel
theorem dX12_parts_44 : decode cX12_parts 44 = .ok (.istore 4, 2) := by decide +kernel
theorem dX12_parts_46 : decode cX12_parts 46 = .ok (.iload 4, 2) := by decide +kernel
theorem dX12_parts_48 : decode cX12_parts 48 = .ok (.aload_n 0, 1) := by decide +kernel
theorem dX12_parts_49 : decode cX12_parts 49 = .ok (.invokevirtual 327, 3) := by decide +kernel
theorem dX12_parts_52 : decode cX12_parts 52 = .ok (.if_icmp .gt 42, 3) := by decide +kernel
theorem dX12_parts_55 : decode cX12_parts 55 = .ok (.iload 4, 2) := by decide +kernel
theorem dX12_parts_57 : decode cX12_parts 57 = .ok (.iload_n 1, 1) := by decide +kernel
theorem dX12_parts_58 : decode cX12_parts 58 = .ok (.invokestatic 76, 3) := by decide +kernel
theorem dX12_parts_61 : decode cX12_parts 61 = .ok (.ifCond .eq 25, 3) := by decide +kernel
theorem dX12_parts_64 : decode cX12_parts 64 = .ok (.iload 4, 2) := by decide +kernel
theorem dX12_parts_66 : decode cX12_parts 66 = .ok (.iload_n 2, 1) := by decide +kernel
theorem dX12_parts_67 : decode cX12_parts 67 = .ok (.invokestatic 76, 3) := by decide +kernel
theorem dX12_parts_70 : decode cX12_parts 70 = .ok (.ifCond .ne 16, 3) := by decide +kernel
theorem dX12_parts_73 : decode cX12_parts 73 = .ok (.iload_n 3, 1) := by decide +kernel
theorem dX12_parts_74 : decode cX12_parts 74 = .ok (.aload_n 0, 1) := by decide +kernel
theorem dX12_parts_75 : decode cX12_parts 75 = .ok (.iload 4, 2) := by decide +kernel
theorem dX12_parts_77 : decode cX12_parts 77 = .ok (.invokevirtual 376, 3) := by decide +kernel
theorem dX12_parts_80 : decode cX12_parts 80 = .ok (.invokestatic 283, 3) := by decide +kernel
theorem dX12_parts_83 : decode cX12_parts 83 = .ok (.goto 4, 3) := by decide +kernel
theorem dX12_parts_86 : decode cX12_parts 86 = .ok (.iload_n 3, 1) := by decide +kernel
theorem dX12_parts_87 : decode cX12_parts 87 = .ok (.istore_n 3, 1) := by decide +kernel
theorem dX12_parts_88 : decode cX12_parts 88 = .ok (.iinc 4 1, 3) := by decide +kernel
theorem dX12_parts_91 : decode cX12_parts 91 = .ok (.goto (-45), 3) := by decide +kernel
theorem dX12_parts_94 : decode cX12_parts 94 = .ok (.iload_n 3, 1) := by decide +kernel
theorem dX12_parts_95 : decode cX12_parts 95 = .ok (.ireturn, 1) := by decide +kernel
theorem dX12_between_0 : decode cX12_between 0 = .ok (.aload_n 0, 1) := by decide +kernel
theorem dX12_between_1 : decode cX12_between 1 = .ok (.iconst 0, 1) := by decide +kernel
theorem dX12_between_2 : decode cX12_between 2 = .ok (.putfield 3, 3) := by decide +kernel
theorem dX12_between_5 : decode cX12_between 5 = .ok (.aload_n 0, 1) := by decide +kernel
theorem dX12_between_6 : decode cX12_between 6 = .ok (.aload_n 0, 1) := by decide +kernel
theorem dX12_between_7 : decode cX12_between 7 = .ok (.iload_n 1, 1) := by decide +kernel
theorem dX12_between_8 : decode cX12_between 8 = .ok (.iload_n 2, 1) := by decide +kernel
theorem dX12_between_9 : decode cX12_between 9 = .ok (.invokevirtual 300, 3) := by decide +kernel
theorem dX12_between_12 : decode cX12_between 12 = .ok (.iconst 1, 1) := by decide +kernel
theorem dX12_between_13 : decode cX12_between 13 = .ok (.invokevirtual 257, 3) := by decide +kernel
theorem dX12_between_16 : decode cX12_between 16 = .ok (.ifCond .eq 5, 3) := by decide +kernel
theorem dX12_between_19 : decode cX12_between 19 = .ok (.iconst 0, 1) := by decide +kernel
theorem dX12_between_20 : decode cX12_between 20 = .ok (.ireturn, 1) := by decide +kernel
theorem dX12_between_21 : decode cX12_between 21 = .ok (.iconst 1, 1) := by decide +kernel
theorem dX12_between_22 : decode cX12_between 22 = .ok (.iload_n 1, 1) := by decide +kernel
theorem dX12_between_23 : decode cX12_between 23 = .ok (.ishl, 1) := by decide +kernel
theorem dX12_between_24 : decode cX12_between 24 = .ok (.istore_n 3, 1) := by decide +kernel
theorem dX12_between_25 : decode cX12_between 25 = .ok (.iconst 0, 1) := by decide +kernel
theorem dX12_between_26 : decode cX12_between 26 = .ok (.istore 4, 2) := by decide +kernel
theorem dX12_between_28 : decode cX12_between 28 = .ok (.iload 4, 2) := by decide +kernel
theorem dX12_between_30 : decode cX12_between 30 = .ok (.bipush 8, 2) := by decide +kernel
theorem dX12_between_32 : decode cX12_between 32 = .ok (.if_icmp .ge 26, 3) := by decide +kernel
theorem dX12_between_35 : decode cX12_between 35 = .ok (.iload_n 3, 1) := by decide +kernel
theorem dX12_between_36 : decode cX12_between 36 = .ok (.iload_n 2, 1) := by decide +kernel
theorem dX12_between_37 : decode cX12_between 37 = .ok (.invokestatic 76, 3) := by decide +kernel
theorem dX12_between_40 : decode cX12_between 40 = .ok (.ifCond .eq 6, 3) := by decide +kernel
theorem dX12_between_43 : decode cX12_between 43 = .ok (.iload 4, 2) := by decide +kernel
theorem dX12_between_45 : decode cX12_between 45 = .ok (.ireturn, 1) := by decide +kernel
theorem dX12_between_46 : decode cX12_between 46 = .ok (.aload_n 0, 1) := by decide +kernel
theorem dX12_between_47 : decode cX12_between 47 = .ok (.iload_n 3, 1) := by decide +kernel
theorem dX12_between_48 : decode cX12_between 48 = .ok (.invokevirtual 351, 3) := by decide +kernel
theorem dX12_between_51 : decode cX12_between 51 = .ok (.istore_n 3, 1) := by decide +kernel
theorem dX12_between_52 : decode cX12_between 52 = .ok (.iinc 4 1, 3) := by decide +kernel
theorem dX12_between_55 : decode cX12_between 55 = .ok (.goto (-27), 3) := by decide +kernel
theorem dX12_between_58 : decode cX12_between 58 = .ok (.iconst (-1), 1) := by decide +kernel
theorem dX12_between_59 : decode cX12_between 59 = .ok (.ireturn, 1) := by decide +kernel
theorem dX12_hub_0 : decode cX12_hub 0 = .ok (.aload_n 0, 1) := by decide +kernel
theorem dX12_hub_1 : decode cX12_hub 1 = .ok (.iconst 0, 1) := by decide +kernel
theorem dX12_hub_2 : decode cX12_hub 2 = .ok (.putfield 3, 3) := by decide +kernel
theorem dX12_hub_5 : decode cX12_hub 5 = .ok (.iconst (-1), 1) := by decide +kernel
theorem dX12_hub_6 : decode cX12_hub 6 = .ok (.istore_n 1, 1) := by decide +kernel
theorem dX12_hub_7 : decode cX12_hub 7 = .ok (.iconst 0, 1) := by decide +kernel
theorem dX12_hub_8 : decode cX12_hub 8 = .ok (.istore_n 2, 1) := by decide +kernel
theorem dX12_hub_9 : decode cX12_hub 9 = .ok (.iconst 0, 1) := by decide +kernel
theorem dX12_hub_10 : decode cX12_hub 10 = .ok (.istore_n 3, 1) := by decide +kernel
theorem dX12_hub_11 : decode cX12_hub 11 = .ok (.iload_n 3, 1) := by decide +kernel
theorem dX12_hub_12 : decode cX12_hub 12 = .ok (.aload_n 0, 1) := by decide +kernel
theorem dX12_hub_13 : decode cX12_hub 13 = .ok (.invokevirtual 58, 3) := by decide +kernel
theorem dX12_hub_16 : decode cX12_hub 16 = .ok (.if_icmp .ge 38, 3) := by decide +kernel
theorem dX12_hub_19 : decode cX12_hub 19 = .ok (.aload_n 0, 1) := by decide +kernel
theorem dX12_hub_20 : decode cX12_hub 20 = .ok (.iload_n 3, 1) := by decide +kernel
theorem dX12_hub_21 : decode cX12_hub 21 = .ok (.invokevirtual 348, 3) := by decide +kernel
theorem dX12_hub_24 : decode cX12_hub 24 = .ok (.invokestatic 318, 3) := by decide +kernel
theorem dX12_hub_27 : decode cX12_hub 27 = .ok (.istore 4, 2) := by decide +kernel
theorem dX12_hub_29 : decode cX12_hub 29 = .ok (.iload 4, 2) := by decide +kernel
theorem dX12_hub_31 : decode cX12_hub 31 = .ok (.iload_n 2, 1) := by decide +kernel
theorem dX12_hub_32 : decode cX12_hub 32 = .ok (.if_icmp .le 7, 3) := by decide +kernel
theorem dX12_hub_35 : decode cX12_hub 35 = .ok (.iload_n 3, 1) := by decide +kernel
theorem dX12_hub_36 : decode cX12_hub 36 = .ok (.goto 4, 3) := by decide +kernel
theorem dX12_hub_39 : decode cX12_hub 39 = .ok (.iload_n 1, 1) := by decide +kernel
theorem dX12_hub_40 : decode cX12_hub 40 = .ok (.istore_n 1, 1) := by decide +kernel
theorem dX12_hub_41 : decode cX12_hub 41 = .ok (.iload_n 2, 1) := by decide +kernel
theorem dX12_hub_42 : decode cX12_hub 42 = .ok (.iload 4, 2) := by decide +kernel
theorem dX12_hub_44 : decode cX12_hub 44 = .ok (.invokestatic 288, 3) := by decide +kernel
theorem dX12_hub_47 : decode cX12_hub 47 = .ok (.istore_n 2, 1) := by decide +kernel
theorem dX12_hub_48 : decode cX12_hub 48 = .ok (.iinc 3 1, 3) := by decide +kernel
theorem dX12_hub_51 : decode cX12_hub 51 = .ok (.goto (-40), 3) := by decide +kernel
theorem dX12_hub_54 : decode cX12_hub 54 = .ok (.iload_n 1, 1) := by decide +kernel
theorem dX12_hub_55 : decode cX12_hub 55 = .ok (.ireturn, 1) := by decide +kernel
theorem dX12_tell_0 : decode cX12_tell 0 = .ok (.aload_n 0, 1) := by decide +kernel
theorem dX12_tell_1 : decode cX12_tell 1 = .ok (.iconst 0, 1) := by decide +kernel
theorem dX12_tell_2 : decode cX12_tell 2 = .ok (.putfield 3, 3) := by decide +kernel
theorem dX12_tell_5 : decode cX12_tell 5 = .ok (.aload_n 0, 1) := by decide +kernel
theorem dX12_tell_6 : decode cX12_tell 6 = .ok (.invokevirtual 327, 3) := by decide +kernel
theorem dX12_tell_9 : decode cX12_tell 9 = .ok (.istore_n 1, 1) := by decide +kernel
theorem dX12_tell_10 : decode cX12_tell 10 = .ok (.iload_n 1, 1) := by decide +kernel
theorem dX12_tell_11 : decode cX12_tell 11 = .ok (.istore_n 2, 1) := by decide +kernel
theorem dX12_tell_12 : decode cX12_tell 12 = .ok (.iload_n 2, 1) := by decide +kernel
theorem dX12_tell_13 : decode cX12_tell 13 = .ok (.ifCond .lt 34, 3) := by decide +kernel
theorem dX12_tell_16 : decode cX12_tell 16 = .ok (.iload_n 2, 1) := by decide +kernel
theorem dX12_tell_17 : decode cX12_tell 17 = .ok (.invokestatic 318, 3) := by decide +kernel
theorem dX12_tell_20 : decode cX12_tell 20 = .ok (.iload_n 1, 1) := by decide +kernel
theorem dX12_tell_21 : decode cX12_tell 21 = .ok (.invokestatic 318, 3) := by decide +kernel
theorem dX12_tell_24 : decode cX12_tell 24 = .ok (.if_icmp .gt 15, 3) := by decide +kernel
theorem dX12_tell_27 : decode cX12_tell 27 = .ok (.aload_n 0, 1) := by decide +kernel
theorem dX12_tell_28 : decode cX12_tell 28 = .ok (.iload_n 2, 1) := by decide +kernel
theorem dX12_tell_29 : decode cX12_tell 29 = .ok (.invokevirtual 379, 3) := by decide +kernel
theorem dX12_tell_32 : decode cX12_tell 32 = .ok (.ifCond .eq 7, 3) := by decide +kernel
theorem dX12_tell_35 : decode cX12_tell 35 = .ok (.iload_n 2, 1) := by decide +kernel
theorem dX12_tell_36 : decode cX12_tell 36 = .ok (.goto 4, 3) := by decide +kernel
theorem dX12_tell_39 : decode cX12_tell 39 = .ok (.iload_n 1, 1) := by decide +kernel
theorem dX12_tell_40 : decode cX12_tell 40 = .ok (.istore_n 1, 1) := by decide +kernel
theorem dX12_tell_41 : decode cX12_tell 41 = .ok (.iinc 2 (-1), 3) := by decide +kernel
theorem dX12_tell_44 : decode cX12_tell 44 = .ok (.goto (-32), 3) := by decide +kernel
theorem dX12_tell_47 : decode cX12_tell 47 = .ok (.iload_n 1, 1) := by decide +kernel
theorem dX12_tell_48 : decode cX12_tell 48 = .ok (.ireturn, 1) := by decide +kernel
theorem dX12_allTold_0 : decode cX12_allTold 0 = .ok (.iconst 1, 1) := by decide +kernel
theorem dX12_allTold_1 : decode cX12_allTold 1 = .ok (.istore_n 2, 1) := by decide +kernel
theorem dX12_allTold_2 : decode cX12_allTold 2 = .ok (.iconst 0, 1) := by decide +kernel
theorem dX12_allTold_3 : decode cX12_allTold 3 = .ok (.istore_n 3, 1) := by decide +kernel
theorem dX12_allTold_4 : decode cX12_allTold 4 = .ok (.iload_n 3, 1) := by decide +kernel
theorem dX12_allTold_5 : decode cX12_allTold 5 = .ok (.aload_n 0, 1) := by decide +kernel
theorem dX12_allTold_6 : decode cX12_allTold 6 = .ok (.invokevirtual 58, 3) := by decide +kernel
theorem dX12_allTold_9 : decode cX12_allTold 9 = .ok (.if_icmp .ge 61, 3) := by decide +kernel
theorem dX12_allTold_12 : decode cX12_allTold 12 = .ok (.iconst 0, 1) := by decide +kernel
theorem dX12_allTold_13 : decode cX12_allTold 13 = .ok (.istore 4, 2) := by decide +kernel
theorem dX12_allTold_15 : decode cX12_allTold 15 = .ok (.iload 4, 2) := by decide +kernel
theorem dX12_allTold_17 : decode cX12_allTold 17 = .ok (.iload_n 3, 1) := by decide +kernel
theorem dX12_allTold_18 : decode cX12_allTold 18 = .ok (.if_icmp .ge 46, 3) := by decide +kernel
theorem dX12_allTold_21 : decode cX12_allTold 21 = .ok (.iload_n 2, 1) := by decide +kernel
theorem dX12_allTold_22 : decode cX12_allTold 22 = .ok (.ifCond .eq 34, 3) := by decide +kernel
theorem dX12_allTold_25 : decode cX12_allTold 25 = .ok (.aload_n 0, 1) := by decide +kernel
theorem dX12_allTold_26 : decode cX12_allTold 26 = .ok (.iload_n 3, 1) := by decide +kernel
theorem dX12_allTold_27 : decode cX12_allTold 27 = .ok (.iload 4, 2) := by decide +kernel
theorem dX12_allTold_29 : decode cX12_allTold 29 = .ok (.invokevirtual 372, 3) := by decide +kernel
theorem dX12_allTold_32 : decode cX12_allTold 32 = .ok (.ifCond .eq 20, 3) := by decide +kernel
theorem dX12_allTold_35 : decode cX12_allTold 35 = .ok (.iload_n 1, 1) := by decide +kernel
theorem dX12_allTold_36 : decode cX12_allTold 36 = .ok (.iload_n 3, 1) := by decide +kernel
theorem dX12_allTold_37 : decode cX12_allTold 37 = .ok (.invokestatic 76, 3) := by decide +kernel
theorem dX12_allTold_40 : decode cX12_allTold 40 = .ok (.ifCond .ne 12, 3) := by decide +kernel
theorem dX12_allTold_43 : decode cX12_allTold 43 = .ok (.iload_n 1, 1) := by decide +kernel
theorem dX12_allTold_44 : decode cX12_allTold 44 = .ok (.iload 4, 2) := by decide +kernel
theorem dX12_allTold_46 : decode cX12_allTold 46 = .ok (.invokestatic 76, 3) := by decide +kernel
theorem dX12_allTold_49 : decode cX12_allTold 49 = .ok (.ifCond .eq 7, 3) := by decide +kernel
theorem dX12_allTold_52 : decode cX12_allTold 52 = .ok (.iconst 1, 1) := by decide +kernel
theorem dX12_allTold_53 : decode cX12_allTold 53 = .ok (.goto 4, 3) := by decide +kernel
theorem dX12_allTold_56 : decode cX12_allTold 56 = .ok (.iconst 0, 1) := by decide +kernel
theorem dX12_allTold_57 : decode cX12_allTold 57 = .ok (.istore_n 2, 1) := by decide +kernel
theorem dX12_allTold_58 : decode cX12_allTold 58 = .ok (.iinc 4 1, 3) := by decide +kernel
theorem dX12_allTold_61 : decode cX12_allTold 61 = .ok (.goto (-46), 3) := by decide +kernel
theorem dX12_allTold_64 : decode cX12_allTold 64 = .ok (.iinc 3 1, 3) := by decide +kernel
theorem dX12_allTold_67 : decode cX12_allTold 67 = .ok (.goto (-63), 3) := by decide +kernel
theorem dX12_allTold_70 : decode cX12_allTold 70 = .ok (.iload_n 2, 1) := by decide +kernel
theorem dX12_allTold_71 : decode cX12_allTold 71 = .ok (.ireturn, 1) := by decide +kernel
theorem dX12_lovers_0 : decode cX12_lovers 0 = .ok (.aload_n 0, 1) := by decide +kernel
theorem dX12_lovers_1 : decode cX12_lovers 1 = .ok (.iconst 0, 1) := by decide +kernel
theorem dX12_lovers_2 : decode cX12_lovers 2 = .ok (.putfield 3, 3) := by decide +kernel
theorem dX12_lovers_5 : decode cX12_lovers 5 = .ok (.iconst 0, 1) := by decide +kernel
theorem dX12_lovers_6 : decode cX12_lovers 6 = .ok (.istore_n 2, 1) := by decide +kernel
theorem dX12_lovers_7 : decode cX12_lovers 7 = .ok (.iconst (-1), 1) := by decide +kernel
theorem dX12_lovers_8 : decode cX12_lovers 8 = .ok (.istore_n 3, 1) := by decide +kernel
theorem dX12_lovers_9 : decode cX12_lovers 9 = .ok (.aload_n 0, 1) := by decide +kernel
theorem dX12_lovers_10 : decode cX12_lovers 10 = .ok (.invokevirtual 58, 3) := by decide +kernel
theorem dX12_lovers_13 : decode cX12_lovers 13 = .ok (.iconst 1, 1) := by decide +kernel
theorem dX12_lovers_14 : decode cX12_lovers 14 = .ok (.isub, 1) := by decide +kernel
theorem dX12_lovers_15 : decode cX12_lovers 15 = .ok (.istore 4, 2) := by decide +kernel
theorem dX12_lovers_17 : decode cX12_lovers 17 = .ok (.iload 4, 2) := by decide +kernel
theorem dX12_lovers_19 : decode cX12_lovers 19 = .ok (.ifCond .lt 67, 3) := by decide +kernel
theorem dX12_lovers_22 : decode cX12_lovers 22 = .ok (.aload_n 0, 1) := by decide +kernel
theorem dX12_lovers_23 : decode cX12_lovers 23 = .ok (.invokevirtual 58, 3) := by decide +kernel
theorem dX12_lovers_26 : decode cX12_lovers 26 = .ok (.iconst 1, 1) := by decide +kernel
theorem dX12_lovers_27 : decode cX12_lovers 27 = .ok (.isub, 1) := by decide +kernel
theorem dX12_lovers_28 : decode cX12_lovers 28 = .ok (.istore 5, 2) := by decide +kernel
theorem dX12_lovers_30 : decode cX12_lovers 30 = .ok (.iload 5, 2) := by decide +kernel
theorem dX12_lovers_32 : decode cX12_lovers 32 = .ok (.iload 4, 2) := by decide +kernel
theorem dX12_lovers_34 : decode cX12_lovers 34 = .ok (.if_icmp .le 46, 3) := by decide +kernel
theorem dX12_lovers_37 : decode cX12_lovers 37 = .ok (.aload_n 0, 1) := by decide +kernel
theorem dX12_lovers_38 : decode cX12_lovers 38 = .ok (.iload 4, 2) := by decide +kernel
theorem dX12_lovers_40 : decode cX12_lovers 40 = .ok (.iload 5, 2) := by decide +kernel
theorem dX12_lovers_42 : decode cX12_lovers 42 = .ok (.invokevirtual 360, 3) := by decide +kernel
theorem dX12_lovers_45 : decode cX12_lovers 45 = .ok (.ifCond .eq 29, 3) := by decide +kernel
theorem dX12_lovers_48 : decode cX12_lovers 48 = .ok (.aload_n 0, 1) := by decide +kernel
theorem dX12_lovers_49 : decode cX12_lovers 49 = .ok (.iload 5, 2) := by decide +kernel
theorem dX12_lovers_51 : decode cX12_lovers 51 = .ok (.iload 4, 2) := by decide +kernel
theorem dX12_lovers_53 : decode cX12_lovers 53 = .ok (.invokevirtual 360, 3) := by decide +kernel
theorem dX12_lovers_56 : decode cX12_lovers 56 = .ok (.ifCond .ne 6, 3) := by decide +kernel
theorem dX12_lovers_59 : decode cX12_lovers 59 = .ok (.goto 15, 3) := by decide +kernel
theorem dX12_lovers_62 : decode cX12_lovers 62 = .ok (.iinc 2 1, 3) := by decide +kernel
theorem dX12_lovers_65 : decode cX12_lovers 65 = .ok (.bipush 10, 2) := by decide +kernel
theorem dX12_lovers_67 : decode cX12_lovers 67 = .ok (.iload 4, 2) := by decide +kernel
theorem dX12_lovers_69 : decode cX12_lovers 69 = .ok (.imul, 1) := by decide +kernel
theorem dX12_lovers_70 : decode cX12_lovers 70 = .ok (.iload 5, 2) := by decide +kernel
theorem dX12_lovers_72 : decode cX12_lovers 72 = .ok (.iadd, 1) := by decide +kernel
theorem dX12_lovers_73 : decode cX12_lovers 73 = .ok (.istore_n 3, 1) := by decide +kernel
theorem dX12_lovers_74 : decode cX12_lovers 74 = .ok (.iinc 5 (-1), 3) := by decide +kernel
theorem dX12_lovers_77 : decode cX12_lovers 77 = .ok (.goto (-47), 3) := by decide +kernel
theorem dX12_lovers_80 : decode cX12_lovers 80 = .ok (.iinc 4 (-1), 3) := by decide +kernel
theorem dX12_lovers_83 : decode cX12_lovers 83 = .ok (.goto (-66), 3) := by decide +kernel
theorem dX12_lovers_86 : decode cX12_lovers 86 = .ok (.iload_n 1, 1) := by decide +kernel
theorem dX12_lovers_87 : decode cX12_lovers 87 = .ok (.ifCond .eq 7, 3) := by decide +kernel
theorem dX12_lovers_90 : decode cX12_lovers 90 = .ok (.iload_n 3, 1) := by decide +kernel
theorem dX12_lovers_91 : decode cX12_lovers 91 = .ok (.goto 4, 3) := by decide +kernel
theorem dX12_lovers_94 : decode cX12_lovers 94 = .ok (.iload_n 2, 1) := by decide +kernel
theorem dX12_lovers_95 : decode cX12_lovers 95 = .ok (.ireturn, 1) := by decide +kernel
theorem dX12_waysOf_0 : decode cX12_waysOf 0 = .ok (.iconst 1, 1) := by decide +kernel
theorem dX12_waysOf_1 : decode cX12_waysOf 1 = .ok (.istore_n 1, 1) := by decide +kernel
theorem dX12_waysOf_2 : decode cX12_waysOf 2 = .ok (.iload_n 0, 1) := by decide +kernel
theorem dX12_waysOf_3 : decode cX12_waysOf 3 = .ok (.iconst 1, 1) := by decide +kernel
theorem dX12_waysOf_4 : decode cX12_waysOf 4 = .ok (.isub, 1) := by decide +kernel
theorem dX12_waysOf_5 : decode cX12_waysOf 5 = .ok (.istore_n 2, 1) := by decide +kernel
theorem dX12_waysOf_6 : decode cX12_waysOf 6 = .ok (.iload_n 2, 1) := by decide +kernel
theorem dX12_waysOf_7 : decode cX12_waysOf 7 = .ok (.iconst 1, 1) := by decide +kernel
theorem dX12_waysOf_8 : decode cX12_waysOf 8 = .ok (.if_icmp .le 13, 3) := by decide +kernel
theorem dX12_waysOf_11 : decode cX12_waysOf 11 = .ok (.iload_n 1, 1) := by decide +kernel
theorem dX12_waysOf_12 : decode cX12_waysOf 12 = .ok (.iload_n 2, 1) := by decide +kernel
theorem dX12_waysOf_13 : decode cX12_waysOf 13 = .ok (.imul, 1) := by decide +kernel
theorem dX12_waysOf_14 : decode cX12_waysOf 14 = .ok (.istore_n 1, 1) := by decide +kernel
theorem dX12_waysOf_15 : decode cX12_waysOf 15 = .ok (.iinc 2 (-2), 3) := by decide +kernel
theorem dX12_waysOf_18 : decode cX12_waysOf 18 = .ok (.goto (-12), 3) := by decide +kernel
theorem dX12_waysOf_21 : decode cX12_waysOf 21 = .ok (.iload_n 1, 1) := by decide +kernel
theorem dX12_waysOf_22 : decode cX12_waysOf 22 = .ok (.ireturn, 1) := by decide +kernel
theorem dX12_freeOne_0 : decode cX12_freeOne 0 = .ok (.iload_n 1, 1) := by decide +kernel
theorem dX12_freeOne_1 : decode cX12_freeOne 1 = .ok (.istore_n 3, 1) := by decide +kernel
theorem dX12_freeOne_2 : decode cX12_freeOne 2 = .ok (.iload_n 2, 1) := by decide +kernel
theorem dX12_freeOne_3 : decode cX12_freeOne 3 = .ok (.aload_n 0, 1) := by decide +kernel
theorem dX12_freeOne_4 : decode cX12_freeOne 4 = .ok (.invokevirtual 58, 3) := by decide +kernel
theorem dX12_freeOne_7 : decode cX12_freeOne 7 = .ok (.if_icmp .le 28, 3) := by decide +kernel
theorem dX12_freeOne_10 : decode cX12_freeOne 10 = .ok (.aload_n 0, 1) := by decide +kernel
theorem dX12_freeOne_11 : decode cX12_freeOne 11 = .ok (.getfield 42, 3) := by decide +kernel
theorem dX12_freeOne_14 : decode cX12_freeOne 14 = .ok (.aload_n 0, 1) := by decide +kernel
theorem dX12_freeOne_15 : decode cX12_freeOne 15 = .ok (.invokevirtual 58, 3) := by decide +kernel
theorem dX12_freeOne_18 : decode cX12_freeOne 18 = .ok (.iaload, 1) := by decide +kernel
theorem dX12_freeOne_19 : decode cX12_freeOne 19 = .ok (.iconst (-1), 1) := by decide +kernel
theorem dX12_freeOne_20 : decode cX12_freeOne 20 = .ok (.if_icmp .ne 15, 3) := by decide +kernel
theorem dX12_freeOne_23 : decode cX12_freeOne 23 = .ok (.iload_n 3, 1) := by decide +kernel
theorem dX12_freeOne_24 : decode cX12_freeOne 24 = .ok (.ifCond .ne 8, 3) := by decide +kernel
theorem dX12_freeOne_27 : decode cX12_freeOne 27 = .ok (.aload_n 0, 1) := by decide +kernel
theorem dX12_freeOne_28 : decode cX12_freeOne 28 = .ok (.invokevirtual 58, 3) := by decide +kernel
theorem dX12_freeOne_31 : decode cX12_freeOne 31 = .ok (.ireturn, 1) := by decide +kernel
theorem dX12_freeOne_32 : decode cX12_freeOne 32 = .ok (.iinc 3 (-1), 3) := by decide +kernel
theorem dX12_freeOne_35 : decode cX12_freeOne 35 = .ok (.iconst 0, 1) := by decide +kernel
theorem dX12_freeOne_36 : decode cX12_freeOne 36 = .ok (.istore 4, 2) := by decide +kernel
theorem dX12_freeOne_38 : decode cX12_freeOne 38 = .ok (.aload_n 0, 1) := by decide +kernel
theorem dX12_freeOne_39 : decode cX12_freeOne 39 = .ok (.getfield 42, 3) := by decide +kernel
theorem dX12_freeOne_42 : decode cX12_freeOne 42 = .ok (.iload 4, 2) := by decide +kernel
theorem dX12_freeOne_44 : decode cX12_freeOne 44 = .ok (.iaload, 1) := by decide +kernel
theorem dX12_freeOne_45 : decode cX12_freeOne 45 = .ok (.iconst (-1), 1) := by decide +kernel
theorem dX12_freeOne_46 : decode cX12_freeOne 46 = .ok (.if_icmp .ne 7, 3) := by decide +kernel
theorem dX12_freeOne_49 : decode cX12_freeOne 49 = .ok (.iload_n 3, 1) := by decide +kernel
theorem dX12_freeOne_50 : decode cX12_freeOne 50 = .ok (.ifCond .le 28, 3) := by decide +kernel
theorem dX12_freeOne_53 : decode cX12_freeOne 53 = .ok (.iload_n 3, 1) := by decide +kernel
theorem dX12_freeOne_54 : decode cX12_freeOne 54 = .ok (.aload_n 0, 1) := by decide +kernel
theorem dX12_freeOne_55 : decode cX12_freeOne 55 = .ok (.getfield 42, 3) := by decide +kernel
theorem dX12_freeOne_58 : decode cX12_freeOne 58 = .ok (.iload 4, 2) := by decide +kernel
theorem dX12_freeOne_60 : decode cX12_freeOne 60 = .ok (.iaload, 1) := by decide +kernel
theorem dX12_freeOne_61 : decode cX12_freeOne 61 = .ok (.iconst (-1), 1) := by decide +kernel
theorem dX12_freeOne_62 : decode cX12_freeOne 62 = .ok (.if_icmp .ne 7, 3) := by decide +kernel
theorem dX12_freeOne_65 : decode cX12_freeOne 65 = .ok (.iconst 1, 1) := by decide +kernel
theorem dX12_freeOne_66 : decode cX12_freeOne 66 = .ok (.goto 4, 3) := by decide +kernel
theorem dX12_freeOne_69 : decode cX12_freeOne 69 = .ok (.iconst 0, 1) := by decide +kernel
theorem dX12_freeOne_70 : decode cX12_freeOne 70 = .ok (.isub, 1) := by decide +kernel
theorem dX12_freeOne_71 : decode cX12_freeOne 71 = .ok (.istore_n 3, 1) := by decide +kernel
theorem dX12_freeOne_72 : decode cX12_freeOne 72 = .ok (.iinc 4 1, 3) := by decide +kernel
theorem dX12_freeOne_75 : decode cX12_freeOne 75 = .ok (.goto (-37), 3) := by decide +kernel
theorem dX12_freeOne_78 : decode cX12_freeOne 78 = .ok (.iload 4, 2) := by decide +kernel
theorem dX12_freeOne_80 : decode cX12_freeOne 80 = .ok (.ireturn, 1) := by decide +kernel
theorem dX12_laysWay_0 : decode cX12_laysWay 0 = .ok (.iconst 0, 1) := by decide +kernel
theorem dX12_laysWay_1 : decode cX12_laysWay 1 = .ok (.istore_n 3, 1) := by decide +kernel
theorem dX12_laysWay_2 : decode cX12_laysWay 2 = .ok (.iload_n 3, 1) := by decide +kernel
theorem dX12_laysWay_3 : decode cX12_laysWay 3 = .ok (.bipush 8, 2) := by decide +kernel
theorem dX12_laysWay_5 : decode cX12_laysWay 5 = .ok (.if_icmp .gt 16, 3) := by decide +kernel
theorem dX12_laysWay_8 : decode cX12_laysWay 8 = .ok (.aload_n 0, 1) := by decide +kernel
theorem dX12_laysWay_9 : decode cX12_laysWay 9 = .ok (.getfield 42, 3) := by decide +kernel
theorem dX12_laysWay_12 : decode cX12_laysWay 12 = .ok (.iload_n 3, 1) := by decide +kernel
theorem dX12_laysWay_13 : decode cX12_laysWay 13 = .ok (.iconst (-1), 1) := by decide +kernel
theorem dX12_laysWay_14 : decode cX12_laysWay 14 = .ok (.iastore, 1) := by decide +kernel
theorem dX12_laysWay_15 : decode cX12_laysWay 15 = .ok (.iinc 3 1, 3) := by decide +kernel
theorem dX12_laysWay_18 : decode cX12_laysWay 18 = .ok (.goto (-16), 3) := by decide +kernel
theorem dX12_laysWay_21 : decode cX12_laysWay 21 = .ok (.iload_n 1, 1) := by decide +kernel
theorem dX12_laysWay_22 : decode cX12_laysWay 22 = .ok (.istore_n 3, 1) := by decide +kernel
theorem dX12_laysWay_23 : decode cX12_laysWay 23 = .ok (.iload_n 2, 1) := by decide +kernel
theorem dX12_laysWay_24 : decode cX12_laysWay 24 = .ok (.istore 4, 2) := by decide +kernel
theorem dX12_laysWay_26 : decode cX12_laysWay 26 = .ok (.iload 4, 2) := by decide +kernel
theorem dX12_laysWay_28 : decode cX12_laysWay 28 = .ok (.ifCond .le 81, 3) := by decide +kernel
theorem dX12_laysWay_31 : decode cX12_laysWay 31 = .ok (.iconst 0, 1) := by decide +kernel
theorem dX12_laysWay_32 : decode cX12_laysWay 32 = .ok (.istore 5, 2) := by decide +kernel
theorem dX12_laysWay_34 : decode cX12_laysWay 34 = .ok (.aload_n 0, 1) := by decide +kernel
theorem dX12_laysWay_35 : decode cX12_laysWay 35 = .ok (.getfield 42, 3) := by decide +kernel
theorem dX12_laysWay_38 : decode cX12_laysWay 38 = .ok (.iload 5, 2) := by decide +kernel
theorem dX12_laysWay_40 : decode cX12_laysWay 40 = .ok (.iaload, 1) := by decide +kernel
theorem dX12_laysWay_41 : decode cX12_laysWay 41 = .ok (.iconst (-1), 1) := by decide +kernel
theorem dX12_laysWay_42 : decode cX12_laysWay 42 = .ok (.if_icmp .eq 9, 3) := by decide +kernel
theorem dX12_laysWay_45 : decode cX12_laysWay 45 = .ok (.iinc 5 1, 3) := by decide +kernel
theorem dX12_laysWay_48 : decode cX12_laysWay 48 = .ok (.goto (-14), 3) := by decide +kernel
theorem dX12_laysWay_51 : decode cX12_laysWay 51 = .ok (.iload 4, 2) := by decide +kernel
theorem dX12_laysWay_53 : decode cX12_laysWay 53 = .ok (.iconst 2, 1) := by decide +kernel
theorem dX12_laysWay_54 : decode cX12_laysWay 54 = .ok (.isub, 1) := by decide +kernel
theorem dX12_laysWay_55 : decode cX12_laysWay 55 = .ok (.invokestatic 382, 3) := by decide +kernel
theorem dX12_laysWay_58 : decode cX12_laysWay 58 = .ok (.istore 6, 2) := by decide +kernel
theorem dX12_laysWay_60 : decode cX12_laysWay 60 = .ok (.aload_n 0, 1) := by decide +kernel
theorem dX12_laysWay_61 : decode cX12_laysWay 61 = .ok (.getfield 42, 3) := by decide +kernel
theorem dX12_laysWay_64 : decode cX12_laysWay 64 = .ok (.iload 5, 2) := by decide +kernel
theorem dX12_laysWay_66 : decode cX12_laysWay 66 = .ok (.iload 5, 2) := by decide +kernel
theorem dX12_laysWay_68 : decode cX12_laysWay 68 = .ok (.iastore, 1) := by decide +kernel
theorem dX12_laysWay_69 : decode cX12_laysWay 69 = .ok (.aload_n 0, 1) := by decide +kernel
theorem dX12_laysWay_70 : decode cX12_laysWay 70 = .ok (.iload_n 3, 1) := by decide +kernel
theorem dX12_laysWay_71 : decode cX12_laysWay 71 = .ok (.iload 6, 2) := by decide +kernel
theorem dX12_laysWay_73 : decode cX12_laysWay 73 = .ok (.idiv, 1) := by decide +kernel
theorem dX12_laysWay_74 : decode cX12_laysWay 74 = .ok (.iload_n 2, 1) := by decide +kernel
theorem dX12_laysWay_75 : decode cX12_laysWay 75 = .ok (.invokevirtual 385, 3) := by decide +kernel
theorem dX12_laysWay_78 : decode cX12_laysWay 78 = .ok (.istore 7, 2) := by decide +kernel
theorem dX12_laysWay_80 : decode cX12_laysWay 80 = .ok (.iload_n 3, 1) := by decide +kernel
theorem dX12_laysWay_81 : decode cX12_laysWay 81 = .ok (.iload 6, 2) := by decide +kernel
theorem dX12_laysWay_83 : decode cX12_laysWay 83 = .ok (.irem, 1) := by decide +kernel
theorem dX12_laysWay_84 : decode cX12_laysWay 84 = .ok (.istore_n 3, 1) := by decide +kernel
theorem dX12_laysWay_85 : decode cX12_laysWay 85 = .ok (.aload_n 0, 1) := by decide +kernel
theorem dX12_laysWay_86 : decode cX12_laysWay 86 = .ok (.getfield 42, 3) := by decide +kernel
theorem dX12_laysWay_89 : decode cX12_laysWay 89 = .ok (.iload 5, 2) := by decide +kernel
theorem dX12_laysWay_91 : decode cX12_laysWay 91 = .ok (.iload 7, 2) := by decide +kernel
theorem dX12_laysWay_93 : decode cX12_laysWay 93 = .ok (.iastore, 1) := by decide +kernel
theorem dX12_laysWay_94 : decode cX12_laysWay 94 = .ok (.aload_n 0, 1) := by decide +kernel
theorem dX12_laysWay_95 : decode cX12_laysWay 95 = .ok (.getfield 42, 3) := by decide +kernel
theorem dX12_laysWay_98 : decode cX12_laysWay 98 = .ok (.iload 7, 2) := by decide +kernel
theorem dX12_laysWay_100 : decode cX12_laysWay 100 = .ok (.iload 5, 2) := by decide +kernel
theorem dX12_laysWay_102 : decode cX12_laysWay 102 = .ok (.iastore, 1) := by decide +kernel
theorem dX12_laysWay_103 : decode cX12_laysWay 103 = .ok (.iinc 4 (-2), 3) := by decide +kernel
theorem dX12_laysWay_106 : decode cX12_laysWay 106 = .ok (.goto (-80), 3) := by decide +kernel
theorem dX12_laysWay_109 : decode cX12_laysWay 109 = .ok (.return_, 1) := by decide +kernel
theorem dX12_likesIts_0 : decode cX12_likesIts 0 = .ok (.aload_n 0, 1) := by decide +kernel
theorem dX12_likesIts_1 : decode cX12_likesIts 1 = .ok (.getfield 42, 3) := by decide +kernel
theorem dX12_likesIts_4 : decode cX12_likesIts 4 = .ok (.iload_n 1, 1) := by decide +kernel
theorem dX12_likesIts_5 : decode cX12_likesIts 5 = .ok (.iaload, 1) := by decide +kernel
theorem dX12_likesIts_6 : decode cX12_likesIts 6 = .ok (.aload_n 0, 1) := by decide +kernel
theorem dX12_likesIts_7 : decode cX12_likesIts 7 = .ok (.invokevirtual 58, 3) := by decide +kernel
theorem dX12_likesIts_10 : decode cX12_likesIts 10 = .ok (.if_icmp .ne 7, 3) := by decide +kernel
theorem dX12_likesIts_13 : decode cX12_likesIts 13 = .ok (.iconst (-1), 1) := by decide +kernel
theorem dX12_likesIts_14 : decode cX12_likesIts 14 = .ok (.goto 14, 3) := by decide +kernel
theorem dX12_likesIts_17 : decode cX12_likesIts 17 = .ok (.aload_n 0, 1) := by decide +kernel
theorem dX12_likesIts_18 : decode cX12_likesIts 18 = .ok (.iload_n 1, 1) := by decide +kernel
theorem dX12_likesIts_19 : decode cX12_likesIts 19 = .ok (.aload_n 0, 1) := by decide +kernel
theorem dX12_likesIts_20 : decode cX12_likesIts 20 = .ok (.getfield 42, 3) := by decide +kernel
theorem dX12_likesIts_23 : decode cX12_likesIts 23 = .ok (.iload_n 1, 1) := by decide +kernel
theorem dX12_likesIts_24 : decode cX12_likesIts 24 = .ok (.iaload, 1) := by decide +kernel
theorem dX12_likesIts_25 : decode cX12_likesIts 25 = .ok (.invokevirtual 272, 3) := by decide +kernel
theorem dX12_likesIts_28 : decode cX12_likesIts 28 = .ok (.ireturn, 1) := by decide +kernel
theorem dX12_isSteady_0 : decode cX12_isSteady 0 = .ok (.iconst 1, 1) := by decide +kernel
theorem dX12_isSteady_1 : decode cX12_isSteady 1 = .ok (.istore_n 1, 1) := by decide +kernel
theorem dX12_isSteady_2 : decode cX12_isSteady 2 = .ok (.iconst 0, 1) := by decide +kernel
theorem dX12_isSteady_3 : decode cX12_isSteady 3 = .ok (.istore_n 2, 1) := by decide +kernel
theorem dX12_isSteady_4 : decode cX12_isSteady 4 = .ok (.iload_n 2, 1) := by decide +kernel
theorem dX12_isSteady_5 : decode cX12_isSteady 5 = .ok (.aload_n 0, 1) := by decide +kernel
theorem dX12_isSteady_6 : decode cX12_isSteady 6 = .ok (.invokevirtual 58, 3) := by decide +kernel
theorem dX12_isSteady_9 : decode cX12_isSteady 9 = .ok (.if_icmp .ge 70, 3) := by decide +kernel
