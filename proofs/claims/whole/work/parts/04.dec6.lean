theorem dX12_isSteady_12 : decode cX12_isSteady 12 = .ok (.iconst 0, 1) := by decide +kernel
theorem dX12_isSteady_13 : decode cX12_isSteady 13 = .ok (.istore_n 3, 1) := by decide +kernel
theorem dX12_isSteady_14 : decode cX12_isSteady 14 = .ok (.iload_n 3, 1) := by decide +kernel
theorem dX12_isSteady_15 : decode cX12_isSteady 15 = .ok (.iload_n 2, 1) := by decide +kernel
theorem dX12_isSteady_16 : decode cX12_isSteady 16 = .ok (.if_icmp .ge 57, 3) := by decide +kernel
theorem dX12_isSteady_19 : decode cX12_isSteady 19 = .ok (.iload_n 1, 1) := by decide +kernel
theorem dX12_isSteady_20 : decode cX12_isSteady 20 = .ok (.ifCond .eq 45, 3) := by decide +kernel
theorem dX12_isSteady_23 : decode cX12_isSteady 23 = .ok (.aload_n 0, 1) := by decide +kernel
theorem dX12_isSteady_24 : decode cX12_isSteady 24 = .ok (.getfield 42, 3) := by decide +kernel
theorem dX12_isSteady_27 : decode cX12_isSteady 27 = .ok (.iload_n 2, 1) := by decide +kernel
theorem dX12_isSteady_28 : decode cX12_isSteady 28 = .ok (.iaload, 1) := by decide +kernel
theorem dX12_isSteady_29 : decode cX12_isSteady 29 = .ok (.iload_n 3, 1) := by decide +kernel
theorem dX12_isSteady_30 : decode cX12_isSteady 30 = .ok (.if_icmp .eq 31, 3) := by decide +kernel
theorem dX12_isSteady_33 : decode cX12_isSteady 33 = .ok (.aload_n 0, 1) := by decide +kernel
theorem dX12_isSteady_34 : decode cX12_isSteady 34 = .ok (.iload_n 2, 1) := by decide +kernel
theorem dX12_isSteady_35 : decode cX12_isSteady 35 = .ok (.iload_n 3, 1) := by decide +kernel
theorem dX12_isSteady_36 : decode cX12_isSteady 36 = .ok (.invokevirtual 272, 3) := by decide +kernel
theorem dX12_isSteady_39 : decode cX12_isSteady 39 = .ok (.aload_n 0, 1) := by decide +kernel
theorem dX12_isSteady_40 : decode cX12_isSteady 40 = .ok (.iload_n 2, 1) := by decide +kernel
theorem dX12_isSteady_41 : decode cX12_isSteady 41 = .ok (.invokevirtual 388, 3) := by decide +kernel
theorem dX12_isSteady_44 : decode cX12_isSteady 44 = .ok (.if_icmp .le 17, 3) := by decide +kernel
theorem dX12_isSteady_47 : decode cX12_isSteady 47 = .ok (.aload_n 0, 1) := by decide +kernel
theorem dX12_isSteady_48 : decode cX12_isSteady 48 = .ok (.iload_n 3, 1) := by decide +kernel
theorem dX12_isSteady_49 : decode cX12_isSteady 49 = .ok (.iload_n 2, 1) := by decide +kernel
theorem dX12_isSteady_50 : decode cX12_isSteady 50 = .ok (.invokevirtual 272, 3) := by decide +kernel
theorem dX12_isSteady_53 : decode cX12_isSteady 53 = .ok (.aload_n 0, 1) := by decide +kernel
theorem dX12_isSteady_54 : decode cX12_isSteady 54 = .ok (.iload_n 3, 1) := by decide +kernel
theorem dX12_isSteady_55 : decode cX12_isSteady 55 = .ok (.invokevirtual 388, 3) := by decide +kernel
theorem dX12_isSteady_58 : decode cX12_isSteady 58 = .ok (.if_icmp .gt 7, 3) := by decide +kernel
theorem dX12_isSteady_61 : decode cX12_isSteady 61 = .ok (.iconst 1, 1) := by decide +kernel
theorem dX12_isSteady_62 : decode cX12_isSteady 62 = .ok (.goto 4, 3) := by decide +kernel
theorem dX12_isSteady_65 : decode cX12_isSteady 65 = .ok (.iconst 0, 1) := by decide +kernel
theorem dX12_isSteady_66 : decode cX12_isSteady 66 = .ok (.istore_n 1, 1) := by decide +kernel
theorem dX12_isSteady_67 : decode cX12_isSteady 67 = .ok (.iinc 3 1, 3) := by decide +kernel
theorem dX12_isSteady_70 : decode cX12_isSteady 70 = .ok (.goto (-56), 3) := by decide +kernel
theorem dX12_isSteady_73 : decode cX12_isSteady 73 = .ok (.iinc 2 1, 3) := by decide +kernel
theorem dX12_isSteady_76 : decode cX12_isSteady 76 = .ok (.goto (-72), 3) := by decide +kernel
theorem dX12_isSteady_79 : decode cX12_isSteady 79 = .ok (.iload_n 1, 1) := by decide +kernel
theorem dX12_isSteady_80 : decode cX12_isSteady 80 = .ok (.ireturn, 1) := by decide +kernel
theorem dX12_steady_0 : decode cX12_steady 0 = .ok (.aload_n 0, 1) := by decide +kernel
theorem dX12_steady_1 : decode cX12_steady 1 = .ok (.iconst 0, 1) := by decide +kernel
theorem dX12_steady_2 : decode cX12_steady 2 = .ok (.putfield 3, 3) := by decide +kernel
theorem dX12_steady_5 : decode cX12_steady 5 = .ok (.iload_n 1, 1) := by decide +kernel
theorem dX12_steady_6 : decode cX12_steady 6 = .ok (.iconst (-1), 1) := by decide +kernel
theorem dX12_steady_7 : decode cX12_steady 7 = .ok (.if_icmp .eq 18, 3) := by decide +kernel
theorem dX12_steady_10 : decode cX12_steady 10 = .ok (.aload_n 0, 1) := by decide +kernel
theorem dX12_steady_11 : decode cX12_steady 11 = .ok (.aload_n 0, 1) := by decide +kernel
theorem dX12_steady_12 : decode cX12_steady 12 = .ok (.iload_n 1, 1) := by decide +kernel
theorem dX12_steady_13 : decode cX12_steady 13 = .ok (.invokevirtual 297, 3) := by decide +kernel
theorem dX12_steady_16 : decode cX12_steady 16 = .ok (.iconst 1, 1) := by decide +kernel
theorem dX12_steady_17 : decode cX12_steady 17 = .ok (.invokevirtual 257, 3) := by decide +kernel
theorem dX12_steady_20 : decode cX12_steady 20 = .ok (.ifCond .eq 5, 3) := by decide +kernel
theorem dX12_steady_23 : decode cX12_steady 23 = .ok (.iconst 0, 1) := by decide +kernel
theorem dX12_steady_24 : decode cX12_steady 24 = .ok (.ireturn, 1) := by decide +kernel
theorem dX12_steady_25 : decode cX12_steady 25 = .ok (.aload_n 0, 1) := by decide +kernel
theorem dX12_steady_26 : decode cX12_steady 26 = .ok (.invokevirtual 58, 3) := by decide +kernel
theorem dX12_steady_29 : decode cX12_steady 29 = .ok (.aload_n 0, 1) := by decide +kernel
theorem dX12_steady_30 : decode cX12_steady 30 = .ok (.invokevirtual 58, 3) := by decide +kernel
theorem dX12_steady_33 : decode cX12_steady 33 = .ok (.iconst 2, 1) := by decide +kernel
theorem dX12_steady_34 : decode cX12_steady 34 = .ok (.irem, 1) := by decide +kernel
theorem dX12_steady_35 : decode cX12_steady 35 = .ok (.iadd, 1) := by decide +kernel
theorem dX12_steady_36 : decode cX12_steady 36 = .ok (.istore_n 2, 1) := by decide +kernel
theorem dX12_steady_37 : decode cX12_steady 37 = .ok (.iconst 0, 1) := by decide +kernel
theorem dX12_steady_38 : decode cX12_steady 38 = .ok (.istore_n 3, 1) := by decide +kernel
theorem dX12_steady_39 : decode cX12_steady 39 = .ok (.iconst 0, 1) := by decide +kernel
theorem dX12_steady_40 : decode cX12_steady 40 = .ok (.istore 4, 2) := by decide +kernel
theorem dX12_steady_42 : decode cX12_steady 42 = .ok (.iload 4, 2) := by decide +kernel
theorem dX12_steady_44 : decode cX12_steady 44 = .ok (.iload_n 2, 1) := by decide +kernel
theorem dX12_steady_45 : decode cX12_steady 45 = .ok (.invokestatic 382, 3) := by decide +kernel
theorem dX12_steady_48 : decode cX12_steady 48 = .ok (.if_icmp .ge 84, 3) := by decide +kernel
theorem dX12_steady_51 : decode cX12_steady 51 = .ok (.aload_n 0, 1) := by decide +kernel
theorem dX12_steady_52 : decode cX12_steady 52 = .ok (.iload 4, 2) := by decide +kernel
theorem dX12_steady_54 : decode cX12_steady 54 = .ok (.iload_n 2, 1) := by decide +kernel
theorem dX12_steady_55 : decode cX12_steady 55 = .ok (.invokevirtual 391, 3) := by decide +kernel
theorem dX12_steady_58 : decode cX12_steady 58 = .ok (.aload_n 0, 1) := by decide +kernel
theorem dX12_steady_59 : decode cX12_steady 59 = .ok (.invokevirtual 394, 3) := by decide +kernel
theorem dX12_steady_62 : decode cX12_steady 62 = .ok (.ifCond .ne 6, 3) := by decide +kernel
theorem dX12_steady_65 : decode cX12_steady 65 = .ok (.goto 61, 3) := by decide +kernel
theorem dX12_steady_68 : decode cX12_steady 68 = .ok (.iconst 0, 1) := by decide +kernel
theorem dX12_steady_69 : decode cX12_steady 69 = .ok (.istore 5, 2) := by decide +kernel
theorem dX12_steady_71 : decode cX12_steady 71 = .ok (.iload 5, 2) := by decide +kernel
theorem dX12_steady_73 : decode cX12_steady 73 = .ok (.aload_n 0, 1) := by decide +kernel
theorem dX12_steady_74 : decode cX12_steady 74 = .ok (.invokevirtual 58, 3) := by decide +kernel
theorem dX12_steady_77 : decode cX12_steady 77 = .ok (.if_icmp .ge 46, 3) := by decide +kernel
theorem dX12_steady_80 : decode cX12_steady 80 = .ok (.iload_n 3, 1) := by decide +kernel
theorem dX12_steady_81 : decode cX12_steady 81 = .ok (.ifCond .ne 42, 3) := by decide +kernel
theorem dX12_steady_84 : decode cX12_steady 84 = .ok (.aload_n 0, 1) := by decide +kernel
theorem dX12_steady_85 : decode cX12_steady 85 = .ok (.getfield 45, 3) := by decide +kernel
theorem dX12_steady_88 : decode cX12_steady 88 = .ok (.iload 5, 2) := by decide +kernel
theorem dX12_steady_90 : decode cX12_steady 90 = .ok (.aload_n 0, 1) := by decide +kernel
theorem dX12_steady_91 : decode cX12_steady 91 = .ok (.getfield 42, 3) := by decide +kernel
theorem dX12_steady_94 : decode cX12_steady 94 = .ok (.iload 5, 2) := by decide +kernel
theorem dX12_steady_96 : decode cX12_steady 96 = .ok (.iaload, 1) := by decide +kernel
theorem dX12_steady_97 : decode cX12_steady 97 = .ok (.aload_n 0, 1) := by decide +kernel
theorem dX12_steady_98 : decode cX12_steady 98 = .ok (.invokevirtual 58, 3) := by decide +kernel
theorem dX12_steady_101 : decode cX12_steady 101 = .ok (.if_icmp .ne 8, 3) := by decide +kernel
theorem dX12_steady_104 : decode cX12_steady 104 = .ok (.iload 5, 2) := by decide +kernel
theorem dX12_steady_106 : decode cX12_steady 106 = .ok (.goto 10, 3) := by decide +kernel
theorem dX12_steady_109 : decode cX12_steady 109 = .ok (.aload_n 0, 1) := by decide +kernel
theorem dX12_steady_110 : decode cX12_steady 110 = .ok (.getfield 42, 3) := by decide +kernel
theorem dX12_steady_113 : decode cX12_steady 113 = .ok (.iload 5, 2) := by decide +kernel
theorem dX12_steady_115 : decode cX12_steady 115 = .ok (.iaload, 1) := by decide +kernel
theorem dX12_steady_116 : decode cX12_steady 116 = .ok (.iastore, 1) := by decide +kernel
theorem dX12_steady_117 : decode cX12_steady 117 = .ok (.iinc 5 1, 3) := by decide +kernel
theorem dX12_steady_120 : decode cX12_steady 120 = .ok (.goto (-49), 3) := by decide +kernel
theorem dX12_steady_123 : decode cX12_steady 123 = .ok (.iinc 3 1, 3) := by decide +kernel
theorem dX12_steady_126 : decode cX12_steady 126 = .ok (.iinc 4 1, 3) := by decide +kernel
theorem dX12_steady_129 : decode cX12_steady 129 = .ok (.goto (-87), 3) := by decide +kernel
theorem dX12_steady_132 : decode cX12_steady 132 = .ok (.iload_n 1, 1) := by decide +kernel
theorem dX12_steady_133 : decode cX12_steady 133 = .ok (.iconst (-1), 1) := by decide +kernel
theorem dX12_steady_134 : decode cX12_steady 134 = .ok (.if_icmp .ne 7, 3) := by decide +kernel
theorem dX12_steady_137 : decode cX12_steady 137 = .ok (.iload_n 3, 1) := by decide +kernel
theorem dX12_steady_138 : decode cX12_steady 138 = .ok (.goto 17, 3) := by decide +kernel
theorem dX12_steady_141 : decode cX12_steady 141 = .ok (.iload_n 3, 1) := by decide +kernel
theorem dX12_steady_142 : decode cX12_steady 142 = .ok (.ifCond .ne 7, 3) := by decide +kernel
theorem dX12_steady_145 : decode cX12_steady 145 = .ok (.iconst (-1), 1) := by decide +kernel
theorem dX12_steady_146 : decode cX12_steady 146 = .ok (.goto 9, 3) := by decide +kernel
theorem dX12_steady_149 : decode cX12_steady 149 = .ok (.aload_n 0, 1) := by decide +kernel
theorem dX12_steady_150 : decode cX12_steady 150 = .ok (.getfield 45, 3) := by decide +kernel
theorem dX12_steady_153 : decode cX12_steady 153 = .ok (.iload_n 1, 1) := by decide +kernel
theorem dX12_steady_154 : decode cX12_steady 154 = .ok (.iaload, 1) := by decide +kernel
theorem dX12_steady_155 : decode cX12_steady 155 = .ok (.ireturn, 1) := by decide +kernel
theorem dX12_fondest_0 : decode cX12_fondest 0 = .ok (.aload_n 0, 1) := by decide +kernel
theorem dX12_fondest_1 : decode cX12_fondest 1 = .ok (.iconst 0, 1) := by decide +kernel
theorem dX12_fondest_2 : decode cX12_fondest 2 = .ok (.putfield 3, 3) := by decide +kernel
theorem dX12_fondest_5 : decode cX12_fondest 5 = .ok (.iconst 0, 1) := by decide +kernel
theorem dX12_fondest_6 : decode cX12_fondest 6 = .ok (.istore_n 1, 1) := by decide +kernel
theorem dX12_fondest_7 : decode cX12_fondest 7 = .ok (.iload_n 1, 1) := by decide +kernel
theorem dX12_fondest_8 : decode cX12_fondest 8 = .ok (.aload_n 0, 1) := by decide +kernel
theorem dX12_fondest_9 : decode cX12_fondest 9 = .ok (.invokevirtual 327, 3) := by decide +kernel
theorem dX12_fondest_12 : decode cX12_fondest 12 = .ok (.if_icmp .gt 108, 3) := by decide +kernel
theorem dX12_fondest_15 : decode cX12_fondest 15 = .ok (.aload_n 0, 1) := by decide +kernel
theorem dX12_fondest_16 : decode cX12_fondest 16 = .ok (.getfield 48, 3) := by decide +kernel
theorem dX12_fondest_19 : decode cX12_fondest 19 = .ok (.iload_n 1, 1) := by decide +kernel
theorem dX12_fondest_20 : decode cX12_fondest 20 = .ok (.iconst 0, 1) := by decide +kernel
theorem dX12_fondest_21 : decode cX12_fondest 21 = .ok (.iastore, 1) := by decide +kernel
theorem dX12_fondest_22 : decode cX12_fondest 22 = .ok (.iconst 0, 1) := by decide +kernel
theorem dX12_fondest_23 : decode cX12_fondest 23 = .ok (.istore_n 2, 1) := by decide +kernel
theorem dX12_fondest_24 : decode cX12_fondest 24 = .ok (.iload_n 2, 1) := by decide +kernel
theorem dX12_fondest_25 : decode cX12_fondest 25 = .ok (.aload_n 0, 1) := by decide +kernel
theorem dX12_fondest_26 : decode cX12_fondest 26 = .ok (.invokevirtual 58, 3) := by decide +kernel
theorem dX12_fondest_29 : decode cX12_fondest 29 = .ok (.if_icmp .ge 85, 3) := by decide +kernel
theorem dX12_fondest_32 : decode cX12_fondest 32 = .ok (.iconst 0, 1) := by decide +kernel
theorem dX12_fondest_33 : decode cX12_fondest 33 = .ok (.istore_n 3, 1) := by decide +kernel
theorem dX12_fondest_34 : decode cX12_fondest 34 = .ok (.iload_n 3, 1) := by decide +kernel
theorem dX12_fondest_35 : decode cX12_fondest 35 = .ok (.iload_n 2, 1) := by decide +kernel
theorem dX12_fondest_36 : decode cX12_fondest 36 = .ok (.if_icmp .ge 72, 3) := by decide +kernel
theorem dX12_fondest_39 : decode cX12_fondest 39 = .ok (.iload_n 1, 1) := by decide +kernel
theorem dX12_fondest_40 : decode cX12_fondest 40 = .ok (.iload_n 2, 1) := by decide +kernel
theorem dX12_fondest_41 : decode cX12_fondest 41 = .ok (.invokestatic 76, 3) := by decide +kernel
theorem dX12_fondest_44 : decode cX12_fondest 44 = .ok (.ifCond .eq 58, 3) := by decide +kernel
theorem dX12_fondest_47 : decode cX12_fondest 47 = .ok (.iload_n 1, 1) := by decide +kernel
theorem dX12_fondest_48 : decode cX12_fondest 48 = .ok (.iload_n 3, 1) := by decide +kernel
theorem dX12_fondest_49 : decode cX12_fondest 49 = .ok (.invokestatic 76, 3) := by decide +kernel
theorem dX12_fondest_52 : decode cX12_fondest 52 = .ok (.ifCond .eq 50, 3) := by decide +kernel
theorem dX12_fondest_55 : decode cX12_fondest 55 = .ok (.aload_n 0, 1) := by decide +kernel
theorem dX12_fondest_56 : decode cX12_fondest 56 = .ok (.getfield 48, 3) := by decide +kernel
theorem dX12_fondest_59 : decode cX12_fondest 59 = .ok (.iload_n 1, 1) := by decide +kernel
theorem dX12_fondest_60 : decode cX12_fondest 60 = .ok (.aload_n 0, 1) := by decide +kernel
theorem dX12_fondest_61 : decode cX12_fondest 61 = .ok (.getfield 48, 3) := by decide +kernel
theorem dX12_fondest_64 : decode cX12_fondest 64 = .ok (.iload_n 1, 1) := by decide +kernel
theorem dX12_fondest_65 : decode cX12_fondest 65 = .ok (.iaload, 1) := by decide +kernel
theorem dX12_fondest_66 : decode cX12_fondest 66 = .ok (.aload_n 0, 1) := by decide +kernel
theorem dX12_fondest_67 : decode cX12_fondest 67 = .ok (.iload_n 2, 1) := by decide +kernel
theorem dX12_fondest_68 : decode cX12_fondest 68 = .ok (.iload_n 3, 1) := by decide +kernel
theorem dX12_fondest_69 : decode cX12_fondest 69 = .ok (.invokevirtual 272, 3) := by decide +kernel
theorem dX12_fondest_72 : decode cX12_fondest 72 = .ok (.aload_n 0, 1) := by decide +kernel
theorem dX12_fondest_73 : decode cX12_fondest 73 = .ok (.iload_n 3, 1) := by decide +kernel
theorem dX12_fondest_74 : decode cX12_fondest 74 = .ok (.iload_n 2, 1) := by decide +kernel
theorem dX12_fondest_75 : decode cX12_fondest 75 = .ok (.invokevirtual 272, 3) := by decide +kernel
theorem dX12_fondest_78 : decode cX12_fondest 78 = .ok (.iadd, 1) := by decide +kernel
theorem dX12_fondest_79 : decode cX12_fondest 79 = .ok (.aload_n 0, 1) := by decide +kernel
theorem dX12_fondest_80 : decode cX12_fondest 80 = .ok (.getfield 48, 3) := by decide +kernel
theorem dX12_fondest_83 : decode cX12_fondest 83 = .ok (.iload_n 1, 1) := by decide +kernel
theorem dX12_fondest_84 : decode cX12_fondest 84 = .ok (.iconst 1, 1) := by decide +kernel
theorem dX12_fondest_85 : decode cX12_fondest 85 = .ok (.iload_n 2, 1) := by decide +kernel
theorem dX12_fondest_86 : decode cX12_fondest 86 = .ok (.ishl, 1) := by decide +kernel
theorem dX12_fondest_87 : decode cX12_fondest 87 = .ok (.iconst (-1), 1) := by decide +kernel
theorem dX12_fondest_88 : decode cX12_fondest 88 = .ok (.ixor, 1) := by decide +kernel
theorem dX12_fondest_89 : decode cX12_fondest 89 = .ok (.iand, 1) := by decide +kernel
theorem dX12_fondest_90 : decode cX12_fondest 90 = .ok (.iconst 1, 1) := by decide +kernel
theorem dX12_fondest_91 : decode cX12_fondest 91 = .ok (.iload_n 3, 1) := by decide +kernel
theorem dX12_fondest_92 : decode cX12_fondest 92 = .ok (.ishl, 1) := by decide +kernel
theorem dX12_fondest_93 : decode cX12_fondest 93 = .ok (.iconst (-1), 1) := by decide +kernel
theorem dX12_fondest_94 : decode cX12_fondest 94 = .ok (.ixor, 1) := by decide +kernel
theorem dX12_fondest_95 : decode cX12_fondest 95 = .ok (.iand, 1) := by decide +kernel
theorem dX12_fondest_96 : decode cX12_fondest 96 = .ok (.iaload, 1) := by decide +kernel
theorem dX12_fondest_97 : decode cX12_fondest 97 = .ok (.iadd, 1) := by decide +kernel
theorem dX12_fondest_98 : decode cX12_fondest 98 = .ok (.invokestatic 288, 3) := by decide +kernel
theorem dX12_fondest_101 : decode cX12_fondest 101 = .ok (.iastore, 1) := by decide +kernel
theorem dX12_fondest_102 : decode cX12_fondest 102 = .ok (.iinc 3 1, 3) := by decide +kernel
theorem dX12_fondest_105 : decode cX12_fondest 105 = .ok (.goto (-71), 3) := by decide +kernel
theorem dX12_fondest_108 : decode cX12_fondest 108 = .ok (.iinc 2 1, 3) := by decide +kernel
theorem dX12_fondest_111 : decode cX12_fondest 111 = .ok (.goto (-87), 3) := by decide +kernel
theorem dX12_fondest_114 : decode cX12_fondest 114 = .ok (.iinc 1 1, 3) := by decide +kernel
theorem dX12_fondest_117 : decode cX12_fondest 117 = .ok (.goto (-110), 3) := by decide +kernel
theorem dX12_fondest_120 : decode cX12_fondest 120 = .ok (.aload_n 0, 1) := by decide +kernel
theorem dX12_fondest_121 : decode cX12_fondest 121 = .ok (.getfield 48, 3) := by decide +kernel
theorem dX12_fondest_124 : decode cX12_fondest 124 = .ok (.aload_n 0, 1) := by decide +kernel
theorem dX12_fondest_125 : decode cX12_fondest 125 = .ok (.invokevirtual 327, 3) := by decide +kernel
theorem dX12_fondest_128 : decode cX12_fondest 128 = .ok (.iaload, 1) := by decide +kernel
theorem dX12_fondest_129 : decode cX12_fondest 129 = .ok (.ireturn, 1) := by decide +kernel
theorem dX12_wash_0 : decode cX12_wash 0 = .ok (.aload_n 0, 1) := by decide +kernel
theorem dX12_wash_1 : decode cX12_wash 1 = .ok (.iconst 0, 1) := by decide +kernel
theorem dX12_wash_2 : decode cX12_wash 2 = .ok (.putfield 3, 3) := by decide +kernel
theorem dX12_wash_5 : decode cX12_wash 5 = .ok (.aload_n 0, 1) := by decide +kernel
theorem dX12_wash_6 : decode cX12_wash 6 = .ok (.aload_n 0, 1) := by decide +kernel
theorem dX12_wash_7 : decode cX12_wash 7 = .ok (.iload_n 1, 1) := by decide +kernel
theorem dX12_wash_8 : decode cX12_wash 8 = .ok (.iload_n 2, 1) := by decide +kernel
theorem dX12_wash_9 : decode cX12_wash 9 = .ok (.invokevirtual 300, 3) := by decide +kernel
theorem dX12_wash_12 : decode cX12_wash 12 = .ok (.iconst 1, 1) := by decide +kernel
theorem dX12_wash_13 : decode cX12_wash 13 = .ok (.invokevirtual 257, 3) := by decide +kernel
theorem dX12_wash_16 : decode cX12_wash 16 = .ok (.ifCond .ne 21, 3) := by decide +kernel
theorem dX12_wash_19 : decode cX12_wash 19 = .ok (.aload_n 0, 1) := by decide +kernel
theorem dX12_wash_20 : decode cX12_wash 20 = .ok (.iload_n 1, 1) := by decide +kernel
theorem dX12_wash_21 : decode cX12_wash 21 = .ok (.iload_n 2, 1) := by decide +kernel
theorem dX12_wash_22 : decode cX12_wash 22 = .ok (.if_icmp .ne 7, 3) := by decide +kernel
theorem dX12_wash_25 : decode cX12_wash 25 = .ok (.iconst 1, 1) := by decide +kernel
theorem dX12_wash_26 : decode cX12_wash 26 = .ok (.goto 4, 3) := by decide +kernel
theorem dX12_wash_29 : decode cX12_wash 29 = .ok (.iconst 0, 1) := by decide +kernel
theorem dX12_wash_30 : decode cX12_wash 30 = .ok (.iconst 2, 1) := by decide +kernel
theorem dX12_wash_31 : decode cX12_wash 31 = .ok (.invokevirtual 257, 3) := by decide +kernel
theorem dX12_wash_34 : decode cX12_wash 34 = .ok (.ifCond .eq 5, 3) := by decide +kernel
theorem dX12_wash_37 : decode cX12_wash 37 = .ok (.iconst 0, 1) := by decide +kernel
theorem dX12_wash_38 : decode cX12_wash 38 = .ok (.ireturn, 1) := by decide +kernel
theorem dX12_wash_39 : decode cX12_wash 39 = .ok (.aload_n 0, 1) := by decide +kernel
theorem dX12_wash_40 : decode cX12_wash 40 = .ok (.invokevirtual 333, 3) := by decide +kernel
theorem dX12_wash_43 : decode cX12_wash 43 = .ok (.aload_n 0, 1) := by decide +kernel
theorem dX12_wash_44 : decode cX12_wash 44 = .ok (.iload_n 1, 1) := by decide +kernel
theorem dX12_wash_45 : decode cX12_wash 45 = .ok (.iload_n 2, 1) := by decide +kernel
theorem dX12_wash_46 : decode cX12_wash 46 = .ok (.invokevirtual 315, 3) := by decide +kernel
theorem dX12_wash_49 : decode cX12_wash 49 = .ok (.istore_n 3, 1) := by decide +kernel
theorem dX12_wash_50 : decode cX12_wash 50 = .ok (.aload_n 0, 1) := by decide +kernel
theorem dX12_wash_51 : decode cX12_wash 51 = .ok (.iload_n 1, 1) := by decide +kernel
theorem dX12_wash_52 : decode cX12_wash 52 = .ok (.iload_n 2, 1) := by decide +kernel
theorem dX12_wash_53 : decode cX12_wash 53 = .ok (.iconst 0, 1) := by decide +kernel
theorem dX12_wash_54 : decode cX12_wash 54 = .ok (.iconst 0, 1) := by decide +kernel
theorem dX12_wash_55 : decode cX12_wash 55 = .ok (.invokevirtual 143, 3) := by decide +kernel
theorem dX12_wash_58 : decode cX12_wash 58 = .ok (.iload_n 3, 1) := by decide +kernel
theorem dX12_wash_59 : decode cX12_wash 59 = .ok (.ireturn, 1) := by decide +kernel
theorem dX12_go_0 : decode cX12_go 0 = .ok (.aload_n 0, 1) := by decide +kernel
theorem dX12_go_1 : decode cX12_go 1 = .ok (.iconst 0, 1) := by decide +kernel
theorem dX12_go_2 : decode cX12_go 2 = .ok (.putfield 3, 3) := by decide +kernel
theorem dX12_go_5 : decode cX12_go 5 = .ok (.aload_n 0, 1) := by decide +kernel
theorem dX12_go_6 : decode cX12_go 6 = .ok (.aload_n 0, 1) := by decide +kernel
theorem dX12_go_7 : decode cX12_go 7 = .ok (.iload_n 1, 1) := by decide +kernel
theorem dX12_go_8 : decode cX12_go 8 = .ok (.invokevirtual 297, 3) := by decide +kernel
theorem dX12_go_11 : decode cX12_go 11 = .ok (.ifCond .ne 10, 3) := by decide +kernel
theorem dX12_go_14 : decode cX12_go 14 = .ok (.iload_n 2, 1) := by decide +kernel
theorem dX12_go_15 : decode cX12_go 15 = .ok (.invokestatic 133, 3) := by decide +kernel
theorem dX12_go_18 : decode cX12_go 18 = .ok (.ifCond .eq 7, 3) := by decide +kernel
theorem dX12_go_21 : decode cX12_go 21 = .ok (.iconst 1, 1) := by decide +kernel
theorem dX12_go_22 : decode cX12_go 22 = .ok (.goto 4, 3) := by decide +kernel
theorem dX12_go_25 : decode cX12_go 25 = .ok (.iconst 0, 1) := by decide +kernel
theorem dX12_go_26 : decode cX12_go 26 = .ok (.iconst 1, 1) := by decide +kernel
theorem dX12_go_27 : decode cX12_go 27 = .ok (.invokevirtual 257, 3) := by decide +kernel
theorem dX12_go_30 : decode cX12_go 30 = .ok (.ifCond .eq 5, 3) := by decide +kernel
theorem dX12_go_33 : decode cX12_go 33 = .ok (.iconst 0, 1) := by decide +kernel
theorem dX12_go_34 : decode cX12_go 34 = .ok (.ireturn, 1) := by decide +kernel
theorem dX12_go_35 : decode cX12_go 35 = .ok (.aload_n 0, 1) := by decide +kernel
theorem dX12_go_36 : decode cX12_go 36 = .ok (.invokevirtual 333, 3) := by decide +kernel
theorem dX12_go_39 : decode cX12_go 39 = .ok (.aload_n 0, 1) := by decide +kernel
theorem dX12_go_40 : decode cX12_go 40 = .ok (.iload_n 1, 1) := by decide +kernel
theorem dX12_go_41 : decode cX12_go 41 = .ok (.iconst 0, 1) := by decide +kernel
theorem dX12_go_42 : decode cX12_go 42 = .ok (.invokevirtual 73, 3) := by decide +kernel
theorem dX12_go_45 : decode cX12_go 45 = .ok (.istore_n 3, 1) := by decide +kernel
theorem dX12_go_46 : decode cX12_go 46 = .ok (.aload_n 0, 1) := by decide +kernel
theorem dX12_go_47 : decode cX12_go 47 = .ok (.getfield 13, 3) := by decide +kernel
theorem dX12_go_50 : decode cX12_go 50 = .ok (.iload_n 1, 1) := by decide +kernel
theorem dX12_go_51 : decode cX12_go 51 = .ok (.iconst 0, 1) := by decide +kernel
theorem dX12_go_52 : decode cX12_go 52 = .ok (.invokestatic 62, 3) := by decide +kernel
theorem dX12_go_55 : decode cX12_go 55 = .ok (.iload_n 2, 1) := by decide +kernel
theorem dX12_go_56 : decode cX12_go 56 = .ok (.iastore, 1) := by decide +kernel
theorem dX12_go_57 : decode cX12_go 57 = .ok (.iload_n 3, 1) := by decide +kernel
theorem dX12_go_58 : decode cX12_go 58 = .ok (.ireturn, 1) := by decide +kernel
theorem dX12_strew_0 : decode cX12_strew 0 = .ok (.aload_n 0, 1) := by decide +kernel
theorem dX12_strew_1 : decode cX12_strew 1 = .ok (.iconst 0, 1) := by decide +kernel
theorem dX12_strew_2 : decode cX12_strew 2 = .ok (.putfield 3, 3) := by decide +kernel
theorem dX12_strew_5 : decode cX12_strew 5 = .ok (.aload_n 0, 1) := by decide +kernel
theorem dX12_strew_6 : decode cX12_strew 6 = .ok (.iload_n 1, 1) := by decide +kernel
theorem dX12_strew_7 : decode cX12_strew 7 = .ok (.invokestatic 133, 3) := by decide +kernel
theorem dX12_strew_10 : decode cX12_strew 10 = .ok (.iconst 1, 1) := by decide +kernel
theorem dX12_strew_11 : decode cX12_strew 11 = .ok (.invokevirtual 257, 3) := by decide +kernel
theorem dX12_strew_14 : decode cX12_strew 14 = .ok (.ifCond .eq 5, 3) := by decide +kernel
theorem dX12_strew_17 : decode cX12_strew 17 = .ok (.iconst 0, 1) := by decide +kernel
theorem dX12_strew_18 : decode cX12_strew 18 = .ok (.ireturn, 1) := by decide +kernel
theorem dX12_strew_19 : decode cX12_strew 19 = .ok (.aload_n 0, 1) := by decide +kernel
theorem dX12_strew_20 : decode cX12_strew 20 = .ok (.invokevirtual 333, 3) := by decide +kernel
theorem dX12_strew_23 : decode cX12_strew 23 = .ok (.aload_n 0, 1) := by decide +kernel
theorem dX12_strew_24 : decode cX12_strew 24 = .ok (.iload_n 1, 1) := by decide +kernel
theorem dX12_strew_25 : decode cX12_strew 25 = .ok (.invokevirtual 397, 3) := by decide +kernel
theorem dX12_strew_28 : decode cX12_strew 28 = .ok (.istore_n 3, 1) := by decide +kernel
theorem dX12_strew_29 : decode cX12_strew 29 = .ok (.aload_n 0, 1) := by decide +kernel
theorem dX12_strew_30 : decode cX12_strew 30 = .ok (.getfield 13, 3) := by decide +kernel
theorem dX12_strew_33 : decode cX12_strew 33 = .ok (.iconst 4, 1) := by decide +kernel
theorem dX12_strew_34 : decode cX12_strew 34 = .ok (.iload_n 2, 1) := by decide +kernel
theorem dX12_strew_35 : decode cX12_strew 35 = .ok (.ifCond .eq 16, 3) := by decide +kernel
theorem dX12_strew_38 : decode cX12_strew 38 = .ok (.aload_n 0, 1) := by decide +kernel
theorem dX12_strew_39 : decode cX12_strew 39 = .ok (.getfield 13, 3) := by decide +kernel
theorem dX12_strew_42 : decode cX12_strew 42 = .ok (.iconst 4, 1) := by decide +kernel
theorem dX12_strew_43 : decode cX12_strew 43 = .ok (.iaload, 1) := by decide +kernel
theorem dX12_strew_44 : decode cX12_strew 44 = .ok (.iconst 1, 1) := by decide +kernel
theorem dX12_strew_45 : decode cX12_strew 45 = .ok (.iload_n 1, 1) := by decide +kernel
theorem dX12_strew_46 : decode cX12_strew 46 = .ok (.ishl, 1) := by decide +kernel
theorem dX12_strew_47 : decode cX12_strew 47 = .ok (.ior, 1) := by decide +kernel
theorem dX12_strew_48 : decode cX12_strew 48 = .ok (.goto 15, 3) := by decide +kernel
theorem dX12_strew_51 : decode cX12_strew 51 = .ok (.aload_n 0, 1) := by decide +kernel
theorem dX12_strew_52 : decode cX12_strew 52 = .ok (.getfield 13, 3) := by decide +kernel
theorem dX12_strew_55 : decode cX12_strew 55 = .ok (.iconst 4, 1) := by decide +kernel
theorem dX12_strew_56 : decode cX12_strew 56 = .ok (.iaload, 1) := by decide +kernel
theorem dX12_strew_57 : decode cX12_strew 57 = .ok (.iconst 1, 1) := by decide +kernel
theorem dX12_strew_58 : decode cX12_strew 58 = .ok (.iload_n 1, 1) := by decide +kernel
theorem dX12_strew_59 : decode cX12_strew 59 = .ok (.ishl, 1) := by decide +kernel
theorem dX12_strew_60 : decode cX12_strew 60 = .ok (.iconst (-1), 1) := by decide +kernel
theorem dX12_strew_61 : decode cX12_strew 61 = .ok (.ixor, 1) := by decide +kernel
theorem dX12_strew_62 : decode cX12_strew 62 = .ok (.iand, 1) := by decide +kernel
theorem dX12_strew_63 : decode cX12_strew 63 = .ok (.iastore, 1) := by decide +kernel
theorem dX12_strew_64 : decode cX12_strew 64 = .ok (.iload_n 3, 1) := by decide +kernel
theorem dX12_strew_65 : decode cX12_strew 65 = .ok (.iload_n 2, 1) := by decide +kernel
theorem dX12_strew_66 : decode cX12_strew 66 = .ok (.if_icmp .eq 7, 3) := by decide +kernel
theorem dX12_strew_69 : decode cX12_strew 69 = .ok (.iconst 1, 1) := by decide +kernel
theorem dX12_strew_70 : decode cX12_strew 70 = .ok (.goto 4, 3) := by decide +kernel
theorem dX12_strew_73 : decode cX12_strew 73 = .ok (.iconst 0, 1) := by decide +kernel
theorem dX12_strew_74 : decode cX12_strew 74 = .ok (.ireturn, 1) := by decide +kernel
theorem dX12_wed_0 : decode cX12_wed 0 = .ok (.aload_n 0, 1) := by decide +kernel
theorem dX12_wed_1 : decode cX12_wed 1 = .ok (.iconst 0, 1) := by decide +kernel
theorem dX12_wed_2 : decode cX12_wed 2 = .ok (.putfield 3, 3) := by decide +kernel
theorem dX12_wed_5 : decode cX12_wed 5 = .ok (.aload_n 0, 1) := by decide +kernel
theorem dX12_wed_6 : decode cX12_wed 6 = .ok (.aload_n 0, 1) := by decide +kernel
theorem dX12_wed_7 : decode cX12_wed 7 = .ok (.iload_n 1, 1) := by decide +kernel
theorem dX12_wed_8 : decode cX12_wed 8 = .ok (.iload_n 2, 1) := by decide +kernel
theorem dX12_wed_9 : decode cX12_wed 9 = .ok (.invokevirtual 300, 3) := by decide +kernel
theorem dX12_wed_12 : decode cX12_wed 12 = .ok (.iconst 1, 1) := by decide +kernel
theorem dX12_wed_13 : decode cX12_wed 13 = .ok (.invokevirtual 257, 3) := by decide +kernel
theorem dX12_wed_16 : decode cX12_wed 16 = .ok (.ifCond .ne 52, 3) := by decide +kernel
theorem dX12_wed_19 : decode cX12_wed 19 = .ok (.aload_n 0, 1) := by decide +kernel
theorem dX12_wed_20 : decode cX12_wed 20 = .ok (.iload_n 1, 1) := by decide +kernel
theorem dX12_wed_21 : decode cX12_wed 21 = .ok (.iload_n 2, 1) := by decide +kernel
theorem dX12_wed_22 : decode cX12_wed 22 = .ok (.if_icmp .ne 7, 3) := by decide +kernel
theorem dX12_wed_25 : decode cX12_wed 25 = .ok (.iconst 1, 1) := by decide +kernel
theorem dX12_wed_26 : decode cX12_wed 26 = .ok (.goto 4, 3) := by decide +kernel
theorem dX12_wed_29 : decode cX12_wed 29 = .ok (.iconst 0, 1) := by decide +kernel
theorem dX12_wed_30 : decode cX12_wed 30 = .ok (.iconst 2, 1) := by decide +kernel
theorem dX12_wed_31 : decode cX12_wed 31 = .ok (.invokevirtual 257, 3) := by decide +kernel
theorem dX12_wed_34 : decode cX12_wed 34 = .ok (.ifCond .ne 34, 3) := by decide +kernel
theorem dX12_wed_37 : decode cX12_wed 37 = .ok (.aload_n 0, 1) := by decide +kernel
theorem dX12_wed_38 : decode cX12_wed 38 = .ok (.aload_n 0, 1) := by decide +kernel
theorem dX12_wed_39 : decode cX12_wed 39 = .ok (.iload_n 1, 1) := by decide +kernel
theorem dX12_wed_40 : decode cX12_wed 40 = .ok (.iconst 1, 1) := by decide +kernel
theorem dX12_wed_41 : decode cX12_wed 41 = .ok (.invokevirtual 73, 3) := by decide +kernel
theorem dX12_wed_44 : decode cX12_wed 44 = .ok (.ifCond .ge 12, 3) := by decide +kernel
theorem dX12_wed_47 : decode cX12_wed 47 = .ok (.aload_n 0, 1) := by decide +kernel
theorem dX12_wed_48 : decode cX12_wed 48 = .ok (.iload_n 2, 1) := by decide +kernel
theorem dX12_wed_49 : decode cX12_wed 49 = .ok (.iconst 1, 1) := by decide +kernel
theorem dX12_wed_50 : decode cX12_wed 50 = .ok (.invokevirtual 73, 3) := by decide +kernel
theorem dX12_wed_53 : decode cX12_wed 53 = .ok (.ifCond .lt 7, 3) := by decide +kernel
theorem dX12_wed_56 : decode cX12_wed 56 = .ok (.iconst 1, 1) := by decide +kernel
theorem dX12_wed_57 : decode cX12_wed 57 = .ok (.goto 4, 3) := by decide +kernel
theorem dX12_wed_60 : decode cX12_wed 60 = .ok (.iconst 0, 1) := by decide +kernel
theorem dX12_wed_61 : decode cX12_wed 61 = .ok (.iconst 3, 1) := by decide +kernel
theorem dX12_wed_62 : decode cX12_wed 62 = .ok (.invokevirtual 257, 3) := by decide +kernel
theorem dX12_wed_65 : decode cX12_wed 65 = .ok (.ifCond .eq 4, 3) := by decide +kernel
theorem dX12_wed_68 : decode cX12_wed 68 = .ok (.return_, 1) := by decide +kernel
theorem dX12_wed_69 : decode cX12_wed 69 = .ok (.aload_n 0, 1) := by decide +kernel
theorem dX12_wed_70 : decode cX12_wed 70 = .ok (.invokevirtual 333, 3) := by decide +kernel
theorem dX12_wed_73 : decode cX12_wed 73 = .ok (.aload_n 0, 1) := by decide +kernel
theorem dX12_wed_74 : decode cX12_wed 74 = .ok (.iload_n 1, 1) := by decide +kernel
theorem dX12_wed_75 : decode cX12_wed 75 = .ok (.iload_n 2, 1) := by decide +kernel
theorem dX12_wed_76 : decode cX12_wed 76 = .ok (.invokevirtual 129, 3) := by decide +kernel
theorem dX12_wed_79 : decode cX12_wed 79 = .ok (.return_, 1) := by decide +kernel
theorem dX12_clear_0 : decode cX12_clear 0 = .ok (.aload_n 0, 1) := by decide +kernel
theorem dX12_clear_1 : decode cX12_clear 1 = .ok (.iconst 0, 1) := by decide +kernel
theorem dX12_clear_2 : decode cX12_clear 2 = .ok (.putfield 3, 3) := by decide +kernel
theorem dX12_clear_5 : decode cX12_clear 5 = .ok (.aload_n 0, 1) := by decide +kernel
theorem dX12_clear_6 : decode cX12_clear 6 = .ok (.aload_n 0, 1) := by decide +kernel
theorem dX12_clear_7 : decode cX12_clear 7 = .ok (.iload_n 1, 1) := by decide +kernel
theorem dX12_clear_8 : decode cX12_clear 8 = .ok (.invokevirtual 297, 3) := by decide +kernel
theorem dX12_clear_11 : decode cX12_clear 11 = .ok (.iconst 1, 1) := by decide +kernel
theorem dX12_clear_12 : decode cX12_clear 12 = .ok (.invokevirtual 257, 3) := by decide +kernel
theorem dX12_clear_15 : decode cX12_clear 15 = .ok (.ifCond .eq 5, 3) := by decide +kernel
theorem dX12_clear_18 : decode cX12_clear 18 = .ok (.iconst 0, 1) := by decide +kernel
theorem dX12_clear_19 : decode cX12_clear 19 = .ok (.ireturn, 1) := by decide +kernel
theorem dX12_clear_20 : decode cX12_clear 20 = .ok (.aload_n 0, 1) := by decide +kernel
theorem dX12_clear_21 : decode cX12_clear 21 = .ok (.invokevirtual 333, 3) := by decide +kernel
theorem dX12_clear_24 : decode cX12_clear 24 = .ok (.aload_n 0, 1) := by decide +kernel
theorem dX12_clear_25 : decode cX12_clear 25 = .ok (.iload_n 1, 1) := by decide +kernel
theorem dX12_clear_26 : decode cX12_clear 26 = .ok (.iconst 2, 1) := by decide +kernel
theorem dX12_clear_27 : decode cX12_clear 27 = .ok (.invokevirtual 73, 3) := by decide +kernel
theorem dX12_clear_30 : decode cX12_clear 30 = .ok (.istore_n 2, 1) := by decide +kernel
theorem dX12_clear_31 : decode cX12_clear 31 = .ok (.aload_n 0, 1) := by decide +kernel
theorem dX12_clear_32 : decode cX12_clear 32 = .ok (.getfield 13, 3) := by decide +kernel
theorem dX12_clear_35 : decode cX12_clear 35 = .ok (.iload_n 1, 1) := by decide +kernel
theorem dX12_clear_36 : decode cX12_clear 36 = .ok (.iconst 2, 1) := by decide +kernel
theorem dX12_clear_37 : decode cX12_clear 37 = .ok (.invokestatic 62, 3) := by decide +kernel
theorem dX12_clear_40 : decode cX12_clear 40 = .ok (.iconst 0, 1) := by decide +kernel
theorem dX12_clear_41 : decode cX12_clear 41 = .ok (.iastore, 1) := by decide +kernel
theorem dX12_clear_42 : decode cX12_clear 42 = .ok (.iload_n 2, 1) := by decide +kernel
theorem dX12_clear_43 : decode cX12_clear 43 = .ok (.ireturn, 1) := by decide +kernel
theorem dX12_suspects_0 : decode cX12_suspects 0 = .ok (.aload_n 0, 1) := by decide +kernel
theorem dX12_suspects_1 : decode cX12_suspects 1 = .ok (.getfield 13, 3) := by decide +kernel
theorem dX12_suspects_4 : decode cX12_suspects 4 = .ok (.iload_n 1, 1) := by decide +kernel
theorem dX12_suspects_5 : decode cX12_suspects 5 = .ok (.iconst 2, 1) := by decide +kernel
theorem dX12_suspects_6 : decode cX12_suspects 6 = .ok (.invokestatic 62, 3) := by decide +kernel
theorem dX12_suspects_9 : decode cX12_suspects 9 = .ok (.bipush 99, 2) := by decide +kernel
theorem dX12_suspects_11 : decode cX12_suspects 11 = .ok (.aload_n 0, 1) := by decide +kernel
theorem dX12_suspects_12 : decode cX12_suspects 12 = .ok (.iload_n 1, 1) := by decide +kernel
theorem dX12_suspects_13 : decode cX12_suspects 13 = .ok (.iconst 2, 1) := by decide +kernel
theorem dX12_suspects_14 : decode cX12_suspects 14 = .ok (.invokevirtual 73, 3) := by decide +kernel
theorem dX12_suspects_17 : decode cX12_suspects 17 = .ok (.iload_n 2, 1) := by decide +kernel
theorem dX12_suspects_18 : decode cX12_suspects 18 = .ok (.iadd, 1) := by decide +kernel
theorem dX12_suspects_19 : decode cX12_suspects 19 = .ok (.invokestatic 283, 3) := by decide +kernel
theorem dX12_suspects_22 : decode cX12_suspects 22 = .ok (.iastore, 1) := by decide +kernel
theorem dX12_suspects_23 : decode cX12_suspects 23 = .ok (.return_, 1) := by decide +kernel
theorem dX12_leavesFootprints_0 : decode cX12_leavesFootprints 0 = .ok (.aload_n 0, 1) := by decide +kernel
theorem dX12_leavesFootprints_1 : decode cX12_leavesFootprints 1 = .ok (.iload_n 1, 1) := by decide +kernel
theorem dX12_leavesFootprints_2 : decode cX12_leavesFootprints 2 = .ok (.iload_n 2, 1) := by decide +kernel
theorem dX12_leavesFootprints_3 : decode cX12_leavesFootprints 3 = .ok (.iconst 0, 1) := by decide +kernel
theorem dX12_leavesFootprints_4 : decode cX12_leavesFootprints 4 = .ok (.iconst 0, 1) := by decide +kernel
theorem dX12_leavesFootprints_5 : decode cX12_leavesFootprints 5 = .ok (.invokevirtual 303, 3) := by decide +kernel
theorem dX12_leavesFootprints_8 : decode cX12_leavesFootprints 8 = .ok (.aload_n 0, 1) := by decide +kernel
theorem dX12_leavesFootprints_9 : decode cX12_leavesFootprints 9 = .ok (.invokevirtual 309, 3) := by decide +kernel
theorem dX12_leavesFootprints_12 : decode cX12_leavesFootprints 12 = .ok (.istore_n 3, 1) := by decide +kernel
theorem dX12_leavesFootprints_13 : decode cX12_leavesFootprints 13 = .ok (.aload_n 0, 1) := by decide +kernel
theorem dX12_leavesFootprints_14 : decode cX12_leavesFootprints 14 = .ok (.iload_n 1, 1) := by decide +kernel
theorem dX12_leavesFootprints_15 : decode cX12_leavesFootprints 15 = .ok (.iload_n 3, 1) := by decide +kernel
theorem dX12_leavesFootprints_16 : decode cX12_leavesFootprints 16 = .ok (.invokevirtual 400, 3) := by decide +kernel
theorem dX12_leavesFootprints_19 : decode cX12_leavesFootprints 19 = .ok (.aload_n 0, 1) := by decide +kernel
theorem dX12_leavesFootprints_20 : decode cX12_leavesFootprints 20 = .ok (.iload_n 2, 1) := by decide +kernel
theorem dX12_leavesFootprints_21 : decode cX12_leavesFootprints 21 = .ok (.iload_n 3, 1) := by decide +kernel
theorem dX12_leavesFootprints_22 : decode cX12_leavesFootprints 22 = .ok (.invokevirtual 400, 3) := by decide +kernel
theorem dX12_leavesFootprints_25 : decode cX12_leavesFootprints 25 = .ok (.sipush 239, 3) := by decide +kernel
theorem dX12_leavesFootprints_28 : decode cX12_leavesFootprints 28 = .ok (.istore 4, 2) := by decide +kernel
theorem dX12_leavesFootprints_30 : decode cX12_leavesFootprints 30 = .ok (.iload 4, 2) := by decide +kernel
theorem dX12_leavesFootprints_32 : decode cX12_leavesFootprints 32 = .ok (.iconst 4, 1) := by decide +kernel
theorem dX12_leavesFootprints_33 : decode cX12_leavesFootprints 33 = .ok (.if_icmp .lt 33, 3) := by decide +kernel
theorem dX12_leavesFootprints_36 : decode cX12_leavesFootprints 36 = .ok (.aload_n 0, 1) := by decide +kernel
theorem dX12_leavesFootprints_37 : decode cX12_leavesFootprints 37 = .ok (.getfield 13, 3) := by decide +kernel
theorem dX12_leavesFootprints_40 : decode cX12_leavesFootprints 40 = .ok (.sipush 234, 3) := by decide +kernel
theorem dX12_leavesFootprints_43 : decode cX12_leavesFootprints 43 = .ok (.iload 4, 2) := by decide +kernel
theorem dX12_leavesFootprints_45 : decode cX12_leavesFootprints 45 = .ok (.iadd, 1) := by decide +kernel
theorem dX12_leavesFootprints_46 : decode cX12_leavesFootprints 46 = .ok (.aload_n 0, 1) := by decide +kernel
theorem dX12_leavesFootprints_47 : decode cX12_leavesFootprints 47 = .ok (.getfield 13, 3) := by decide +kernel
theorem dX12_leavesFootprints_50 : decode cX12_leavesFootprints 50 = .ok (.sipush 234, 3) := by decide +kernel
theorem dX12_leavesFootprints_53 : decode cX12_leavesFootprints 53 = .ok (.iload 4, 2) := by decide +kernel
theorem dX12_leavesFootprints_55 : decode cX12_leavesFootprints 55 = .ok (.iadd, 1) := by decide +kernel
theorem dX12_leavesFootprints_56 : decode cX12_leavesFootprints 56 = .ok (.iconst 4, 1) := by decide +kernel
theorem dX12_leavesFootprints_57 : decode cX12_leavesFootprints 57 = .ok (.isub, 1) := by decide +kernel
theorem dX12_leavesFootprints_58 : decode cX12_leavesFootprints 58 = .ok (.iaload, 1) := by decide +kernel
theorem dX12_leavesFootprints_59 : decode cX12_leavesFootprints 59 = .ok (.iastore, 1) := by decide +kernel
theorem dX12_leavesFootprints_60 : decode cX12_leavesFootprints 60 = .ok (.iinc 4 (-1), 3) := by decide +kernel
theorem dX12_leavesFootprints_63 : decode cX12_leavesFootprints 63 = .ok (.goto (-33), 3) := by decide +kernel
theorem dX12_leavesFootprints_66 : decode cX12_leavesFootprints 66 = .ok (.aload_n 0, 1) := by decide +kernel
theorem dX12_leavesFootprints_67 : decode cX12_leavesFootprints 67 = .ok (.getfield 13, 3) := by decide +kernel
theorem dX12_leavesFootprints_70 : decode cX12_leavesFootprints 70 = .ok (.sipush 234, 3) := by decide +kernel
theorem dX12_leavesFootprints_73 : decode cX12_leavesFootprints 73 = .ok (.aload_n 0, 1) := by decide +kernel
theorem dX12_leavesFootprints_74 : decode cX12_leavesFootprints 74 = .ok (.getfield 13, 3) := by decide +kernel
theorem dX12_leavesFootprints_77 : decode cX12_leavesFootprints 77 = .ok (.iconst 3, 1) := by decide +kernel
theorem dX12_leavesFootprints_78 : decode cX12_leavesFootprints 78 = .ok (.iaload, 1) := by decide +kernel
theorem dX12_leavesFootprints_79 : decode cX12_leavesFootprints 79 = .ok (.iastore, 1) := by decide +kernel
theorem dX12_leavesFootprints_80 : decode cX12_leavesFootprints 80 = .ok (.aload_n 0, 1) := by decide +kernel
theorem dX12_leavesFootprints_81 : decode cX12_leavesFootprints 81 = .ok (.getfield 13, 3) := by decide +kernel
theorem dX12_leavesFootprints_84 : decode cX12_leavesFootprints 84 = .ok (.sipush 235, 3) := by decide +kernel
theorem dX12_leavesFootprints_87 : decode cX12_leavesFootprints 87 = .ok (.iload_n 1, 1) := by decide +kernel
theorem dX12_leavesFootprints_88 : decode cX12_leavesFootprints 88 = .ok (.iastore, 1) := by decide +kernel
theorem dX12_leavesFootprints_89 : decode cX12_leavesFootprints 89 = .ok (.aload_n 0, 1) := by decide +kernel
theorem dX12_leavesFootprints_90 : decode cX12_leavesFootprints 90 = .ok (.getfield 13, 3) := by decide +kernel
theorem dX12_leavesFootprints_93 : decode cX12_leavesFootprints 93 = .ok (.sipush 236, 3) := by decide +kernel
theorem dX12_leavesFootprints_96 : decode cX12_leavesFootprints 96 = .ok (.iload_n 2, 1) := by decide +kernel
theorem dX12_leavesFootprints_97 : decode cX12_leavesFootprints 97 = .ok (.iastore, 1) := by decide +kernel
theorem dX12_leavesFootprints_98 : decode cX12_leavesFootprints 98 = .ok (.aload_n 0, 1) := by decide +kernel
theorem dX12_leavesFootprints_99 : decode cX12_leavesFootprints 99 = .ok (.getfield 13, 3) := by decide +kernel
theorem dX12_leavesFootprints_102 : decode cX12_leavesFootprints 102 = .ok (.sipush 237, 3) := by decide +kernel
theorem dX12_leavesFootprints_105 : decode cX12_leavesFootprints 105 = .ok (.aload_n 0, 1) := by decide +kernel
theorem dX12_leavesFootprints_106 : decode cX12_leavesFootprints 106 = .ok (.iload_n 1, 1) := by decide +kernel
theorem dX12_leavesFootprints_107 : decode cX12_leavesFootprints 107 = .ok (.iconst 0, 1) := by decide +kernel
theorem dX12_leavesFootprints_108 : decode cX12_leavesFootprints 108 = .ok (.invokevirtual 73, 3) := by decide +kernel
theorem dX12_leavesFootprints_111 : decode cX12_leavesFootprints 111 = .ok (.iastore, 1) := by decide +kernel
theorem dX12_leavesFootprints_112 : decode cX12_leavesFootprints 112 = .ok (.aload_n 0, 1) := by decide +kernel
theorem dX12_leavesFootprints_113 : decode cX12_leavesFootprints 113 = .ok (.getfield 13, 3) := by decide +kernel
theorem dX12_leavesFootprints_116 : decode cX12_leavesFootprints 116 = .ok (.bipush 8, 2) := by decide +kernel
theorem dX12_leavesFootprints_118 : decode cX12_leavesFootprints 118 = .ok (.bipush 60, 2) := by decide +kernel
theorem dX12_leavesFootprints_120 : decode cX12_leavesFootprints 120 = .ok (.aload_n 0, 1) := by decide +kernel
theorem dX12_leavesFootprints_121 : decode cX12_leavesFootprints 121 = .ok (.getfield 13, 3) := by decide +kernel
theorem dX12_leavesFootprints_124 : decode cX12_leavesFootprints 124 = .ok (.bipush 8, 2) := by decide +kernel
theorem dX12_leavesFootprints_126 : decode cX12_leavesFootprints 126 = .ok (.iaload, 1) := by decide +kernel
theorem dX12_leavesFootprints_127 : decode cX12_leavesFootprints 127 = .ok (.iconst 1, 1) := by decide +kernel
theorem dX12_leavesFootprints_128 : decode cX12_leavesFootprints 128 = .ok (.iadd, 1) := by decide +kernel
theorem dX12_leavesFootprints_129 : decode cX12_leavesFootprints 129 = .ok (.invokestatic 283, 3) := by decide +kernel
theorem dX12_leavesFootprints_132 : decode cX12_leavesFootprints 132 = .ok (.iastore, 1) := by decide +kernel
theorem dX12_leavesFootprints_133 : decode cX12_leavesFootprints 133 = .ok (.aload_n 0, 1) := by decide +kernel
theorem dX12_leavesFootprints_134 : decode cX12_leavesFootprints 134 = .ok (.getfield 13, 3) := by decide +kernel
theorem dX12_leavesFootprints_137 : decode cX12_leavesFootprints 137 = .ok (.bipush 7, 2) := by decide +kernel
theorem dX12_leavesFootprints_139 : decode cX12_leavesFootprints 139 = .ok (.dup2, 1) := by decide +kernel
theorem dX12_leavesFootprints_140 : decode cX12_leavesFootprints 140 = .ok (.iaload, 1) := by decide +kernel
theorem dX12_leavesFootprints_141 : decode cX12_leavesFootprints 141 = .ok (.iconst 1, 1) := by decide +kernel
theorem dX12_leavesFootprints_142 : decode cX12_leavesFootprints 142 = .ok (.iadd, 1) := by decide +kernel
theorem dX12_leavesFootprints_143 : decode cX12_leavesFootprints 143 = .ok (.iastore, 1) := by decide +kernel
theorem dX12_leavesFootprints_144 : decode cX12_leavesFootprints 144 = .ok (.return_, 1) := by decide +kernel
theorem dX12_oneDay_0 : decode cX12_oneDay 0 = .ok (.aload_n 0, 1) := by decide +kernel
theorem dX12_oneDay_1 : decode cX12_oneDay 1 = .ok (.getfield 13, 3) := by decide +kernel
theorem dX12_oneDay_4 : decode cX12_oneDay 4 = .ok (.bipush 7, 2) := by decide +kernel
theorem dX12_oneDay_6 : decode cX12_oneDay 6 = .ok (.iaload, 1) := by decide +kernel
theorem dX12_oneDay_7 : decode cX12_oneDay 7 = .ok (.istore_n 2, 1) := by decide +kernel
theorem dX12_oneDay_8 : decode cX12_oneDay 8 = .ok (.iconst 0, 1) := by decide +kernel
theorem dX12_oneDay_9 : decode cX12_oneDay 9 = .ok (.istore_n 3, 1) := by decide +kernel
theorem dX12_oneDay_10 : decode cX12_oneDay 10 = .ok (.iload_n 3, 1) := by decide +kernel
theorem dX12_oneDay_11 : decode cX12_oneDay 11 = .ok (.aload_n 0, 1) := by decide +kernel
theorem dX12_oneDay_12 : decode cX12_oneDay 12 = .ok (.invokevirtual 58, 3) := by decide +kernel
theorem dX12_oneDay_15 : decode cX12_oneDay 15 = .ok (.if_icmp .ge 58, 3) := by decide +kernel
theorem dX12_oneDay_18 : decode cX12_oneDay 18 = .ok (.aload_n 0, 1) := by decide +kernel
theorem dX12_oneDay_19 : decode cX12_oneDay 19 = .ok (.iload_n 3, 1) := by decide +kernel
theorem dX12_oneDay_20 : decode cX12_oneDay 20 = .ok (.invokevirtual 354, 3) := by decide +kernel
theorem dX12_oneDay_23 : decode cX12_oneDay 23 = .ok (.istore 4, 2) := by decide +kernel
theorem dX12_oneDay_25 : decode cX12_oneDay 25 = .ok (.iload 4, 2) := by decide +kernel
theorem dX12_oneDay_27 : decode cX12_oneDay 27 = .ok (.ifCond .lt 40, 3) := by decide +kernel
theorem dX12_oneDay_30 : decode cX12_oneDay 30 = .ok (.iload_n 1, 1) := by decide +kernel
theorem dX12_oneDay_31 : decode cX12_oneDay 31 = .ok (.ifCond .ne 19, 3) := by decide +kernel
theorem dX12_oneDay_34 : decode cX12_oneDay 34 = .ok (.aload_n 0, 1) := by decide +kernel
theorem dX12_oneDay_35 : decode cX12_oneDay 35 = .ok (.bipush 10, 2) := by decide +kernel
theorem dX12_oneDay_37 : decode cX12_oneDay 37 = .ok (.invokevirtual 403, 3) := by decide +kernel
theorem dX12_oneDay_40 : decode cX12_oneDay 40 = .ok (.aload_n 0, 1) := by decide +kernel
theorem dX12_oneDay_41 : decode cX12_oneDay 41 = .ok (.iload_n 3, 1) := by decide +kernel
theorem dX12_oneDay_42 : decode cX12_oneDay 42 = .ok (.iload 4, 2) := by decide +kernel
theorem dX12_oneDay_44 : decode cX12_oneDay 44 = .ok (.invokevirtual 315, 3) := by decide +kernel
theorem dX12_oneDay_47 : decode cX12_oneDay 47 = .ok (.if_icmp .ge 20, 3) := by decide +kernel
theorem dX12_oneDay_50 : decode cX12_oneDay 50 = .ok (.aload_n 0, 1) := by decide +kernel
theorem dX12_oneDay_51 : decode cX12_oneDay 51 = .ok (.getfield 13, 3) := by decide +kernel
theorem dX12_oneDay_54 : decode cX12_oneDay 54 = .ok (.iload_n 3, 1) := by decide +kernel
theorem dX12_oneDay_55 : decode cX12_oneDay 55 = .ok (.iconst 0, 1) := by decide +kernel
theorem dX12_oneDay_56 : decode cX12_oneDay 56 = .ok (.invokestatic 62, 3) := by decide +kernel
theorem dX12_oneDay_59 : decode cX12_oneDay 59 = .ok (.aload_n 0, 1) := by decide +kernel
theorem dX12_oneDay_60 : decode cX12_oneDay 60 = .ok (.iload 4, 2) := by decide +kernel
theorem dX12_oneDay_62 : decode cX12_oneDay 62 = .ok (.iconst 0, 1) := by decide +kernel
theorem dX12_oneDay_63 : decode cX12_oneDay 63 = .ok (.invokevirtual 73, 3) := by decide +kernel
theorem dX12_oneDay_66 : decode cX12_oneDay 66 = .ok (.iastore, 1) := by decide +kernel
theorem dX12_oneDay_67 : decode cX12_oneDay 67 = .ok (.iinc 3 1, 3) := by decide +kernel
theorem dX12_oneDay_70 : decode cX12_oneDay 70 = .ok (.goto (-60), 3) := by decide +kernel
theorem dX12_oneDay_73 : decode cX12_oneDay 73 = .ok (.iconst 0, 1) := by decide +kernel
theorem dX12_oneDay_74 : decode cX12_oneDay 74 = .ok (.istore_n 3, 1) := by decide +kernel
theorem dX12_oneDay_75 : decode cX12_oneDay 75 = .ok (.iload_n 3, 1) := by decide +kernel
theorem dX12_oneDay_76 : decode cX12_oneDay 76 = .ok (.aload_n 0, 1) := by decide +kernel
theorem dX12_oneDay_77 : decode cX12_oneDay 77 = .ok (.invokevirtual 58, 3) := by decide +kernel
theorem dX12_oneDay_80 : decode cX12_oneDay 80 = .ok (.if_icmp .ge 112, 3) := by decide +kernel
theorem dX12_oneDay_83 : decode cX12_oneDay 83 = .ok (.iload_n 3, 1) := by decide +kernel
theorem dX12_oneDay_84 : decode cX12_oneDay 84 = .ok (.iconst 1, 1) := by decide +kernel
theorem dX12_oneDay_85 : decode cX12_oneDay 85 = .ok (.iadd, 1) := by decide +kernel
theorem dX12_oneDay_86 : decode cX12_oneDay 86 = .ok (.istore 4, 2) := by decide +kernel
theorem dX12_oneDay_88 : decode cX12_oneDay 88 = .ok (.iload 4, 2) := by decide +kernel
theorem dX12_oneDay_90 : decode cX12_oneDay 90 = .ok (.aload_n 0, 1) := by decide +kernel
theorem dX12_oneDay_91 : decode cX12_oneDay 91 = .ok (.invokevirtual 58, 3) := by decide +kernel
theorem dX12_oneDay_94 : decode cX12_oneDay 94 = .ok (.if_icmp .ge 92, 3) := by decide +kernel
theorem dX12_oneDay_97 : decode cX12_oneDay 97 = .ok (.aload_n 0, 1) := by decide +kernel
theorem dX12_oneDay_98 : decode cX12_oneDay 98 = .ok (.iload_n 3, 1) := by decide +kernel
theorem dX12_oneDay_99 : decode cX12_oneDay 99 = .ok (.iconst 0, 1) := by decide +kernel
theorem dX12_oneDay_100 : decode cX12_oneDay 100 = .ok (.invokevirtual 73, 3) := by decide +kernel
theorem dX12_oneDay_103 : decode cX12_oneDay 103 = .ok (.aload_n 0, 1) := by decide +kernel
theorem dX12_oneDay_104 : decode cX12_oneDay 104 = .ok (.iload 4, 2) := by decide +kernel
theorem dX12_oneDay_106 : decode cX12_oneDay 106 = .ok (.iconst 0, 1) := by decide +kernel
theorem dX12_oneDay_107 : decode cX12_oneDay 107 = .ok (.invokevirtual 73, 3) := by decide +kernel
theorem dX12_oneDay_110 : decode cX12_oneDay 110 = .ok (.if_icmp .eq 6, 3) := by decide +kernel
theorem dX12_oneDay_113 : decode cX12_oneDay 113 = .ok (.goto 67, 3) := by decide +kernel
theorem dX12_oneDay_116 : decode cX12_oneDay 116 = .ok (.aload_n 0, 1) := by decide +kernel
theorem dX12_oneDay_117 : decode cX12_oneDay 117 = .ok (.getfield 13, 3) := by decide +kernel
theorem dX12_oneDay_120 : decode cX12_oneDay 120 = .ok (.iload_n 3, 1) := by decide +kernel
theorem dX12_oneDay_121 : decode cX12_oneDay 121 = .ok (.iconst 3, 1) := by decide +kernel
theorem dX12_oneDay_122 : decode cX12_oneDay 122 = .ok (.invokestatic 62, 3) := by decide +kernel
theorem dX12_oneDay_125 : decode cX12_oneDay 125 = .ok (.dup2, 1) := by decide +kernel
theorem dX12_oneDay_126 : decode cX12_oneDay 126 = .ok (.iaload, 1) := by decide +kernel
theorem dX12_oneDay_127 : decode cX12_oneDay 127 = .ok (.iconst 1, 1) := by decide +kernel
theorem dX12_oneDay_128 : decode cX12_oneDay 128 = .ok (.iload 4, 2) := by decide +kernel
theorem dX12_oneDay_130 : decode cX12_oneDay 130 = .ok (.ishl, 1) := by decide +kernel
theorem dX12_oneDay_131 : decode cX12_oneDay 131 = .ok (.ior, 1) := by decide +kernel
theorem dX12_oneDay_132 : decode cX12_oneDay 132 = .ok (.iastore, 1) := by decide +kernel
theorem dX12_oneDay_133 : decode cX12_oneDay 133 = .ok (.aload_n 0, 1) := by decide +kernel
theorem dX12_oneDay_134 : decode cX12_oneDay 134 = .ok (.getfield 13, 3) := by decide +kernel
theorem dX12_oneDay_137 : decode cX12_oneDay 137 = .ok (.iload 4, 2) := by decide +kernel
theorem dX12_oneDay_139 : decode cX12_oneDay 139 = .ok (.iconst 3, 1) := by decide +kernel
theorem dX12_oneDay_140 : decode cX12_oneDay 140 = .ok (.invokestatic 62, 3) := by decide +kernel
theorem dX12_oneDay_143 : decode cX12_oneDay 143 = .ok (.dup2, 1) := by decide +kernel
theorem dX12_oneDay_144 : decode cX12_oneDay 144 = .ok (.iaload, 1) := by decide +kernel
theorem dX12_oneDay_145 : decode cX12_oneDay 145 = .ok (.iconst 1, 1) := by decide +kernel
theorem dX12_oneDay_146 : decode cX12_oneDay 146 = .ok (.iload_n 3, 1) := by decide +kernel
theorem dX12_oneDay_147 : decode cX12_oneDay 147 = .ok (.ishl, 1) := by decide +kernel
theorem dX12_oneDay_148 : decode cX12_oneDay 148 = .ok (.ior, 1) := by decide +kernel
theorem dX12_oneDay_149 : decode cX12_oneDay 149 = .ok (.iastore, 1) := by decide +kernel
theorem dX12_oneDay_150 : decode cX12_oneDay 150 = .ok (.aload_n 0, 1) := by decide +kernel
theorem dX12_oneDay_151 : decode cX12_oneDay 151 = .ok (.iload_n 3, 1) := by decide +kernel
theorem dX12_oneDay_152 : decode cX12_oneDay 152 = .ok (.iload 4, 2) := by decide +kernel
theorem dX12_oneDay_154 : decode cX12_oneDay 154 = .ok (.invokevirtual 372, 3) := by decide +kernel
theorem dX12_oneDay_157 : decode cX12_oneDay 157 = .ok (.ifCond .eq 23, 3) := by decide +kernel
theorem dX12_oneDay_160 : decode cX12_oneDay 160 = .ok (.aload_n 0, 1) := by decide +kernel
theorem dX12_oneDay_161 : decode cX12_oneDay 161 = .ok (.aload_n 0, 1) := by decide +kernel
theorem dX12_oneDay_162 : decode cX12_oneDay 162 = .ok (.iload_n 3, 1) := by decide +kernel
theorem dX12_oneDay_163 : decode cX12_oneDay 163 = .ok (.iconst 0, 1) := by decide +kernel
theorem dX12_oneDay_164 : decode cX12_oneDay 164 = .ok (.invokevirtual 73, 3) := by decide +kernel
theorem dX12_oneDay_167 : decode cX12_oneDay 167 = .ok (.invokevirtual 397, 3) := by decide +kernel
theorem dX12_oneDay_170 : decode cX12_oneDay 170 = .ok (.ifCond .eq 10, 3) := by decide +kernel
theorem dX12_oneDay_173 : decode cX12_oneDay 173 = .ok (.aload_n 0, 1) := by decide +kernel
theorem dX12_oneDay_174 : decode cX12_oneDay 174 = .ok (.iload_n 3, 1) := by decide +kernel
theorem dX12_oneDay_175 : decode cX12_oneDay 175 = .ok (.iload 4, 2) := by decide +kernel
theorem dX12_oneDay_177 : decode cX12_oneDay 177 = .ok (.invokevirtual 406, 3) := by decide +kernel
theorem dX12_oneDay_180 : decode cX12_oneDay 180 = .ok (.iinc 4 1, 3) := by decide +kernel
theorem dX12_oneDay_183 : decode cX12_oneDay 183 = .ok (.goto (-95), 3) := by decide +kernel
theorem dX12_oneDay_186 : decode cX12_oneDay 186 = .ok (.iinc 3 1, 3) := by decide +kernel
theorem dX12_oneDay_189 : decode cX12_oneDay 189 = .ok (.goto (-114), 3) := by decide +kernel
theorem dX12_oneDay_192 : decode cX12_oneDay 192 = .ok (.aload_n 0, 1) := by decide +kernel
theorem dX12_oneDay_193 : decode cX12_oneDay 193 = .ok (.getfield 13, 3) := by decide +kernel
theorem dX12_oneDay_196 : decode cX12_oneDay 196 = .ok (.iconst 3, 1) := by decide +kernel
theorem dX12_oneDay_197 : decode cX12_oneDay 197 = .ok (.sipush 9999, 3) := by decide +kernel
theorem dX12_oneDay_200 : decode cX12_oneDay 200 = .ok (.aload_n 0, 1) := by decide +kernel
theorem dX12_oneDay_201 : decode cX12_oneDay 201 = .ok (.getfield 13, 3) := by decide +kernel
theorem dX12_oneDay_204 : decode cX12_oneDay 204 = .ok (.iconst 3, 1) := by decide +kernel
theorem dX12_oneDay_205 : decode cX12_oneDay 205 = .ok (.iaload, 1) := by decide +kernel
theorem dX12_oneDay_206 : decode cX12_oneDay 206 = .ok (.iconst 1, 1) := by decide +kernel
theorem dX12_oneDay_207 : decode cX12_oneDay 207 = .ok (.iadd, 1) := by decide +kernel
theorem dX12_oneDay_208 : decode cX12_oneDay 208 = .ok (.invokestatic 283, 3) := by decide +kernel
theorem dX12_oneDay_211 : decode cX12_oneDay 211 = .ok (.iastore, 1) := by decide +kernel
theorem dX12_oneDay_212 : decode cX12_oneDay 212 = .ok (.aload_n 0, 1) := by decide +kernel
theorem dX12_oneDay_213 : decode cX12_oneDay 213 = .ok (.getfield 13, 3) := by decide +kernel
theorem dX12_oneDay_216 : decode cX12_oneDay 216 = .ok (.bipush 7, 2) := by decide +kernel
theorem dX12_oneDay_218 : decode cX12_oneDay 218 = .ok (.iaload, 1) := by decide +kernel
theorem dX12_oneDay_219 : decode cX12_oneDay 219 = .ok (.iload_n 2, 1) := by decide +kernel
theorem dX12_oneDay_220 : decode cX12_oneDay 220 = .ok (.isub, 1) := by decide +kernel
theorem dX12_oneDay_221 : decode cX12_oneDay 221 = .ok (.ireturn, 1) := by decide +kernel
theorem dX12_days_0 : decode cX12_days 0 = .ok (.aload_n 0, 1) := by decide +kernel
theorem dX12_days_1 : decode cX12_days 1 = .ok (.iconst 0, 1) := by decide +kernel
theorem dX12_days_2 : decode cX12_days 2 = .ok (.putfield 3, 3) := by decide +kernel
theorem dX12_days_5 : decode cX12_days 5 = .ok (.aload_n 0, 1) := by decide +kernel
theorem dX12_days_6 : decode cX12_days 6 = .ok (.iload_n 1, 1) := by decide +kernel
theorem dX12_days_7 : decode cX12_days 7 = .ok (.iconst 1, 1) := by decide +kernel
theorem dX12_days_8 : decode cX12_days 8 = .ok (.bipush 60, 2) := by decide +kernel
theorem dX12_days_10 : decode cX12_days 10 = .ok (.invokestatic 79, 3) := by decide +kernel
theorem dX12_days_13 : decode cX12_days 13 = .ok (.ifCond .ne 7, 3) := by decide +kernel
theorem dX12_days_16 : decode cX12_days 16 = .ok (.iconst 1, 1) := by decide +kernel
theorem dX12_days_17 : decode cX12_days 17 = .ok (.goto 4, 3) := by decide +kernel
theorem dX12_days_20 : decode cX12_days 20 = .ok (.iconst 0, 1) := by decide +kernel
theorem dX12_days_21 : decode cX12_days 21 = .ok (.iconst 1, 1) := by decide +kernel
theorem dX12_days_22 : decode cX12_days 22 = .ok (.invokevirtual 257, 3) := by decide +kernel
theorem dX12_days_25 : decode cX12_days 25 = .ok (.ifCond .eq 5, 3) := by decide +kernel
theorem dX12_days_28 : decode cX12_days 28 = .ok (.iconst 0, 1) := by decide +kernel
theorem dX12_days_29 : decode cX12_days 29 = .ok (.ireturn, 1) := by decide +kernel
theorem dX12_days_30 : decode cX12_days 30 = .ok (.aload_n 0, 1) := by decide +kernel
theorem dX12_days_31 : decode cX12_days 31 = .ok (.invokevirtual 333, 3) := by decide +kernel
theorem dX12_days_34 : decode cX12_days 34 = .ok (.iconst 0, 1) := by decide +kernel
theorem dX12_days_35 : decode cX12_days 35 = .ok (.istore_n 2, 1) := by decide +kernel
theorem dX12_days_36 : decode cX12_days 36 = .ok (.iconst 0, 1) := by decide +kernel
theorem dX12_days_37 : decode cX12_days 37 = .ok (.istore_n 3, 1) := by decide +kernel
theorem dX12_days_38 : decode cX12_days 38 = .ok (.iload_n 3, 1) := by decide +kernel
theorem dX12_days_39 : decode cX12_days 39 = .ok (.iload_n 1, 1) := by decide +kernel
theorem dX12_days_40 : decode cX12_days 40 = .ok (.if_icmp .ge 17, 3) := by decide +kernel
theorem dX12_days_43 : decode cX12_days 43 = .ok (.iload_n 2, 1) := by decide +kernel
theorem dX12_days_44 : decode cX12_days 44 = .ok (.aload_n 0, 1) := by decide +kernel
theorem dX12_days_45 : decode cX12_days 45 = .ok (.iconst 0, 1) := by decide +kernel
theorem dX12_days_46 : decode cX12_days 46 = .ok (.invokevirtual 409, 3) := by decide +kernel
theorem dX12_days_49 : decode cX12_days 49 = .ok (.iadd, 1) := by decide +kernel
theorem dX12_days_50 : decode cX12_days 50 = .ok (.istore_n 2, 1) := by decide +kernel
theorem dX12_days_51 : decode cX12_days 51 = .ok (.iinc 3 1, 3) := by decide +kernel
theorem dX12_days_54 : decode cX12_days 54 = .ok (.goto (-16), 3) := by decide +kernel
theorem dX12_days_57 : decode cX12_days 57 = .ok (.iload_n 2, 1) := by decide +kernel
theorem dX12_days_58 : decode cX12_days 58 = .ok (.ireturn, 1) := by decide +kernel
theorem dX12_ahead_0 : decode cX12_ahead 0 = .ok (.aload_n 0, 1) := by decide +kernel
theorem dX12_ahead_1 : decode cX12_ahead 1 = .ok (.iconst 0, 1) := by decide +kernel
theorem dX12_ahead_2 : decode cX12_ahead 2 = .ok (.putfield 3, 3) := by decide +kernel
theorem dX12_ahead_5 : decode cX12_ahead 5 = .ok (.aload_n 0, 1) := by decide +kernel
theorem dX12_ahead_6 : decode cX12_ahead 6 = .ok (.aload_n 0, 1) := by decide +kernel
theorem dX12_ahead_7 : decode cX12_ahead 7 = .ok (.iload_n 1, 1) := by decide +kernel
theorem dX12_ahead_8 : decode cX12_ahead 8 = .ok (.invokevirtual 297, 3) := by decide +kernel
theorem dX12_ahead_11 : decode cX12_ahead 11 = .ok (.iconst 1, 1) := by decide +kernel
theorem dX12_ahead_12 : decode cX12_ahead 12 = .ok (.invokevirtual 257, 3) := by decide +kernel
theorem dX12_ahead_15 : decode cX12_ahead 15 = .ok (.ifCond .ne 27, 3) := by decide +kernel
theorem dX12_ahead_18 : decode cX12_ahead 18 = .ok (.aload_n 0, 1) := by decide +kernel
theorem dX12_ahead_19 : decode cX12_ahead 19 = .ok (.iload_n 2, 1) := by decide +kernel
theorem dX12_ahead_20 : decode cX12_ahead 20 = .ok (.iconst 0, 1) := by decide +kernel
theorem dX12_ahead_21 : decode cX12_ahead 21 = .ok (.sipush 400, 3) := by decide +kernel
theorem dX12_ahead_24 : decode cX12_ahead 24 = .ok (.invokestatic 79, 3) := by decide +kernel
theorem dX12_ahead_27 : decode cX12_ahead 27 = .ok (.ifCond .ne 7, 3) := by decide +kernel
theorem dX12_ahead_30 : decode cX12_ahead 30 = .ok (.iconst 1, 1) := by decide +kernel
theorem dX12_ahead_31 : decode cX12_ahead 31 = .ok (.goto 4, 3) := by decide +kernel
theorem dX12_ahead_34 : decode cX12_ahead 34 = .ok (.iconst 0, 1) := by decide +kernel
theorem dX12_ahead_35 : decode cX12_ahead 35 = .ok (.iconst 2, 1) := by decide +kernel
theorem dX12_ahead_36 : decode cX12_ahead 36 = .ok (.invokevirtual 257, 3) := by decide +kernel
theorem dX12_ahead_39 : decode cX12_ahead 39 = .ok (.ifCond .eq 5, 3) := by decide +kernel
theorem dX12_ahead_42 : decode cX12_ahead 42 = .ok (.iconst 0, 1) := by decide +kernel
theorem dX12_ahead_43 : decode cX12_ahead 43 = .ok (.ireturn, 1) := by decide +kernel
theorem dX12_ahead_44 : decode cX12_ahead 44 = .ok (.aload_n 0, 1) := by decide +kernel
theorem dX12_ahead_45 : decode cX12_ahead 45 = .ok (.invokevirtual 339, 3) := by decide +kernel
theorem dX12_ahead_48 : decode cX12_ahead 48 = .ok (.iconst 0, 1) := by decide +kernel
theorem dX12_ahead_49 : decode cX12_ahead 49 = .ok (.istore 4, 2) := by decide +kernel
theorem dX12_ahead_51 : decode cX12_ahead 51 = .ok (.iload 4, 2) := by decide +kernel
theorem dX12_ahead_53 : decode cX12_ahead 53 = .ok (.iload_n 2, 1) := by decide +kernel
theorem dX12_ahead_54 : decode cX12_ahead 54 = .ok (.if_icmp .ge 15, 3) := by decide +kernel
theorem dX12_ahead_57 : decode cX12_ahead 57 = .ok (.aload_n 0, 1) := by decide +kernel
theorem dX12_ahead_58 : decode cX12_ahead 58 = .ok (.iconst 1, 1) := by decide +kernel
theorem dX12_ahead_59 : decode cX12_ahead 59 = .ok (.invokevirtual 409, 3) := by decide +kernel
theorem dX12_ahead_62 : decode cX12_ahead 62 = .ok (.pop, 1) := by decide +kernel
theorem dX12_ahead_63 : decode cX12_ahead 63 = .ok (.iinc 4 1, 3) := by decide +kernel
theorem dX12_ahead_66 : decode cX12_ahead 66 = .ok (.goto (-15), 3) := by decide +kernel
theorem dX12_ahead_69 : decode cX12_ahead 69 = .ok (.aload_n 0, 1) := by decide +kernel
theorem dX12_ahead_70 : decode cX12_ahead 70 = .ok (.iload_n 1, 1) := by decide +kernel
theorem dX12_ahead_71 : decode cX12_ahead 71 = .ok (.iload_n 3, 1) := by decide +kernel
theorem dX12_ahead_72 : decode cX12_ahead 72 = .ok (.ifCond .eq 7, 3) := by decide +kernel
theorem dX12_ahead_75 : decode cX12_ahead 75 = .ok (.iconst 2, 1) := by decide +kernel
theorem dX12_ahead_76 : decode cX12_ahead 76 = .ok (.goto 4, 3) := by decide +kernel
theorem dX12_ahead_79 : decode cX12_ahead 79 = .ok (.iconst 0, 1) := by decide +kernel
theorem dX12_ahead_80 : decode cX12_ahead 80 = .ok (.invokevirtual 73, 3) := by decide +kernel
theorem dX12_ahead_83 : decode cX12_ahead 83 = .ok (.istore 4, 2) := by decide +kernel
theorem dX12_ahead_85 : decode cX12_ahead 85 = .ok (.aload_n 0, 1) := by decide +kernel
theorem dX12_ahead_86 : decode cX12_ahead 86 = .ok (.invokevirtual 342, 3) := by decide +kernel
theorem dX12_ahead_89 : decode cX12_ahead 89 = .ok (.iload 4, 2) := by decide +kernel
theorem dX12_ahead_91 : decode cX12_ahead 91 = .ok (.ireturn, 1) := by decide +kernel
theorem dX12_calm_0 : decode cX12_calm 0 = .ok (.aload_n 0, 1) := by decide +kernel
theorem dX12_calm_1 : decode cX12_calm 1 = .ok (.iconst 0, 1) := by decide +kernel
theorem dX12_calm_2 : decode cX12_calm 2 = .ok (.putfield 3, 3) := by decide +kernel
theorem dX12_calm_5 : decode cX12_calm 5 = .ok (.aload_n 0, 1) := by decide +kernel
theorem dX12_calm_6 : decode cX12_calm 6 = .ok (.iload_n 1, 1) := by decide +kernel
theorem dX12_calm_7 : decode cX12_calm 7 = .ok (.iconst 0, 1) := by decide +kernel
theorem dX12_calm_8 : decode cX12_calm 8 = .ok (.sipush 400, 3) := by decide +kernel
theorem dX12_calm_11 : decode cX12_calm 11 = .ok (.invokestatic 79, 3) := by decide +kernel
theorem dX12_calm_14 : decode cX12_calm 14 = .ok (.ifCond .ne 7, 3) := by decide +kernel
theorem dX12_calm_17 : decode cX12_calm 17 = .ok (.iconst 1, 1) := by decide +kernel
theorem dX12_calm_18 : decode cX12_calm 18 = .ok (.goto 4, 3) := by decide +kernel
theorem dX12_calm_21 : decode cX12_calm 21 = .ok (.iconst 0, 1) := by decide +kernel
theorem dX12_calm_22 : decode cX12_calm 22 = .ok (.iconst 1, 1) := by decide +kernel
theorem dX12_calm_23 : decode cX12_calm 23 = .ok (.invokevirtual 257, 3) := by decide +kernel
theorem dX12_calm_26 : decode cX12_calm 26 = .ok (.ifCond .eq 5, 3) := by decide +kernel
theorem dX12_calm_29 : decode cX12_calm 29 = .ok (.iconst 0, 1) := by decide +kernel
theorem dX12_calm_30 : decode cX12_calm 30 = .ok (.ireturn, 1) := by decide +kernel
theorem dX12_calm_31 : decode cX12_calm 31 = .ok (.aload_n 0, 1) := by decide +kernel
theorem dX12_calm_32 : decode cX12_calm 32 = .ok (.invokevirtual 339, 3) := by decide +kernel
theorem dX12_calm_35 : decode cX12_calm 35 = .ok (.iconst 0, 1) := by decide +kernel
theorem dX12_calm_36 : decode cX12_calm 36 = .ok (.istore_n 2, 1) := by decide +kernel
theorem dX12_calm_37 : decode cX12_calm 37 = .ok (.iconst 0, 1) := by decide +kernel
theorem dX12_calm_38 : decode cX12_calm 38 = .ok (.istore_n 3, 1) := by decide +kernel
theorem dX12_calm_39 : decode cX12_calm 39 = .ok (.iload_n 3, 1) := by decide +kernel
theorem dX12_calm_40 : decode cX12_calm 40 = .ok (.iload_n 1, 1) := by decide +kernel
theorem dX12_calm_41 : decode cX12_calm 41 = .ok (.if_icmp .ge 25, 3) := by decide +kernel
theorem dX12_calm_44 : decode cX12_calm 44 = .ok (.iload_n 2, 1) := by decide +kernel
theorem dX12_calm_45 : decode cX12_calm 45 = .ok (.aload_n 0, 1) := by decide +kernel
theorem dX12_calm_46 : decode cX12_calm 46 = .ok (.iconst 1, 1) := by decide +kernel
theorem dX12_calm_47 : decode cX12_calm 47 = .ok (.invokevirtual 409, 3) := by decide +kernel
theorem dX12_calm_50 : decode cX12_calm 50 = .ok (.ifCond .ne 7, 3) := by decide +kernel
theorem dX12_calm_53 : decode cX12_calm 53 = .ok (.iconst 1, 1) := by decide +kernel
theorem dX12_calm_54 : decode cX12_calm 54 = .ok (.goto 4, 3) := by decide +kernel
theorem dX12_calm_57 : decode cX12_calm 57 = .ok (.iconst 0, 1) := by decide +kernel
theorem dX12_calm_58 : decode cX12_calm 58 = .ok (.iadd, 1) := by decide +kernel
theorem dX12_calm_59 : decode cX12_calm 59 = .ok (.istore_n 2, 1) := by decide +kernel
theorem dX12_calm_60 : decode cX12_calm 60 = .ok (.iinc 3 1, 3) := by decide +kernel
theorem dX12_calm_63 : decode cX12_calm 63 = .ok (.goto (-24), 3) := by decide +kernel
theorem dX12_calm_66 : decode cX12_calm 66 = .ok (.aload_n 0, 1) := by decide +kernel
theorem dX12_calm_67 : decode cX12_calm 67 = .ok (.invokevirtual 342, 3) := by decide +kernel
theorem dX12_calm_70 : decode cX12_calm 70 = .ok (.iload_n 2, 1) := by decide +kernel
theorem dX12_calm_71 : decode cX12_calm 71 = .ok (.ireturn, 1) := by decide +kernel
theorem dX12_isTold_0 : decode cX12_isTold 0 = .ok (.aload_n 0, 1) := by decide +kernel
theorem dX12_isTold_1 : decode cX12_isTold 1 = .ok (.getfield 90, 3) := by decide +kernel
theorem dX12_isTold_4 : decode cX12_isTold 4 = .ok (.iconst 3, 1) := by decide +kernel
theorem dX12_isTold_5 : decode cX12_isTold 5 = .ok (.irem, 1) := by decide +kernel
theorem dX12_isTold_6 : decode cX12_isTold 6 = .ok (.ifCond .ne 16, 3) := by decide +kernel
theorem dX12_isTold_9 : decode cX12_isTold 9 = .ok (.aload_n 0, 1) := by decide +kernel
theorem dX12_isTold_10 : decode cX12_isTold 10 = .ok (.getfield 90, 3) := by decide +kernel
theorem dX12_isTold_13 : decode cX12_isTold 13 = .ok (.bipush 36, 2) := by decide +kernel
theorem dX12_isTold_15 : decode cX12_isTold 15 = .ok (.if_icmp .gt 7, 3) := by decide +kernel
theorem dX12_isTold_18 : decode cX12_isTold 18 = .ok (.iconst 1, 1) := by decide +kernel
theorem dX12_isTold_19 : decode cX12_isTold 19 = .ok (.goto 4, 3) := by decide +kernel
theorem dX12_isTold_22 : decode cX12_isTold 22 = .ok (.iconst 0, 1) := by decide +kernel
theorem dX12_isTold_23 : decode cX12_isTold 23 = .ok (.istore_n 1, 1) := by decide +kernel
theorem dX12_isTold_24 : decode cX12_isTold 24 = .ok (.iconst 0, 1) := by decide +kernel
theorem dX12_isTold_25 : decode cX12_isTold 25 = .ok (.istore_n 2, 1) := by decide +kernel
theorem dX12_isTold_26 : decode cX12_isTold 26 = .ok (.iload_n 2, 1) := by decide +kernel
theorem dX12_isTold_27 : decode cX12_isTold 27 = .ok (.aload_n 0, 1) := by decide +kernel
theorem dX12_isTold_28 : decode cX12_isTold 28 = .ok (.getfield 90, 3) := by decide +kernel
theorem dX12_isTold_31 : decode cX12_isTold 31 = .ok (.if_icmp .ge 64, 3) := by decide +kernel
theorem dX12_isTold_34 : decode cX12_isTold 34 = .ok (.iload_n 1, 1) := by decide +kernel
theorem dX12_isTold_35 : decode cX12_isTold 35 = .ok (.ifCond .eq 60, 3) := by decide +kernel
theorem dX12_isTold_38 : decode cX12_isTold 38 = .ok (.aload_n 0, 1) := by decide +kernel
theorem dX12_isTold_39 : decode cX12_isTold 39 = .ok (.aload_n 0, 1) := by decide +kernel
theorem dX12_isTold_40 : decode cX12_isTold 40 = .ok (.getfield 29, 3) := by decide +kernel
theorem dX12_isTold_43 : decode cX12_isTold 43 = .ok (.iload_n 2, 1) := by decide +kernel
theorem dX12_isTold_44 : decode cX12_isTold 44 = .ok (.baload, 1) := by decide +kernel
theorem dX12_isTold_45 : decode cX12_isTold 45 = .ok (.invokevirtual 297, 3) := by decide +kernel
theorem dX12_isTold_48 : decode cX12_isTold 48 = .ok (.ifCond .ne 39, 3) := by decide +kernel
theorem dX12_isTold_51 : decode cX12_isTold 51 = .ok (.aload_n 0, 1) := by decide +kernel
theorem dX12_isTold_52 : decode cX12_isTold 52 = .ok (.aload_n 0, 1) := by decide +kernel
theorem dX12_isTold_53 : decode cX12_isTold 53 = .ok (.getfield 29, 3) := by decide +kernel
theorem dX12_isTold_56 : decode cX12_isTold 56 = .ok (.iload_n 2, 1) := by decide +kernel
theorem dX12_isTold_57 : decode cX12_isTold 57 = .ok (.iconst 1, 1) := by decide +kernel
theorem dX12_isTold_58 : decode cX12_isTold 58 = .ok (.iadd, 1) := by decide +kernel
theorem dX12_isTold_59 : decode cX12_isTold 59 = .ok (.baload, 1) := by decide +kernel
theorem dX12_isTold_60 : decode cX12_isTold 60 = .ok (.invokevirtual 297, 3) := by decide +kernel
theorem dX12_isTold_63 : decode cX12_isTold 63 = .ok (.ifCond .ne 24, 3) := by decide +kernel
theorem dX12_isTold_66 : decode cX12_isTold 66 = .ok (.aload_n 0, 1) := by decide +kernel
theorem dX12_isTold_67 : decode cX12_isTold 67 = .ok (.getfield 29, 3) := by decide +kernel
theorem dX12_isTold_70 : decode cX12_isTold 70 = .ok (.iload_n 2, 1) := by decide +kernel
theorem dX12_isTold_71 : decode cX12_isTold 71 = .ok (.baload, 1) := by decide +kernel
theorem dX12_isTold_72 : decode cX12_isTold 72 = .ok (.aload_n 0, 1) := by decide +kernel
theorem dX12_isTold_73 : decode cX12_isTold 73 = .ok (.getfield 29, 3) := by decide +kernel
theorem dX12_isTold_76 : decode cX12_isTold 76 = .ok (.iload_n 2, 1) := by decide +kernel
theorem dX12_isTold_77 : decode cX12_isTold 77 = .ok (.iconst 1, 1) := by decide +kernel
theorem dX12_isTold_78 : decode cX12_isTold 78 = .ok (.iadd, 1) := by decide +kernel
theorem dX12_isTold_79 : decode cX12_isTold 79 = .ok (.baload, 1) := by decide +kernel
theorem dX12_isTold_80 : decode cX12_isTold 80 = .ok (.if_icmp .gt 7, 3) := by decide +kernel
theorem dX12_isTold_83 : decode cX12_isTold 83 = .ok (.iconst 1, 1) := by decide +kernel
theorem dX12_isTold_84 : decode cX12_isTold 84 = .ok (.goto 4, 3) := by decide +kernel
theorem dX12_isTold_87 : decode cX12_isTold 87 = .ok (.iconst 0, 1) := by decide +kernel
theorem dX12_isTold_88 : decode cX12_isTold 88 = .ok (.istore_n 1, 1) := by decide +kernel
theorem dX12_isTold_89 : decode cX12_isTold 89 = .ok (.iinc 2 3, 3) := by decide +kernel
theorem dX12_isTold_92 : decode cX12_isTold 92 = .ok (.goto (-66), 3) := by decide +kernel
theorem dX12_isTold_95 : decode cX12_isTold 95 = .ok (.iload_n 1, 1) := by decide +kernel
theorem dX12_isTold_96 : decode cX12_isTold 96 = .ok (.ireturn, 1) := by decide +kernel
theorem dX12_fits_0 : decode cX12_fits 0 = .ok (.iconst 1, 1) := by decide +kernel
theorem dX12_fits_1 : decode cX12_fits 1 = .ok (.istore_n 2, 1) := by decide +kernel
theorem dX12_fits_2 : decode cX12_fits 2 = .ok (.iconst 0, 1) := by decide +kernel
theorem dX12_fits_3 : decode cX12_fits 3 = .ok (.istore_n 3, 1) := by decide +kernel
theorem dX12_fits_4 : decode cX12_fits 4 = .ok (.iload_n 3, 1) := by decide +kernel
theorem dX12_fits_5 : decode cX12_fits 5 = .ok (.aload_n 0, 1) := by decide +kernel
theorem dX12_fits_6 : decode cX12_fits 6 = .ok (.getfield 90, 3) := by decide +kernel
theorem dX12_fits_9 : decode cX12_fits 9 = .ok (.if_icmp .ge 64, 3) := by decide +kernel
theorem dX12_fits_12 : decode cX12_fits 12 = .ok (.iconst 1, 1) := by decide +kernel
theorem dX12_fits_13 : decode cX12_fits 13 = .ok (.aload_n 0, 1) := by decide +kernel
theorem dX12_fits_14 : decode cX12_fits 14 = .ok (.getfield 29, 3) := by decide +kernel
theorem dX12_fits_17 : decode cX12_fits 17 = .ok (.iload_n 3, 1) := by decide +kernel
theorem dX12_fits_18 : decode cX12_fits 18 = .ok (.iconst 1, 1) := by decide +kernel
theorem dX12_fits_19 : decode cX12_fits 19 = .ok (.iadd, 1) := by decide +kernel
theorem dX12_fits_20 : decode cX12_fits 20 = .ok (.baload, 1) := by decide +kernel
theorem dX12_fits_21 : decode cX12_fits 21 = .ok (.iconst 1, 1) := by decide +kernel
theorem dX12_fits_22 : decode cX12_fits 22 = .ok (.iadd, 1) := by decide +kernel
theorem dX12_fits_23 : decode cX12_fits 23 = .ok (.ishl, 1) := by decide +kernel
theorem dX12_fits_24 : decode cX12_fits 24 = .ok (.iconst 1, 1) := by decide +kernel
theorem dX12_fits_25 : decode cX12_fits 25 = .ok (.aload_n 0, 1) := by decide +kernel
theorem dX12_fits_26 : decode cX12_fits 26 = .ok (.getfield 29, 3) := by decide +kernel
theorem dX12_fits_29 : decode cX12_fits 29 = .ok (.iload_n 3, 1) := by decide +kernel
theorem dX12_fits_30 : decode cX12_fits 30 = .ok (.baload, 1) := by decide +kernel
theorem dX12_fits_31 : decode cX12_fits 31 = .ok (.ishl, 1) := by decide +kernel
theorem dX12_fits_32 : decode cX12_fits 32 = .ok (.isub, 1) := by decide +kernel
theorem dX12_fits_33 : decode cX12_fits 33 = .ok (.istore 4, 2) := by decide +kernel
theorem dX12_fits_35 : decode cX12_fits 35 = .ok (.iload_n 2, 1) := by decide +kernel
theorem dX12_fits_36 : decode cX12_fits 36 = .ok (.ifCond .eq 29, 3) := by decide +kernel
theorem dX12_fits_39 : decode cX12_fits 39 = .ok (.iload_n 1, 1) := by decide +kernel
theorem dX12_fits_40 : decode cX12_fits 40 = .ok (.iload 4, 2) := by decide +kernel
theorem dX12_fits_42 : decode cX12_fits 42 = .ok (.iand, 1) := by decide +kernel
theorem dX12_fits_43 : decode cX12_fits 43 = .ok (.invokestatic 318, 3) := by decide +kernel
theorem dX12_fits_46 : decode cX12_fits 46 = .ok (.aload_n 0, 1) := by decide +kernel
theorem dX12_fits_47 : decode cX12_fits 47 = .ok (.getfield 29, 3) := by decide +kernel
theorem dX12_fits_50 : decode cX12_fits 50 = .ok (.iload_n 3, 1) := by decide +kernel
theorem dX12_fits_51 : decode cX12_fits 51 = .ok (.iconst 2, 1) := by decide +kernel
theorem dX12_fits_52 : decode cX12_fits 52 = .ok (.iadd, 1) := by decide +kernel
theorem dX12_fits_53 : decode cX12_fits 53 = .ok (.baload, 1) := by decide +kernel
theorem dX12_fits_54 : decode cX12_fits 54 = .ok (.sipush 255, 3) := by decide +kernel
theorem dX12_fits_57 : decode cX12_fits 57 = .ok (.iand, 1) := by decide +kernel
theorem dX12_fits_58 : decode cX12_fits 58 = .ok (.if_icmp .ne 7, 3) := by decide +kernel
theorem dX12_fits_61 : decode cX12_fits 61 = .ok (.iconst 1, 1) := by decide +kernel
theorem dX12_fits_62 : decode cX12_fits 62 = .ok (.goto 4, 3) := by decide +kernel
theorem dX12_fits_65 : decode cX12_fits 65 = .ok (.iconst 0, 1) := by decide +kernel
theorem dX12_fits_66 : decode cX12_fits 66 = .ok (.istore_n 2, 1) := by decide +kernel
theorem dX12_fits_67 : decode cX12_fits 67 = .ok (.iinc 3 3, 3) := by decide +kernel
theorem dX12_fits_70 : decode cX12_fits 70 = .ok (.goto (-66), 3) := by decide +kernel
theorem dX12_fits_73 : decode cX12_fits 73 = .ok (.iload_n 2, 1) := by decide +kernel
theorem dX12_fits_74 : decode cX12_fits 74 = .ok (.ireturn, 1) := by decide +kernel
theorem dX12_drank_0 : decode cX12_drank 0 = .ok (.aload_n 0, 1) := by decide +kernel
theorem dX12_drank_1 : decode cX12_drank 1 = .ok (.invokevirtual 246, 3) := by decide +kernel
theorem dX12_drank_4 : decode cX12_drank 4 = .ok (.aload_n 0, 1) := by decide +kernel
theorem dX12_drank_5 : decode cX12_drank 5 = .ok (.aload_n 0, 1) := by decide +kernel
theorem dX12_drank_6 : decode cX12_drank 6 = .ok (.invokevirtual 412, 3) := by decide +kernel
theorem dX12_drank_9 : decode cX12_drank 9 = .ok (.ifCond .ne 7, 3) := by decide +kernel
theorem dX12_drank_12 : decode cX12_drank 12 = .ok (.iconst 1, 1) := by decide +kernel
theorem dX12_drank_13 : decode cX12_drank 13 = .ok (.goto 4, 3) := by decide +kernel
theorem dX12_drank_16 : decode cX12_drank 16 = .ok (.iconst 0, 1) := by decide +kernel
theorem dX12_drank_17 : decode cX12_drank 17 = .ok (.iconst 1, 1) := by decide +kernel
theorem dX12_drank_18 : decode cX12_drank 18 = .ok (.invokevirtual 257, 3) := by decide +kernel
theorem dX12_drank_21 : decode cX12_drank 21 = .ok (.ifCond .eq 5, 3) := by decide +kernel
theorem dX12_drank_24 : decode cX12_drank 24 = .ok (.iconst 0, 1) := by decide +kernel
theorem dX12_drank_25 : decode cX12_drank 25 = .ok (.ireturn, 1) := by decide +kernel
theorem dX12_drank_26 : decode cX12_drank 26 = .ok (.iconst 0, 1) := by decide +kernel
theorem dX12_drank_27 : decode cX12_drank 27 = .ok (.istore_n 2, 1) := by decide +kernel
theorem dX12_drank_28 : decode cX12_drank 28 = .ok (.aload_n 0, 1) := by decide +kernel
theorem dX12_drank_29 : decode cX12_drank 29 = .ok (.invokevirtual 327, 3) := by decide +kernel
theorem dX12_drank_32 : decode cX12_drank 32 = .ok (.istore_n 3, 1) := by decide +kernel
theorem dX12_drank_33 : decode cX12_drank 33 = .ok (.iconst 0, 1) := by decide +kernel
theorem dX12_drank_34 : decode cX12_drank 34 = .ok (.istore 4, 2) := by decide +kernel
theorem dX12_drank_36 : decode cX12_drank 36 = .ok (.iload 4, 2) := by decide +kernel
theorem dX12_drank_38 : decode cX12_drank 38 = .ok (.aload_n 0, 1) := by decide +kernel
theorem dX12_drank_39 : decode cX12_drank 39 = .ok (.invokevirtual 327, 3) := by decide +kernel
theorem dX12_drank_42 : decode cX12_drank 42 = .ok (.if_icmp .gt 29, 3) := by decide +kernel
theorem dX12_drank_45 : decode cX12_drank 45 = .ok (.aload_n 0, 1) := by decide +kernel
theorem dX12_drank_46 : decode cX12_drank 46 = .ok (.iload 4, 2) := by decide +kernel
theorem dX12_drank_48 : decode cX12_drank 48 = .ok (.invokevirtual 415, 3) := by decide +kernel
theorem dX12_drank_51 : decode cX12_drank 51 = .ok (.ifCond .ne 6, 3) := by decide +kernel
theorem dX12_drank_54 : decode cX12_drank 54 = .ok (.goto 11, 3) := by decide +kernel
theorem dX12_drank_57 : decode cX12_drank 57 = .ok (.iinc 2 1, 3) := by decide +kernel
theorem dX12_drank_60 : decode cX12_drank 60 = .ok (.iload_n 3, 1) := by decide +kernel
theorem dX12_drank_61 : decode cX12_drank 61 = .ok (.iload 4, 2) := by decide +kernel
theorem dX12_drank_63 : decode cX12_drank 63 = .ok (.iand, 1) := by decide +kernel
theorem dX12_drank_64 : decode cX12_drank 64 = .ok (.istore_n 3, 1) := by decide +kernel
theorem dX12_drank_65 : decode cX12_drank 65 = .ok (.iinc 4 1, 3) := by decide +kernel
theorem dX12_drank_68 : decode cX12_drank 68 = .ok (.goto (-32), 3) := by decide +kernel
theorem dX12_drank_71 : decode cX12_drank 71 = .ok (.iload_n 1, 1) := by decide +kernel
theorem dX12_drank_72 : decode cX12_drank 72 = .ok (.ifCond .ne 7, 3) := by decide +kernel
theorem dX12_drank_75 : decode cX12_drank 75 = .ok (.iload_n 2, 1) := by decide +kernel
theorem dX12_drank_76 : decode cX12_drank 76 = .ok (.goto 12, 3) := by decide +kernel
theorem dX12_drank_79 : decode cX12_drank 79 = .ok (.iload_n 2, 1) := by decide +kernel
theorem dX12_drank_80 : decode cX12_drank 80 = .ok (.ifCond .ne 7, 3) := by decide +kernel
theorem dX12_drank_83 : decode cX12_drank 83 = .ok (.iconst 0, 1) := by decide +kernel
theorem dX12_drank_84 : decode cX12_drank 84 = .ok (.goto 4, 3) := by decide +kernel
theorem dX12_drank_87 : decode cX12_drank 87 = .ok (.iload_n 3, 1) := by decide +kernel
theorem dX12_drank_88 : decode cX12_drank 88 = .ok (.ireturn, 1) := by decide +kernel
theorem dX12_look_0 : decode cX12_look 0 = .ok (.aload_n 0, 1) := by decide +kernel
theorem dX12_look_1 : decode cX12_look 1 = .ok (.invokevirtual 246, 3) := by decide +kernel
theorem dX12_look_4 : decode cX12_look 4 = .ok (.aload_n 0, 1) := by decide +kernel
theorem dX12_look_5 : decode cX12_look 5 = .ok (.aload_n 0, 1) := by decide +kernel
theorem dX12_look_6 : decode cX12_look 6 = .ok (.invokevirtual 412, 3) := by decide +kernel
theorem dX12_look_9 : decode cX12_look 9 = .ok (.ifCond .ne 7, 3) := by decide +kernel
theorem dX12_look_12 : decode cX12_look 12 = .ok (.iconst 1, 1) := by decide +kernel
theorem dX12_look_13 : decode cX12_look 13 = .ok (.goto 4, 3) := by decide +kernel
theorem dX12_look_16 : decode cX12_look 16 = .ok (.iconst 0, 1) := by decide +kernel
theorem dX12_look_17 : decode cX12_look 17 = .ok (.iconst 1, 1) := by decide +kernel
theorem dX12_look_18 : decode cX12_look 18 = .ok (.invokevirtual 257, 3) := by decide +kernel
theorem dX12_look_21 : decode cX12_look 21 = .ok (.ifCond .eq 5, 3) := by decide +kernel
theorem dX12_look_24 : decode cX12_look 24 = .ok (.iconst 0, 1) := by decide +kernel
theorem dX12_look_25 : decode cX12_look 25 = .ok (.ireturn, 1) := by decide +kernel
theorem dX12_look_26 : decode cX12_look 26 = .ok (.iconst (-1), 1) := by decide +kernel
theorem dX12_look_27 : decode cX12_look 27 = .ok (.istore_n 1, 1) := by decide +kernel
theorem dX12_look_28 : decode cX12_look 28 = .ok (.ldc_w 375, 3) := by decide +kernel
theorem dX12_look_31 : decode cX12_look 31 = .ok (.istore_n 2, 1) := by decide +kernel
theorem dX12_look_32 : decode cX12_look 32 = .ok (.iconst 0, 1) := by decide +kernel
theorem dX12_look_33 : decode cX12_look 33 = .ok (.istore_n 3, 1) := by decide +kernel
theorem dX12_look_34 : decode cX12_look 34 = .ok (.iload_n 3, 1) := by decide +kernel
theorem dX12_look_35 : decode cX12_look 35 = .ok (.aload_n 0, 1) := by decide +kernel
theorem dX12_look_36 : decode cX12_look 36 = .ok (.invokevirtual 58, 3) := by decide +kernel
theorem dX12_look_39 : decode cX12_look 39 = .ok (.if_icmp .ge 91, 3) := by decide +kernel
theorem dX12_look_42 : decode cX12_look 42 = .ok (.iconst 0, 1) := by decide +kernel
theorem dX12_look_43 : decode cX12_look 43 = .ok (.istore 4, 2) := by decide +kernel
theorem dX12_look_45 : decode cX12_look 45 = .ok (.iconst 0, 1) := by decide +kernel
theorem dX12_look_46 : decode cX12_look 46 = .ok (.istore 5, 2) := by decide +kernel
theorem dX12_look_48 : decode cX12_look 48 = .ok (.iconst 0, 1) := by decide +kernel
theorem dX12_look_49 : decode cX12_look 49 = .ok (.istore 6, 2) := by decide +kernel
theorem dX12_look_51 : decode cX12_look 51 = .ok (.iload 6, 2) := by decide +kernel
theorem dX12_look_53 : decode cX12_look 53 = .ok (.aload_n 0, 1) := by decide +kernel
theorem dX12_look_54 : decode cX12_look 54 = .ok (.invokevirtual 327, 3) := by decide +kernel
theorem dX12_look_57 : decode cX12_look 57 = .ok (.if_icmp .gt 35, 3) := by decide +kernel
theorem dX12_look_60 : decode cX12_look 60 = .ok (.aload_n 0, 1) := by decide +kernel
theorem dX12_look_61 : decode cX12_look 61 = .ok (.iload 6, 2) := by decide +kernel
theorem dX12_look_63 : decode cX12_look 63 = .ok (.invokevirtual 415, 3) := by decide +kernel
theorem dX12_look_66 : decode cX12_look 66 = .ok (.ifCond .ne 6, 3) := by decide +kernel
theorem dX12_look_69 : decode cX12_look 69 = .ok (.goto 17, 3) := by decide +kernel
theorem dX12_look_72 : decode cX12_look 72 = .ok (.iinc 4 1, 3) := by decide +kernel
theorem dX12_look_75 : decode cX12_look 75 = .ok (.iload 5, 2) := by decide +kernel
theorem dX12_look_77 : decode cX12_look 77 = .ok (.iload 6, 2) := by decide +kernel
theorem dX12_look_79 : decode cX12_look 79 = .ok (.iload_n 3, 1) := by decide +kernel
theorem dX12_look_80 : decode cX12_look 80 = .ok (.ishr, 1) := by decide +kernel
theorem dX12_look_81 : decode cX12_look 81 = .ok (.iconst 1, 1) := by decide +kernel
theorem dX12_look_82 : decode cX12_look 82 = .ok (.iand, 1) := by decide +kernel
theorem dX12_look_83 : decode cX12_look 83 = .ok (.iadd, 1) := by decide +kernel
theorem dX12_look_84 : decode cX12_look 84 = .ok (.istore 5, 2) := by decide +kernel
theorem dX12_look_86 : decode cX12_look 86 = .ok (.iinc 6 1, 3) := by decide +kernel
theorem dX12_look_89 : decode cX12_look 89 = .ok (.goto (-38), 3) := by decide +kernel
theorem dX12_look_92 : decode cX12_look 92 = .ok (.iload 5, 2) := by decide +kernel
theorem dX12_look_94 : decode cX12_look 94 = .ok (.iload 4, 2) := by decide +kernel
theorem dX12_look_96 : decode cX12_look 96 = .ok (.iload 5, 2) := by decide +kernel
theorem dX12_look_98 : decode cX12_look 98 = .ok (.isub, 1) := by decide +kernel
theorem dX12_look_99 : decode cX12_look 99 = .ok (.invokestatic 288, 3) := by decide +kernel
theorem dX12_look_102 : decode cX12_look 102 = .ok (.istore 6, 2) := by decide +kernel
theorem dX12_look_104 : decode cX12_look 104 = .ok (.iload 4, 2) := by decide +kernel
theorem dX12_look_106 : decode cX12_look 106 = .ok (.iconst 2, 1) := by decide +kernel
theorem dX12_look_107 : decode cX12_look 107 = .ok (.if_icmp .lt 17, 3) := by decide +kernel
theorem dX12_look_110 : decode cX12_look 110 = .ok (.iload 6, 2) := by decide +kernel
theorem dX12_look_112 : decode cX12_look 112 = .ok (.iload_n 2, 1) := by decide +kernel
theorem dX12_look_113 : decode cX12_look 113 = .ok (.if_icmp .lt 6, 3) := by decide +kernel
theorem dX12_look_116 : decode cX12_look 116 = .ok (.goto 8, 3) := by decide +kernel
theorem dX12_look_119 : decode cX12_look 119 = .ok (.iload_n 3, 1) := by decide +kernel
theorem dX12_look_120 : decode cX12_look 120 = .ok (.istore_n 1, 1) := by decide +kernel
theorem dX12_look_121 : decode cX12_look 121 = .ok (.iload 6, 2) := by decide +kernel
theorem dX12_look_123 : decode cX12_look 123 = .ok (.istore_n 2, 1) := by decide +kernel
theorem dX12_look_124 : decode cX12_look 124 = .ok (.iinc 3 1, 3) := by decide +kernel
theorem dX12_look_127 : decode cX12_look 127 = .ok (.goto (-93), 3) := by decide +kernel
theorem dX12_look_130 : decode cX12_look 130 = .ok (.iload_n 1, 1) := by decide +kernel
theorem dX12_look_131 : decode cX12_look 131 = .ok (.ireturn, 1) := by decide +kernel
theorem dX12_stepsBy_0 : decode cX12_stepsBy 0 = .ok (.iconst 0, 1) := by decide +kernel
theorem dX12_stepsBy_1 : decode cX12_stepsBy 1 = .ok (.istore 4, 2) := by decide +kernel
theorem dX12_stepsBy_3 : decode cX12_stepsBy 3 = .ok (.iload_n 1, 1) := by decide +kernel
theorem dX12_stepsBy_4 : decode cX12_stepsBy 4 = .ok (.istore 5, 2) := by decide +kernel
theorem dX12_stepsBy_6 : decode cX12_stepsBy 6 = .ok (.iload 5, 2) := by decide +kernel
theorem dX12_stepsBy_8 : decode cX12_stepsBy 8 = .ok (.iload_n 2, 1) := by decide +kernel
theorem dX12_stepsBy_9 : decode cX12_stepsBy 9 = .ok (.if_icmp .eq 31, 3) := by decide +kernel
theorem dX12_stepsBy_12 : decode cX12_stepsBy 12 = .ok (.iload 5, 2) := by decide +kernel
theorem dX12_stepsBy_14 : decode cX12_stepsBy 14 = .ok (.iload_n 3, 1) := by decide +kernel
theorem dX12_stepsBy_15 : decode cX12_stepsBy 15 = .ok (.iadd, 1) := by decide +kernel
theorem dX12_stepsBy_16 : decode cX12_stepsBy 16 = .ok (.bipush 6, 2) := by decide +kernel
theorem dX12_stepsBy_18 : decode cX12_stepsBy 18 = .ok (.irem, 1) := by decide +kernel
theorem dX12_stepsBy_19 : decode cX12_stepsBy 19 = .ok (.istore 5, 2) := by decide +kernel
theorem dX12_stepsBy_21 : decode cX12_stepsBy 21 = .ok (.aload_n 0, 1) := by decide +kernel
theorem dX12_stepsBy_22 : decode cX12_stepsBy 22 = .ok (.iload 5, 2) := by decide +kernel
theorem dX12_stepsBy_24 : decode cX12_stepsBy 24 = .ok (.invokevirtual 397, 3) := by decide +kernel
theorem dX12_stepsBy_27 : decode cX12_stepsBy 27 = .ok (.ifCond .eq 7, 3) := by decide +kernel
theorem dX12_stepsBy_30 : decode cX12_stepsBy 30 = .ok (.ldc_w 375, 3) := by decide +kernel
theorem dX12_stepsBy_33 : decode cX12_stepsBy 33 = .ok (.ireturn, 1) := by decide +kernel
theorem dX12_stepsBy_34 : decode cX12_stepsBy 34 = .ok (.iinc 4 1, 3) := by decide +kernel
theorem dX12_stepsBy_37 : decode cX12_stepsBy 37 = .ok (.goto (-31), 3) := by decide +kernel
theorem dX12_stepsBy_40 : decode cX12_stepsBy 40 = .ok (.iload 4, 2) := by decide +kernel
theorem dX12_stepsBy_42 : decode cX12_stepsBy 42 = .ok (.ireturn, 1) := by decide +kernel
theorem dX12_wayOf_0 : decode cX12_wayOf 0 = .ok (.aload_n 0, 1) := by decide +kernel
theorem dX12_wayOf_1 : decode cX12_wayOf 1 = .ok (.aload_n 0, 1) := by decide +kernel
theorem dX12_wayOf_2 : decode cX12_wayOf 2 = .ok (.iload_n 1, 1) := by decide +kernel
theorem dX12_wayOf_3 : decode cX12_wayOf 3 = .ok (.iconst 0, 1) := by decide +kernel
theorem dX12_wayOf_4 : decode cX12_wayOf 4 = .ok (.invokevirtual 73, 3) := by decide +kernel
theorem dX12_wayOf_7 : decode cX12_wayOf 7 = .ok (.iload_n 2, 1) := by decide +kernel
theorem dX12_wayOf_8 : decode cX12_wayOf 8 = .ok (.iconst 1, 1) := by decide +kernel
theorem dX12_wayOf_9 : decode cX12_wayOf 9 = .ok (.invokevirtual 418, 3) := by decide +kernel
theorem dX12_wayOf_12 : decode cX12_wayOf 12 = .ok (.aload_n 0, 1) := by decide +kernel
theorem dX12_wayOf_13 : decode cX12_wayOf 13 = .ok (.aload_n 0, 1) := by decide +kernel
theorem dX12_wayOf_14 : decode cX12_wayOf 14 = .ok (.iload_n 1, 1) := by decide +kernel
theorem dX12_wayOf_15 : decode cX12_wayOf 15 = .ok (.iconst 0, 1) := by decide +kernel
theorem dX12_wayOf_16 : decode cX12_wayOf 16 = .ok (.invokevirtual 73, 3) := by decide +kernel
theorem dX12_wayOf_19 : decode cX12_wayOf 19 = .ok (.iload_n 2, 1) := by decide +kernel
theorem dX12_wayOf_20 : decode cX12_wayOf 20 = .ok (.iconst 5, 1) := by decide +kernel
theorem dX12_wayOf_21 : decode cX12_wayOf 21 = .ok (.invokevirtual 418, 3) := by decide +kernel
theorem dX12_wayOf_24 : decode cX12_wayOf 24 = .ok (.invokestatic 283, 3) := by decide +kernel
theorem dX12_wayOf_27 : decode cX12_wayOf 27 = .ok (.ireturn, 1) := by decide +kernel
theorem dX12_way_0 : decode cX12_way 0 = .ok (.aload_n 0, 1) := by decide +kernel
theorem dX12_way_1 : decode cX12_way 1 = .ok (.iconst 0, 1) := by decide +kernel
theorem dX12_way_2 : decode cX12_way 2 = .ok (.putfield 3, 3) := by decide +kernel
theorem dX12_way_5 : decode cX12_way 5 = .ok (.aload_n 0, 1) := by decide +kernel
theorem dX12_way_6 : decode cX12_way 6 = .ok (.aload_n 0, 1) := by decide +kernel
theorem dX12_way_7 : decode cX12_way 7 = .ok (.iload_n 1, 1) := by decide +kernel
theorem dX12_way_8 : decode cX12_way 8 = .ok (.invokevirtual 297, 3) := by decide +kernel
theorem dX12_way_11 : decode cX12_way 11 = .ok (.ifCond .ne 10, 3) := by decide +kernel
theorem dX12_way_14 : decode cX12_way 14 = .ok (.iload_n 2, 1) := by decide +kernel
theorem dX12_way_15 : decode cX12_way 15 = .ok (.invokestatic 133, 3) := by decide +kernel
theorem dX12_way_18 : decode cX12_way 18 = .ok (.ifCond .eq 7, 3) := by decide +kernel
theorem dX12_way_21 : decode cX12_way 21 = .ok (.iconst 1, 1) := by decide +kernel
theorem dX12_way_22 : decode cX12_way 22 = .ok (.goto 4, 3) := by decide +kernel
theorem dX12_way_25 : decode cX12_way 25 = .ok (.iconst 0, 1) := by decide +kernel
theorem dX12_way_26 : decode cX12_way 26 = .ok (.iconst 1, 1) := by decide +kernel
theorem dX12_way_27 : decode cX12_way 27 = .ok (.invokevirtual 257, 3) := by decide +kernel
theorem dX12_way_30 : decode cX12_way 30 = .ok (.ifCond .eq 5, 3) := by decide +kernel
theorem dX12_way_33 : decode cX12_way 33 = .ok (.iconst 0, 1) := by decide +kernel
theorem dX12_way_34 : decode cX12_way 34 = .ok (.ireturn, 1) := by decide +kernel
theorem dX12_way_35 : decode cX12_way 35 = .ok (.aload_n 0, 1) := by decide +kernel
theorem dX12_way_36 : decode cX12_way 36 = .ok (.iload_n 1, 1) := by decide +kernel
theorem dX12_way_37 : decode cX12_way 37 = .ok (.iload_n 2, 1) := by decide +kernel
theorem dX12_way_38 : decode cX12_way 38 = .ok (.invokevirtual 422, 3) := by decide +kernel
theorem dX12_way_41 : decode cX12_way 41 = .ok (.istore_n 3, 1) := by decide +kernel
theorem dX12_way_42 : decode cX12_way 42 = .ok (.iload_n 3, 1) := by decide +kernel
theorem dX12_way_43 : decode cX12_way 43 = .ok (.ldc_w 375, 3) := by decide +kernel
theorem dX12_way_46 : decode cX12_way 46 = .ok (.if_icmp .lt 7, 3) := by decide +kernel
theorem dX12_way_49 : decode cX12_way 49 = .ok (.iconst (-1), 1) := by decide +kernel
theorem dX12_way_50 : decode cX12_way 50 = .ok (.goto 4, 3) := by decide +kernel
theorem dX12_way_53 : decode cX12_way 53 = .ok (.iload_n 3, 1) := by decide +kernel
theorem dX12_way_54 : decode cX12_way 54 = .ok (.ireturn, 1) := by decide +kernel
theorem dX12_unseen_0 : decode cX12_unseen 0 = .ok (.aload_n 0, 1) := by decide +kernel
theorem dX12_unseen_1 : decode cX12_unseen 1 = .ok (.iconst 0, 1) := by decide +kernel
theorem dX12_unseen_2 : decode cX12_unseen 2 = .ok (.putfield 3, 3) := by decide +kernel
theorem dX12_unseen_5 : decode cX12_unseen 5 = .ok (.aload_n 0, 1) := by decide +kernel
theorem dX12_unseen_6 : decode cX12_unseen 6 = .ok (.aload_n 0, 1) := by decide +kernel
theorem dX12_unseen_7 : decode cX12_unseen 7 = .ok (.iload_n 1, 1) := by decide +kernel
theorem dX12_unseen_8 : decode cX12_unseen 8 = .ok (.iload_n 2, 1) := by decide +kernel
theorem dX12_unseen_9 : decode cX12_unseen 9 = .ok (.invokevirtual 300, 3) := by decide +kernel
theorem dX12_unseen_12 : decode cX12_unseen 12 = .ok (.iconst 1, 1) := by decide +kernel
theorem dX12_unseen_13 : decode cX12_unseen 13 = .ok (.invokevirtual 257, 3) := by decide +kernel
theorem dX12_unseen_16 : decode cX12_unseen 16 = .ok (.ifCond .ne 21, 3) := by decide +kernel
theorem dX12_unseen_19 : decode cX12_unseen 19 = .ok (.aload_n 0, 1) := by decide +kernel
theorem dX12_unseen_20 : decode cX12_unseen 20 = .ok (.iload_n 1, 1) := by decide +kernel
theorem dX12_unseen_21 : decode cX12_unseen 21 = .ok (.iload_n 2, 1) := by decide +kernel
theorem dX12_unseen_22 : decode cX12_unseen 22 = .ok (.if_icmp .ne 7, 3) := by decide +kernel
theorem dX12_unseen_25 : decode cX12_unseen 25 = .ok (.iconst 1, 1) := by decide +kernel
theorem dX12_unseen_26 : decode cX12_unseen 26 = .ok (.goto 4, 3) := by decide +kernel
theorem dX12_unseen_29 : decode cX12_unseen 29 = .ok (.iconst 0, 1) := by decide +kernel
theorem dX12_unseen_30 : decode cX12_unseen 30 = .ok (.iconst 2, 1) := by decide +kernel
theorem dX12_unseen_31 : decode cX12_unseen 31 = .ok (.invokevirtual 257, 3) := by decide +kernel
theorem dX12_unseen_34 : decode cX12_unseen 34 = .ok (.ifCond .eq 5, 3) := by decide +kernel
theorem dX12_unseen_37 : decode cX12_unseen 37 = .ok (.iconst 0, 1) := by decide +kernel
theorem dX12_unseen_38 : decode cX12_unseen 38 = .ok (.ireturn, 1) := by decide +kernel
theorem dX12_unseen_39 : decode cX12_unseen 39 = .ok (.iconst (-1), 1) := by decide +kernel
theorem dX12_unseen_40 : decode cX12_unseen 40 = .ok (.istore_n 3, 1) := by decide +kernel
theorem dX12_unseen_41 : decode cX12_unseen 41 = .ok (.ldc_w 375, 3) := by decide +kernel
theorem dX12_unseen_44 : decode cX12_unseen 44 = .ok (.istore 4, 2) := by decide +kernel
theorem dX12_unseen_46 : decode cX12_unseen 46 = .ok (.iconst 0, 1) := by decide +kernel
theorem dX12_unseen_47 : decode cX12_unseen 47 = .ok (.istore 5, 2) := by decide +kernel
theorem dX12_unseen_49 : decode cX12_unseen 49 = .ok (.iload 5, 2) := by decide +kernel
theorem dX12_unseen_51 : decode cX12_unseen 51 = .ok (.bipush 6, 2) := by decide +kernel
theorem dX12_unseen_53 : decode cX12_unseen 53 = .ok (.if_icmp .ge 52, 3) := by decide +kernel
theorem dX12_unseen_56 : decode cX12_unseen 56 = .ok (.aload_n 0, 1) := by decide +kernel
theorem dX12_unseen_57 : decode cX12_unseen 57 = .ok (.iload_n 1, 1) := by decide +kernel
theorem dX12_unseen_58 : decode cX12_unseen 58 = .ok (.iload 5, 2) := by decide +kernel
theorem dX12_unseen_60 : decode cX12_unseen 60 = .ok (.invokevirtual 422, 3) := by decide +kernel
theorem dX12_unseen_63 : decode cX12_unseen 63 = .ok (.aload_n 0, 1) := by decide +kernel
theorem dX12_unseen_64 : decode cX12_unseen 64 = .ok (.iload_n 2, 1) := by decide +kernel
theorem dX12_unseen_65 : decode cX12_unseen 65 = .ok (.iload 5, 2) := by decide +kernel
theorem dX12_unseen_67 : decode cX12_unseen 67 = .ok (.invokevirtual 422, 3) := by decide +kernel
theorem dX12_unseen_70 : decode cX12_unseen 70 = .ok (.iadd, 1) := by decide +kernel
theorem dX12_unseen_71 : decode cX12_unseen 71 = .ok (.istore 6, 2) := by decide +kernel
theorem dX12_unseen_73 : decode cX12_unseen 73 = .ok (.aload_n 0, 1) := by decide +kernel
theorem dX12_unseen_74 : decode cX12_unseen 74 = .ok (.iload 5, 2) := by decide +kernel
theorem dX12_unseen_76 : decode cX12_unseen 76 = .ok (.invokevirtual 397, 3) := by decide +kernel
theorem dX12_unseen_79 : decode cX12_unseen 79 = .ok (.ifCond .ne 20, 3) := by decide +kernel
theorem dX12_unseen_82 : decode cX12_unseen 82 = .ok (.iload 6, 2) := by decide +kernel
theorem dX12_unseen_84 : decode cX12_unseen 84 = .ok (.iload 4, 2) := by decide +kernel
theorem dX12_unseen_86 : decode cX12_unseen 86 = .ok (.if_icmp .lt 6, 3) := by decide +kernel
theorem dX12_unseen_89 : decode cX12_unseen 89 = .ok (.goto 10, 3) := by decide +kernel
theorem dX12_unseen_92 : decode cX12_unseen 92 = .ok (.iload 5, 2) := by decide +kernel
theorem dX12_unseen_94 : decode cX12_unseen 94 = .ok (.istore_n 3, 1) := by decide +kernel
theorem dX12_unseen_95 : decode cX12_unseen 95 = .ok (.iload 6, 2) := by decide +kernel
theorem dX12_unseen_97 : decode cX12_unseen 97 = .ok (.istore 4, 2) := by decide +kernel
theorem dX12_unseen_99 : decode cX12_unseen 99 = .ok (.iinc 5 1, 3) := by decide +kernel
theorem dX12_unseen_102 : decode cX12_unseen 102 = .ok (.goto (-53), 3) := by decide +kernel
theorem dX12_unseen_105 : decode cX12_unseen 105 = .ok (.iload_n 3, 1) := by decide +kernel
theorem dX12_unseen_106 : decode cX12_unseen 106 = .ok (.ireturn, 1) := by decide +kernel
theorem dX12_trappedIn_0 : decode cX12_trappedIn 0 = .ok (.iconst 0, 1) := by decide +kernel
theorem dX12_trappedIn_1 : decode cX12_trappedIn 1 = .ok (.istore_n 2, 1) := by decide +kernel
theorem dX12_trappedIn_2 : decode cX12_trappedIn 2 = .ok (.iconst 0, 1) := by decide +kernel
theorem dX12_trappedIn_3 : decode cX12_trappedIn 3 = .ok (.istore_n 3, 1) := by decide +kernel
theorem dX12_trappedIn_4 : decode cX12_trappedIn 4 = .ok (.iload_n 3, 1) := by decide +kernel
theorem dX12_trappedIn_5 : decode cX12_trappedIn 5 = .ok (.aload_n 0, 1) := by decide +kernel
theorem dX12_trappedIn_6 : decode cX12_trappedIn 6 = .ok (.invokevirtual 58, 3) := by decide +kernel
theorem dX12_trappedIn_9 : decode cX12_trappedIn 9 = .ok (.if_icmp .ge 71, 3) := by decide +kernel
theorem dX12_trappedIn_12 : decode cX12_trappedIn 12 = .ok (.iconst 0, 1) := by decide +kernel
theorem dX12_trappedIn_13 : decode cX12_trappedIn 13 = .ok (.istore 4, 2) := by decide +kernel
theorem dX12_trappedIn_15 : decode cX12_trappedIn 15 = .ok (.iload 4, 2) := by decide +kernel
theorem dX12_trappedIn_17 : decode cX12_trappedIn 17 = .ok (.iload_n 3, 1) := by decide +kernel
theorem dX12_trappedIn_18 : decode cX12_trappedIn 18 = .ok (.if_icmp .ge 56, 3) := by decide +kernel
theorem dX12_trappedIn_21 : decode cX12_trappedIn 21 = .ok (.iload_n 2, 1) := by decide +kernel
theorem dX12_trappedIn_22 : decode cX12_trappedIn 22 = .ok (.aload_n 0, 1) := by decide +kernel
theorem dX12_trappedIn_23 : decode cX12_trappedIn 23 = .ok (.iload_n 3, 1) := by decide +kernel
theorem dX12_trappedIn_24 : decode cX12_trappedIn 24 = .ok (.iload 4, 2) := by decide +kernel
theorem dX12_trappedIn_26 : decode cX12_trappedIn 26 = .ok (.invokevirtual 372, 3) := by decide +kernel
theorem dX12_trappedIn_29 : decode cX12_trappedIn 29 = .ok (.ifCond .eq 36, 3) := by decide +kernel
theorem dX12_trappedIn_32 : decode cX12_trappedIn 32 = .ok (.aload_n 0, 1) := by decide +kernel
theorem dX12_trappedIn_33 : decode cX12_trappedIn 33 = .ok (.iload_n 3, 1) := by decide +kernel
theorem dX12_trappedIn_34 : decode cX12_trappedIn 34 = .ok (.iconst 0, 1) := by decide +kernel
theorem dX12_trappedIn_35 : decode cX12_trappedIn 35 = .ok (.invokevirtual 73, 3) := by decide +kernel
theorem dX12_trappedIn_38 : decode cX12_trappedIn 38 = .ok (.aload_n 0, 1) := by decide +kernel
theorem dX12_trappedIn_39 : decode cX12_trappedIn 39 = .ok (.iload 4, 2) := by decide +kernel
theorem dX12_trappedIn_41 : decode cX12_trappedIn 41 = .ok (.iconst 0, 1) := by decide +kernel
theorem dX12_trappedIn_42 : decode cX12_trappedIn 42 = .ok (.invokevirtual 73, 3) := by decide +kernel
theorem dX12_trappedIn_45 : decode cX12_trappedIn 45 = .ok (.if_icmp .ne 20, 3) := by decide +kernel
theorem dX12_trappedIn_48 : decode cX12_trappedIn 48 = .ok (.iload_n 1, 1) := by decide +kernel
theorem dX12_trappedIn_49 : decode cX12_trappedIn 49 = .ok (.aload_n 0, 1) := by decide +kernel
theorem dX12_trappedIn_50 : decode cX12_trappedIn 50 = .ok (.iload_n 3, 1) := by decide +kernel
theorem dX12_trappedIn_51 : decode cX12_trappedIn 51 = .ok (.iconst 0, 1) := by decide +kernel
theorem dX12_trappedIn_52 : decode cX12_trappedIn 52 = .ok (.invokevirtual 73, 3) := by decide +kernel
theorem dX12_trappedIn_55 : decode cX12_trappedIn 55 = .ok (.invokestatic 76, 3) := by decide +kernel
theorem dX12_trappedIn_58 : decode cX12_trappedIn 58 = .ok (.ifCond .eq 7, 3) := by decide +kernel
theorem dX12_trappedIn_61 : decode cX12_trappedIn 61 = .ok (.iconst 1, 1) := by decide +kernel
theorem dX12_trappedIn_62 : decode cX12_trappedIn 62 = .ok (.goto 4, 3) := by decide +kernel
theorem dX12_trappedIn_65 : decode cX12_trappedIn 65 = .ok (.iconst 0, 1) := by decide +kernel
theorem dX12_trappedIn_66 : decode cX12_trappedIn 66 = .ok (.iadd, 1) := by decide +kernel
theorem dX12_trappedIn_67 : decode cX12_trappedIn 67 = .ok (.istore_n 2, 1) := by decide +kernel
theorem dX12_trappedIn_68 : decode cX12_trappedIn 68 = .ok (.iinc 4 1, 3) := by decide +kernel
theorem dX12_trappedIn_71 : decode cX12_trappedIn 71 = .ok (.goto (-56), 3) := by decide +kernel
theorem dX12_trappedIn_74 : decode cX12_trappedIn 74 = .ok (.iinc 3 1, 3) := by decide +kernel
theorem dX12_trappedIn_77 : decode cX12_trappedIn 77 = .ok (.goto (-73), 3) := by decide +kernel
theorem dX12_trappedIn_80 : decode cX12_trappedIn 80 = .ok (.iload_n 2, 1) := by decide +kernel
theorem dX12_trappedIn_81 : decode cX12_trappedIn 81 = .ok (.ireturn, 1) := by decide +kernel
theorem dX12_trap_0 : decode cX12_trap 0 = .ok (.aload_n 0, 1) := by decide +kernel
theorem dX12_trap_1 : decode cX12_trap 1 = .ok (.iconst 0, 1) := by decide +kernel
theorem dX12_trap_2 : decode cX12_trap 2 = .ok (.putfield 3, 3) := by decide +kernel
theorem dX12_trap_5 : decode cX12_trap 5 = .ok (.aload_n 0, 1) := by decide +kernel
theorem dX12_trap_6 : decode cX12_trap 6 = .ok (.iload_n 1, 1) := by decide +kernel
theorem dX12_trap_7 : decode cX12_trap 7 = .ok (.iconst 1, 1) := by decide +kernel
theorem dX12_trap_8 : decode cX12_trap 8 = .ok (.bipush 6, 2) := by decide +kernel
theorem dX12_trap_10 : decode cX12_trap 10 = .ok (.invokestatic 79, 3) := by decide +kernel
theorem dX12_trap_13 : decode cX12_trap 13 = .ok (.ifCond .ne 7, 3) := by decide +kernel
theorem dX12_trap_16 : decode cX12_trap 16 = .ok (.iconst 1, 1) := by decide +kernel
theorem dX12_trap_17 : decode cX12_trap 17 = .ok (.goto 4, 3) := by decide +kernel
theorem dX12_trap_20 : decode cX12_trap 20 = .ok (.iconst 0, 1) := by decide +kernel
theorem dX12_trap_21 : decode cX12_trap 21 = .ok (.iconst 1, 1) := by decide +kernel
theorem dX12_trap_22 : decode cX12_trap 22 = .ok (.invokevirtual 257, 3) := by decide +kernel
theorem dX12_trap_25 : decode cX12_trap 25 = .ok (.ifCond .eq 5, 3) := by decide +kernel
theorem dX12_trap_28 : decode cX12_trap 28 = .ok (.iconst 0, 1) := by decide +kernel
theorem dX12_trap_29 : decode cX12_trap 29 = .ok (.ireturn, 1) := by decide +kernel
theorem dX12_trap_30 : decode cX12_trap 30 = .ok (.iconst (-1), 1) := by decide +kernel
theorem dX12_trap_31 : decode cX12_trap 31 = .ok (.istore_n 3, 1) := by decide +kernel
theorem dX12_trap_32 : decode cX12_trap 32 = .ok (.iconst 0, 1) := by decide +kernel
theorem dX12_trap_33 : decode cX12_trap 33 = .ok (.istore 4, 2) := by decide +kernel
theorem dX12_trap_35 : decode cX12_trap 35 = .ok (.iload 4, 2) := by decide +kernel
theorem dX12_trap_37 : decode cX12_trap 37 = .ok (.bipush 64, 2) := by decide +kernel
theorem dX12_trap_39 : decode cX12_trap 39 = .ok (.if_icmp .ge 39, 3) := by decide +kernel
theorem dX12_trap_42 : decode cX12_trap 42 = .ok (.iload 4, 2) := by decide +kernel
theorem dX12_trap_44 : decode cX12_trap 44 = .ok (.invokestatic 318, 3) := by decide +kernel
theorem dX12_trap_47 : decode cX12_trap 47 = .ok (.iload_n 1, 1) := by decide +kernel
theorem dX12_trap_48 : decode cX12_trap 48 = .ok (.if_icmp .ne 24, 3) := by decide +kernel
theorem dX12_trap_51 : decode cX12_trap 51 = .ok (.iload_n 3, 1) := by decide +kernel
theorem dX12_trap_52 : decode cX12_trap 52 = .ok (.ifCond .lt 17, 3) := by decide +kernel
theorem dX12_trap_55 : decode cX12_trap 55 = .ok (.aload_n 0, 1) := by decide +kernel
theorem dX12_trap_56 : decode cX12_trap 56 = .ok (.iload 4, 2) := by decide +kernel
theorem dX12_trap_58 : decode cX12_trap 58 = .ok (.invokevirtual 425, 3) := by decide +kernel
theorem dX12_trap_61 : decode cX12_trap 61 = .ok (.aload_n 0, 1) := by decide +kernel
theorem dX12_trap_62 : decode cX12_trap 62 = .ok (.iload_n 3, 1) := by decide +kernel
theorem dX12_trap_63 : decode cX12_trap 63 = .ok (.invokevirtual 425, 3) := by decide +kernel
theorem dX12_trap_66 : decode cX12_trap 66 = .ok (.if_icmp .le 6, 3) := by decide +kernel
theorem dX12_trap_69 : decode cX12_trap 69 = .ok (.iload 4, 2) := by decide +kernel
theorem dX12_trap_71 : decode cX12_trap 71 = .ok (.istore_n 3, 1) := by decide +kernel
theorem dX12_trap_72 : decode cX12_trap 72 = .ok (.iinc 4 1, 3) := by decide +kernel
theorem dX12_trap_75 : decode cX12_trap 75 = .ok (.goto (-40), 3) := by decide +kernel
theorem dX12_trap_78 : decode cX12_trap 78 = .ok (.iload_n 2, 1) := by decide +kernel
theorem dX12_trap_79 : decode cX12_trap 79 = .ok (.ifCond .eq 11, 3) := by decide +kernel
theorem dX12_trap_82 : decode cX12_trap 82 = .ok (.aload_n 0, 1) := by decide +kernel
theorem dX12_trap_83 : decode cX12_trap 83 = .ok (.iload_n 3, 1) := by decide +kernel
theorem dX12_trap_84 : decode cX12_trap 84 = .ok (.invokevirtual 425, 3) := by decide +kernel
theorem dX12_trap_87 : decode cX12_trap 87 = .ok (.goto 4, 3) := by decide +kernel
theorem dX12_trap_90 : decode cX12_trap 90 = .ok (.iload_n 3, 1) := by decide +kernel
theorem dX12_trap_91 : decode cX12_trap 91 = .ok (.ireturn, 1) := by decide +kernel
theorem dX12_oath_0 : decode cX12_oath 0 = .ok (.aload_n 0, 1) := by decide +kernel
theorem dX12_oath_1 : decode cX12_oath 1 = .ok (.iconst 0, 1) := by decide +kernel
theorem dX12_oath_2 : decode cX12_oath 2 = .ok (.putfield 3, 3) := by decide +kernel
theorem dX12_oath_5 : decode cX12_oath 5 = .ok (.aload_n 0, 1) := by decide +kernel
theorem dX12_oath_6 : decode cX12_oath 6 = .ok (.aload_n 0, 1) := by decide +kernel
theorem dX12_oath_7 : decode cX12_oath 7 = .ok (.iload_n 1, 1) := by decide +kernel
theorem dX12_oath_8 : decode cX12_oath 8 = .ok (.invokevirtual 297, 3) := by decide +kernel
theorem dX12_oath_11 : decode cX12_oath 11 = .ok (.iconst 1, 1) := by decide +kernel
theorem dX12_oath_12 : decode cX12_oath 12 = .ok (.invokevirtual 257, 3) := by decide +kernel
theorem dX12_oath_15 : decode cX12_oath 15 = .ok (.ifCond .ne 20, 3) := by decide +kernel
theorem dX12_oath_18 : decode cX12_oath 18 = .ok (.aload_n 0, 1) := by decide +kernel
theorem dX12_oath_19 : decode cX12_oath 19 = .ok (.iload_n 1, 1) := by decide +kernel
theorem dX12_oath_20 : decode cX12_oath 20 = .ok (.iconst 3, 1) := by decide +kernel
theorem dX12_oath_21 : decode cX12_oath 21 = .ok (.invokevirtual 73, 3) := by decide +kernel
theorem dX12_oath_24 : decode cX12_oath 24 = .ok (.iload_n 2, 1) := by decide +kernel
theorem dX12_oath_25 : decode cX12_oath 25 = .ok (.iconst (-1), 1) := by decide +kernel
theorem dX12_oath_26 : decode cX12_oath 26 = .ok (.ixor, 1) := by decide +kernel
theorem dX12_oath_27 : decode cX12_oath 27 = .ok (.iand, 1) := by decide +kernel
theorem dX12_oath_28 : decode cX12_oath 28 = .ok (.ifCond .ne 7, 3) := by decide +kernel
theorem dX12_oath_31 : decode cX12_oath 31 = .ok (.iconst 1, 1) := by decide +kernel
theorem dX12_oath_32 : decode cX12_oath 32 = .ok (.goto 4, 3) := by decide +kernel
theorem dX12_oath_35 : decode cX12_oath 35 = .ok (.iconst 0, 1) := by decide +kernel
theorem dX12_oath_36 : decode cX12_oath 36 = .ok (.ireturn, 1) := by decide +kernel
theorem dX12_shortest_0 : decode cX12_shortest 0 = .ok (.aload_n 0, 1) := by decide +kernel
theorem dX12_shortest_1 : decode cX12_shortest 1 = .ok (.iconst 0, 1) := by decide +kernel
theorem dX12_shortest_2 : decode cX12_shortest 2 = .ok (.putfield 3, 3) := by decide +kernel
theorem dX12_shortest_5 : decode cX12_shortest 5 = .ok (.aload_n 0, 1) := by decide +kernel
theorem dX12_shortest_6 : decode cX12_shortest 6 = .ok (.aload_n 0, 1) := by decide +kernel
theorem dX12_shortest_7 : decode cX12_shortest 7 = .ok (.iload_n 1, 1) := by decide +kernel
theorem dX12_shortest_8 : decode cX12_shortest 8 = .ok (.invokevirtual 297, 3) := by decide +kernel
theorem dX12_shortest_11 : decode cX12_shortest 11 = .ok (.iconst 1, 1) := by decide +kernel
theorem dX12_shortest_12 : decode cX12_shortest 12 = .ok (.invokevirtual 257, 3) := by decide +kernel
theorem dX12_shortest_15 : decode cX12_shortest 15 = .ok (.ifCond .eq 7, 3) := by decide +kernel
theorem dX12_shortest_18 : decode cX12_shortest 18 = .ok (.iconst 0, 1) := by decide +kernel
theorem dX12_shortest_19 : decode cX12_shortest 19 = .ok (.goto 12, 3) := by decide +kernel
theorem dX12_shortest_22 : decode cX12_shortest 22 = .ok (.aload_n 0, 1) := by decide +kernel
theorem dX12_shortest_23 : decode cX12_shortest 23 = .ok (.iload_n 1, 1) := by decide +kernel
theorem dX12_shortest_24 : decode cX12_shortest 24 = .ok (.iconst 3, 1) := by decide +kernel
theorem dX12_shortest_25 : decode cX12_shortest 25 = .ok (.invokevirtual 73, 3) := by decide +kernel
theorem dX12_shortest_28 : decode cX12_shortest 28 = .ok (.invokestatic 318, 3) := by decide +kernel
theorem dX12_shortest_31 : decode cX12_shortest 31 = .ok (.ireturn, 1) := by decide +kernel
theorem dX12_alibi_0 : decode cX12_alibi 0 = .ok (.aload_n 0, 1) := by decide +kernel
theorem dX12_alibi_1 : decode cX12_alibi 1 = .ok (.iconst 0, 1) := by decide +kernel
theorem dX12_alibi_2 : decode cX12_alibi 2 = .ok (.putfield 3, 3) := by decide +kernel
theorem dX12_alibi_5 : decode cX12_alibi 5 = .ok (.aload_n 0, 1) := by decide +kernel
theorem dX12_alibi_6 : decode cX12_alibi 6 = .ok (.aload_n 0, 1) := by decide +kernel
theorem dX12_alibi_7 : decode cX12_alibi 7 = .ok (.iload_n 1, 1) := by decide +kernel
theorem dX12_alibi_8 : decode cX12_alibi 8 = .ok (.invokevirtual 297, 3) := by decide +kernel
theorem dX12_alibi_11 : decode cX12_alibi 11 = .ok (.iconst 1, 1) := by decide +kernel
theorem dX12_alibi_12 : decode cX12_alibi 12 = .ok (.invokevirtual 257, 3) := by decide +kernel
theorem dX12_alibi_15 : decode cX12_alibi 15 = .ok (.ifCond .eq 5, 3) := by decide +kernel
theorem dX12_alibi_18 : decode cX12_alibi 18 = .ok (.iconst 0, 1) := by decide +kernel
theorem dX12_alibi_19 : decode cX12_alibi 19 = .ok (.ireturn, 1) := by decide +kernel
theorem dX12_alibi_20 : decode cX12_alibi 20 = .ok (.iconst 0, 1) := by decide +kernel
theorem dX12_alibi_21 : decode cX12_alibi 21 = .ok (.istore_n 2, 1) := by decide +kernel
theorem dX12_alibi_22 : decode cX12_alibi 22 = .ok (.iconst 0, 1) := by decide +kernel
theorem dX12_alibi_23 : decode cX12_alibi 23 = .ok (.istore_n 3, 1) := by decide +kernel
theorem dX12_alibi_24 : decode cX12_alibi 24 = .ok (.iload_n 3, 1) := by decide +kernel
theorem dX12_alibi_25 : decode cX12_alibi 25 = .ok (.aload_n 0, 1) := by decide +kernel
theorem dX12_alibi_26 : decode cX12_alibi 26 = .ok (.invokevirtual 58, 3) := by decide +kernel
theorem dX12_alibi_29 : decode cX12_alibi 29 = .ok (.if_icmp .ge 31, 3) := by decide +kernel
theorem dX12_alibi_32 : decode cX12_alibi 32 = .ok (.iload_n 2, 1) := by decide +kernel
theorem dX12_alibi_33 : decode cX12_alibi 33 = .ok (.aload_n 0, 1) := by decide +kernel
theorem dX12_alibi_34 : decode cX12_alibi 34 = .ok (.iload_n 3, 1) := by decide +kernel
theorem dX12_alibi_35 : decode cX12_alibi 35 = .ok (.iconst 3, 1) := by decide +kernel
theorem dX12_alibi_36 : decode cX12_alibi 36 = .ok (.invokevirtual 73, 3) := by decide +kernel
theorem dX12_alibi_39 : decode cX12_alibi 39 = .ok (.iconst 1, 1) := by decide +kernel
theorem dX12_alibi_40 : decode cX12_alibi 40 = .ok (.iload_n 1, 1) := by decide +kernel
theorem dX12_alibi_41 : decode cX12_alibi 41 = .ok (.ishl, 1) := by decide +kernel
theorem dX12_alibi_42 : decode cX12_alibi 42 = .ok (.if_icmp .ne 9, 3) := by decide +kernel
theorem dX12_alibi_45 : decode cX12_alibi 45 = .ok (.iconst 1, 1) := by decide +kernel
theorem dX12_alibi_46 : decode cX12_alibi 46 = .ok (.iload_n 3, 1) := by decide +kernel
theorem dX12_alibi_47 : decode cX12_alibi 47 = .ok (.ishl, 1) := by decide +kernel
theorem dX12_alibi_48 : decode cX12_alibi 48 = .ok (.goto 4, 3) := by decide +kernel
theorem dX12_alibi_51 : decode cX12_alibi 51 = .ok (.iconst 0, 1) := by decide +kernel
theorem dX12_alibi_52 : decode cX12_alibi 52 = .ok (.ior, 1) := by decide +kernel
theorem dX12_alibi_53 : decode cX12_alibi 53 = .ok (.istore_n 2, 1) := by decide +kernel
theorem dX12_alibi_54 : decode cX12_alibi 54 = .ok (.iinc 3 1, 3) := by decide +kernel
theorem dX12_alibi_57 : decode cX12_alibi 57 = .ok (.goto (-33), 3) := by decide +kernel
theorem dX12_alibi_60 : decode cX12_alibi 60 = .ok (.iload_n 2, 1) := by decide +kernel
theorem dX12_alibi_61 : decode cX12_alibi 61 = .ok (.ireturn, 1) := by decide +kernel
theorem dX12_oddsOf_0 : decode cX12_oddsOf 0 = .ok (.aload_n 0, 1) := by decide +kernel
theorem dX12_oddsOf_1 : decode cX12_oddsOf 1 = .ok (.iload_n 1, 1) := by decide +kernel
theorem dX12_oddsOf_2 : decode cX12_oddsOf 2 = .ok (.invokevirtual 354, 3) := by decide +kernel
theorem dX12_oddsOf_5 : decode cX12_oddsOf 5 = .ok (.istore_n 2, 1) := by decide +kernel
theorem dX12_oddsOf_6 : decode cX12_oddsOf 6 = .ok (.iload_n 2, 1) := by decide +kernel
theorem dX12_oddsOf_7 : decode cX12_oddsOf 7 = .ok (.ifCond .ge 7, 3) := by decide +kernel
theorem dX12_oddsOf_10 : decode cX12_oddsOf 10 = .ok (.iconst 0, 1) := by decide +kernel
theorem dX12_oddsOf_11 : decode cX12_oddsOf 11 = .ok (.goto 9, 3) := by decide +kernel
theorem dX12_oddsOf_14 : decode cX12_oddsOf 14 = .ok (.aload_n 0, 1) := by decide +kernel
theorem dX12_oddsOf_15 : decode cX12_oddsOf 15 = .ok (.iload_n 1, 1) := by decide +kernel
theorem dX12_oddsOf_16 : decode cX12_oddsOf 16 = .ok (.iload_n 2, 1) := by decide +kernel
theorem dX12_oddsOf_17 : decode cX12_oddsOf 17 = .ok (.invokevirtual 315, 3) := by decide +kernel
theorem dX12_oddsOf_20 : decode cX12_oddsOf 20 = .ok (.ireturn, 1) := by decide +kernel
theorem dX12_odds_0 : decode cX12_odds 0 = .ok (.aload_n 0, 1) := by decide +kernel
theorem dX12_odds_1 : decode cX12_odds 1 = .ok (.iconst 0, 1) := by decide +kernel
theorem dX12_odds_2 : decode cX12_odds 2 = .ok (.putfield 3, 3) := by decide +kernel
theorem dX12_odds_5 : decode cX12_odds 5 = .ok (.aload_n 0, 1) := by decide +kernel
theorem dX12_odds_6 : decode cX12_odds 6 = .ok (.aload_n 0, 1) := by decide +kernel
theorem dX12_odds_7 : decode cX12_odds 7 = .ok (.iload_n 1, 1) := by decide +kernel
theorem dX12_odds_8 : decode cX12_odds 8 = .ok (.iload_n 2, 1) := by decide +kernel
theorem dX12_odds_9 : decode cX12_odds 9 = .ok (.invokevirtual 300, 3) := by decide +kernel
theorem dX12_odds_12 : decode cX12_odds 12 = .ok (.iconst 1, 1) := by decide +kernel
theorem dX12_odds_13 : decode cX12_odds 13 = .ok (.invokevirtual 257, 3) := by decide +kernel
theorem dX12_odds_16 : decode cX12_odds 16 = .ok (.ifCond .ne 21, 3) := by decide +kernel
theorem dX12_odds_19 : decode cX12_odds 19 = .ok (.aload_n 0, 1) := by decide +kernel
theorem dX12_odds_20 : decode cX12_odds 20 = .ok (.iload_n 1, 1) := by decide +kernel
theorem dX12_odds_21 : decode cX12_odds 21 = .ok (.iload_n 2, 1) := by decide +kernel
theorem dX12_odds_22 : decode cX12_odds 22 = .ok (.if_icmp .ne 7, 3) := by decide +kernel
theorem dX12_odds_25 : decode cX12_odds 25 = .ok (.iconst 1, 1) := by decide +kernel
theorem dX12_odds_26 : decode cX12_odds 26 = .ok (.goto 4, 3) := by decide +kernel
theorem dX12_odds_29 : decode cX12_odds 29 = .ok (.iconst 0, 1) := by decide +kernel
theorem dX12_odds_30 : decode cX12_odds 30 = .ok (.iconst 2, 1) := by decide +kernel
theorem dX12_odds_31 : decode cX12_odds 31 = .ok (.invokevirtual 257, 3) := by decide +kernel
theorem dX12_odds_34 : decode cX12_odds 34 = .ok (.ifCond .eq 7, 3) := by decide +kernel
theorem dX12_odds_37 : decode cX12_odds 37 = .ok (.iconst 0, 1) := by decide +kernel
theorem dX12_odds_38 : decode cX12_odds 38 = .ok (.goto 14, 3) := by decide +kernel
theorem dX12_odds_41 : decode cX12_odds 41 = .ok (.aload_n 0, 1) := by decide +kernel
theorem dX12_odds_42 : decode cX12_odds 42 = .ok (.iload_n 1, 1) := by decide +kernel
theorem dX12_odds_43 : decode cX12_odds 43 = .ok (.invokevirtual 428, 3) := by decide +kernel
theorem dX12_odds_46 : decode cX12_odds 46 = .ok (.aload_n 0, 1) := by decide +kernel
theorem dX12_odds_47 : decode cX12_odds 47 = .ok (.iload_n 2, 1) := by decide +kernel
theorem dX12_odds_48 : decode cX12_odds 48 = .ok (.invokevirtual 428, 3) := by decide +kernel
theorem dX12_odds_51 : decode cX12_odds 51 = .ok (.imul, 1) := by decide +kernel
theorem dX12_odds_52 : decode cX12_odds 52 = .ok (.ireturn, 1) := by decide +kernel
theorem dX12_suspectedOfAll_0 : decode cX12_suspectedOfAll 0 = .ok (.iconst 0, 1) := by decide +kernel
theorem dX12_suspectedOfAll_1 : decode cX12_suspectedOfAll 1 = .ok (.istore_n 1, 1) := by decide +kernel
theorem dX12_suspectedOfAll_2 : decode cX12_suspectedOfAll 2 = .ok (.iconst 0, 1) := by decide +kernel
theorem dX12_suspectedOfAll_3 : decode cX12_suspectedOfAll 3 = .ok (.istore_n 2, 1) := by decide +kernel
theorem dX12_suspectedOfAll_4 : decode cX12_suspectedOfAll 4 = .ok (.iload_n 2, 1) := by decide +kernel
theorem dX12_suspectedOfAll_5 : decode cX12_suspectedOfAll 5 = .ok (.aload_n 0, 1) := by decide +kernel
theorem dX12_suspectedOfAll_6 : decode cX12_suspectedOfAll 6 = .ok (.invokevirtual 58, 3) := by decide +kernel
theorem dX12_suspectedOfAll_9 : decode cX12_suspectedOfAll 9 = .ok (.if_icmp .ge 18, 3) := by decide +kernel
theorem dX12_suspectedOfAll_12 : decode cX12_suspectedOfAll 12 = .ok (.iload_n 1, 1) := by decide +kernel
theorem dX12_suspectedOfAll_13 : decode cX12_suspectedOfAll 13 = .ok (.aload_n 0, 1) := by decide +kernel
theorem dX12_suspectedOfAll_14 : decode cX12_suspectedOfAll 14 = .ok (.iload_n 2, 1) := by decide +kernel
theorem dX12_suspectedOfAll_15 : decode cX12_suspectedOfAll 15 = .ok (.iconst 2, 1) := by decide +kernel
theorem dX12_suspectedOfAll_16 : decode cX12_suspectedOfAll 16 = .ok (.invokevirtual 73, 3) := by decide +kernel
theorem dX12_suspectedOfAll_19 : decode cX12_suspectedOfAll 19 = .ok (.iadd, 1) := by decide +kernel
theorem dX12_suspectedOfAll_20 : decode cX12_suspectedOfAll 20 = .ok (.istore_n 1, 1) := by decide +kernel
theorem dX12_suspectedOfAll_21 : decode cX12_suspectedOfAll 21 = .ok (.iinc 2 1, 3) := by decide +kernel
theorem dX12_suspectedOfAll_24 : decode cX12_suspectedOfAll 24 = .ok (.goto (-20), 3) := by decide +kernel
theorem dX12_suspectedOfAll_27 : decode cX12_suspectedOfAll 27 = .ok (.iload_n 1, 1) := by decide +kernel
theorem dX12_suspectedOfAll_28 : decode cX12_suspectedOfAll 28 = .ok (.ireturn, 1) := by decide +kernel
theorem dX12_trial_0 : decode cX12_trial 0 = .ok (.aload_n 0, 1) := by decide +kernel
theorem dX12_trial_1 : decode cX12_trial 1 = .ok (.iconst 0, 1) := by decide +kernel
theorem dX12_trial_2 : decode cX12_trial 2 = .ok (.putfield 3, 3) := by decide +kernel
theorem dX12_trial_5 : decode cX12_trial 5 = .ok (.aload_n 0, 1) := by decide +kernel
theorem dX12_trial_6 : decode cX12_trial 6 = .ok (.iload_n 1, 1) := by decide +kernel
theorem dX12_trial_7 : decode cX12_trial 7 = .ok (.iconst 0, 1) := by decide +kernel
theorem dX12_trial_8 : decode cX12_trial 8 = .ok (.bipush 60, 2) := by decide +kernel
theorem dX12_trial_10 : decode cX12_trial 10 = .ok (.invokestatic 79, 3) := by decide +kernel
theorem dX12_trial_13 : decode cX12_trial 13 = .ok (.ifCond .ne 7, 3) := by decide +kernel
theorem dX12_trial_16 : decode cX12_trial 16 = .ok (.iconst 1, 1) := by decide +kernel
theorem dX12_trial_17 : decode cX12_trial 17 = .ok (.goto 4, 3) := by decide +kernel
theorem dX12_trial_20 : decode cX12_trial 20 = .ok (.iconst 0, 1) := by decide +kernel
theorem dX12_trial_21 : decode cX12_trial 21 = .ok (.iconst 1, 1) := by decide +kernel
theorem dX12_trial_22 : decode cX12_trial 22 = .ok (.invokevirtual 257, 3) := by decide +kernel
theorem dX12_trial_25 : decode cX12_trial 25 = .ok (.ifCond .eq 5, 3) := by decide +kernel
theorem dX12_trial_28 : decode cX12_trial 28 = .ok (.iconst 0, 1) := by decide +kernel
theorem dX12_trial_29 : decode cX12_trial 29 = .ok (.ireturn, 1) := by decide +kernel
theorem dX12_trial_30 : decode cX12_trial 30 = .ok (.aload_n 0, 1) := by decide +kernel
theorem dX12_trial_31 : decode cX12_trial 31 = .ok (.invokevirtual 339, 3) := by decide +kernel
theorem dX12_trial_34 : decode cX12_trial 34 = .ok (.iconst 0, 1) := by decide +kernel
theorem dX12_trial_35 : decode cX12_trial 35 = .ok (.istore_n 3, 1) := by decide +kernel
theorem dX12_trial_36 : decode cX12_trial 36 = .ok (.iconst 0, 1) := by decide +kernel
theorem dX12_trial_37 : decode cX12_trial 37 = .ok (.istore 4, 2) := by decide +kernel
theorem dX12_trial_39 : decode cX12_trial 39 = .ok (.iload 4, 2) := by decide +kernel
theorem dX12_trial_41 : decode cX12_trial 41 = .ok (.iload_n 1, 1) := by decide +kernel
theorem dX12_trial_42 : decode cX12_trial 42 = .ok (.if_icmp .ge 17, 3) := by decide +kernel
theorem dX12_trial_45 : decode cX12_trial 45 = .ok (.iload_n 3, 1) := by decide +kernel
theorem dX12_trial_46 : decode cX12_trial 46 = .ok (.aload_n 0, 1) := by decide +kernel
theorem dX12_trial_47 : decode cX12_trial 47 = .ok (.iconst 0, 1) := by decide +kernel
theorem dX12_trial_48 : decode cX12_trial 48 = .ok (.invokevirtual 409, 3) := by decide +kernel
theorem dX12_trial_51 : decode cX12_trial 51 = .ok (.iadd, 1) := by decide +kernel
theorem dX12_trial_52 : decode cX12_trial 52 = .ok (.istore_n 3, 1) := by decide +kernel
theorem dX12_trial_53 : decode cX12_trial 53 = .ok (.iinc 4 1, 3) := by decide +kernel
theorem dX12_trial_56 : decode cX12_trial 56 = .ok (.goto (-17), 3) := by decide +kernel
theorem dX12_trial_59 : decode cX12_trial 59 = .ok (.iload_n 2, 1) := by decide +kernel
theorem dX12_trial_60 : decode cX12_trial 60 = .ok (.ifCond .eq 10, 3) := by decide +kernel
theorem dX12_trial_63 : decode cX12_trial 63 = .ok (.aload_n 0, 1) := by decide +kernel
theorem dX12_trial_64 : decode cX12_trial 64 = .ok (.invokevirtual 431, 3) := by decide +kernel
theorem dX12_trial_67 : decode cX12_trial 67 = .ok (.goto 4, 3) := by decide +kernel
theorem dX12_trial_70 : decode cX12_trial 70 = .ok (.iload_n 3, 1) := by decide +kernel
theorem dX12_trial_71 : decode cX12_trial 71 = .ok (.istore 4, 2) := by decide +kernel
theorem dX12_trial_73 : decode cX12_trial 73 = .ok (.aload_n 0, 1) := by decide +kernel
theorem dX12_trial_74 : decode cX12_trial 74 = .ok (.invokevirtual 342, 3) := by decide +kernel
theorem dX12_trial_77 : decode cX12_trial 77 = .ok (.iload 4, 2) := by decide +kernel
theorem dX12_trial_79 : decode cX12_trial 79 = .ok (.ireturn, 1) := by decide +kernel
theorem dX12_span_0 : decode cX12_span 0 = .ok (.aload_n 0, 1) := by decide +kernel
theorem dX12_span_1 : decode cX12_span 1 = .ok (.iconst 0, 1) := by decide +kernel
theorem dX12_span_2 : decode cX12_span 2 = .ok (.putfield 3, 3) := by decide +kernel
theorem dX12_span_5 : decode cX12_span 5 = .ok (.aload_n 0, 1) := by decide +kernel
theorem dX12_span_6 : decode cX12_span 6 = .ok (.iload_n 1, 1) := by decide +kernel
theorem dX12_span_7 : decode cX12_span 7 = .ok (.iconst 0, 1) := by decide +kernel
theorem dX12_span_8 : decode cX12_span 8 = .ok (.bipush 60, 2) := by decide +kernel
theorem dX12_span_10 : decode cX12_span 10 = .ok (.invokestatic 79, 3) := by decide +kernel
theorem dX12_span_13 : decode cX12_span 13 = .ok (.ifCond .ne 7, 3) := by decide +kernel
theorem dX12_span_16 : decode cX12_span 16 = .ok (.iconst 1, 1) := by decide +kernel
theorem dX12_span_17 : decode cX12_span 17 = .ok (.goto 4, 3) := by decide +kernel
theorem dX12_span_20 : decode cX12_span 20 = .ok (.iconst 0, 1) := by decide +kernel
theorem dX12_span_21 : decode cX12_span 21 = .ok (.iconst 1, 1) := by decide +kernel
theorem dX12_span_22 : decode cX12_span 22 = .ok (.invokevirtual 257, 3) := by decide +kernel
theorem dX12_span_25 : decode cX12_span 25 = .ok (.ifCond .eq 5, 3) := by decide +kernel
theorem dX12_span_28 : decode cX12_span 28 = .ok (.iconst 0, 1) := by decide +kernel
theorem dX12_span_29 : decode cX12_span 29 = .ok (.ireturn, 1) := by decide +kernel
theorem dX12_span_30 : decode cX12_span 30 = .ok (.aload_n 0, 1) := by decide +kernel
theorem dX12_span_31 : decode cX12_span 31 = .ok (.invokevirtual 339, 3) := by decide +kernel
theorem dX12_span_34 : decode cX12_span 34 = .ok (.iconst (-1), 1) := by decide +kernel
theorem dX12_span_35 : decode cX12_span 35 = .ok (.istore_n 3, 1) := by decide +kernel
theorem dX12_span_36 : decode cX12_span 36 = .ok (.iconst 1, 1) := by decide +kernel
theorem dX12_span_37 : decode cX12_span 37 = .ok (.istore 4, 2) := by decide +kernel
theorem dX12_span_39 : decode cX12_span 39 = .ok (.iload 4, 2) := by decide +kernel
theorem dX12_span_41 : decode cX12_span 41 = .ok (.bipush 6, 2) := by decide +kernel
theorem dX12_span_43 : decode cX12_span 43 = .ok (.if_icmp .gt 79, 3) := by decide +kernel
theorem dX12_span_46 : decode cX12_span 46 = .ok (.aload_n 0, 1) := by decide +kernel
theorem dX12_span_47 : decode cX12_span 47 = .ok (.getfield 13, 3) := by decide +kernel
theorem dX12_span_50 : decode cX12_span 50 = .ok (.bipush 9, 2) := by decide +kernel
theorem dX12_span_52 : decode cX12_span 52 = .ok (.iload 4, 2) := by decide +kernel
theorem dX12_span_54 : decode cX12_span 54 = .ok (.iastore, 1) := by decide +kernel
theorem dX12_span_55 : decode cX12_span 55 = .ok (.iconst 0, 1) := by decide +kernel
theorem dX12_span_56 : decode cX12_span 56 = .ok (.istore 5, 2) := by decide +kernel
theorem dX12_span_58 : decode cX12_span 58 = .ok (.iconst 0, 1) := by decide +kernel
theorem dX12_span_59 : decode cX12_span 59 = .ok (.istore 6, 2) := by decide +kernel
theorem dX12_span_61 : decode cX12_span 61 = .ok (.iload 6, 2) := by decide +kernel
theorem dX12_span_63 : decode cX12_span 63 = .ok (.iload_n 1, 1) := by decide +kernel
theorem dX12_span_64 : decode cX12_span 64 = .ok (.if_icmp .ge 19, 3) := by decide +kernel
theorem dX12_span_67 : decode cX12_span 67 = .ok (.iload 5, 2) := by decide +kernel
theorem dX12_span_69 : decode cX12_span 69 = .ok (.aload_n 0, 1) := by decide +kernel
theorem dX12_span_70 : decode cX12_span 70 = .ok (.iconst 0, 1) := by decide +kernel
theorem dX12_span_71 : decode cX12_span 71 = .ok (.invokevirtual 409, 3) := by decide +kernel
theorem dX12_span_74 : decode cX12_span 74 = .ok (.iadd, 1) := by decide +kernel
theorem dX12_span_75 : decode cX12_span 75 = .ok (.istore 5, 2) := by decide +kernel
theorem dX12_span_77 : decode cX12_span 77 = .ok (.iinc 6 1, 3) := by decide +kernel
theorem dX12_span_80 : decode cX12_span 80 = .ok (.goto (-19), 3) := by decide +kernel
theorem dX12_span_83 : decode cX12_span 83 = .ok (.aload_n 0, 1) := by decide +kernel
theorem dX12_span_84 : decode cX12_span 84 = .ok (.invokevirtual 342, 3) := by decide +kernel
theorem dX12_span_87 : decode cX12_span 87 = .ok (.iload_n 3, 1) := by decide +kernel
theorem dX12_span_88 : decode cX12_span 88 = .ok (.ifCond .ge 8, 3) := by decide +kernel
theorem dX12_span_91 : decode cX12_span 91 = .ok (.iload 5, 2) := by decide +kernel
theorem dX12_span_93 : decode cX12_span 93 = .ok (.goto 22, 3) := by decide +kernel
theorem dX12_span_96 : decode cX12_span 96 = .ok (.iload_n 2, 1) := by decide +kernel
theorem dX12_span_97 : decode cX12_span 97 = .ok (.ifCond .eq 12, 3) := by decide +kernel
theorem dX12_span_100 : decode cX12_span 100 = .ok (.iload_n 3, 1) := by decide +kernel
theorem dX12_span_101 : decode cX12_span 101 = .ok (.iload 5, 2) := by decide +kernel
theorem dX12_span_103 : decode cX12_span 103 = .ok (.invokestatic 288, 3) := by decide +kernel
theorem dX12_span_106 : decode cX12_span 106 = .ok (.goto 9, 3) := by decide +kernel
theorem dX12_span_109 : decode cX12_span 109 = .ok (.iload_n 3, 1) := by decide +kernel
theorem dX12_span_110 : decode cX12_span 110 = .ok (.iload 5, 2) := by decide +kernel
theorem dX12_span_112 : decode cX12_span 112 = .ok (.invokestatic 283, 3) := by decide +kernel
theorem dX12_span_115 : decode cX12_span 115 = .ok (.istore_n 3, 1) := by decide +kernel
theorem dX12_span_116 : decode cX12_span 116 = .ok (.iinc 4 1, 3) := by decide +kernel
theorem dX12_span_119 : decode cX12_span 119 = .ok (.goto (-80), 3) := by decide +kernel
theorem dX12_span_122 : decode cX12_span 122 = .ok (.iload_n 3, 1) := by decide +kernel
theorem dX12_span_123 : decode cX12_span 123 = .ok (.ireturn, 1) := by decide +kernel
theorem dX12_ofLog_0 : decode cX12_ofLog 0 = .ok (.aload_n 0, 1) := by decide +kernel
theorem dX12_ofLog_1 : decode cX12_ofLog 1 = .ok (.getfield 13, 3) := by decide +kernel
theorem dX12_ofLog_4 : decode cX12_ofLog 4 = .ok (.sipush 234, 3) := by decide +kernel
theorem dX12_ofLog_7 : decode cX12_ofLog 7 = .ok (.iconst 4, 1) := by decide +kernel
theorem dX12_ofLog_8 : decode cX12_ofLog 8 = .ok (.iload_n 1, 1) := by decide +kernel
theorem dX12_ofLog_9 : decode cX12_ofLog 9 = .ok (.imul, 1) := by decide +kernel
theorem dX12_ofLog_10 : decode cX12_ofLog 10 = .ok (.iadd, 1) := by decide +kernel
theorem dX12_ofLog_11 : decode cX12_ofLog 11 = .ok (.iload_n 2, 1) := by decide +kernel
theorem dX12_ofLog_12 : decode cX12_ofLog 12 = .ok (.iadd, 1) := by decide +kernel
theorem dX12_ofLog_13 : decode cX12_ofLog 13 = .ok (.iaload, 1) := by decide +kernel
theorem dX12_ofLog_14 : decode cX12_ofLog 14 = .ok (.ireturn, 1) := by decide +kernel
theorem dX12_led_0 : decode cX12_led 0 = .ok (.aload_n 0, 1) := by decide +kernel
theorem dX12_led_1 : decode cX12_led 1 = .ok (.iconst 0, 1) := by decide +kernel
theorem dX12_led_2 : decode cX12_led 2 = .ok (.putfield 3, 3) := by decide +kernel
theorem dX12_led_5 : decode cX12_led 5 = .ok (.aload_n 0, 1) := by decide +kernel
theorem dX12_led_6 : decode cX12_led 6 = .ok (.aload_n 0, 1) := by decide +kernel
theorem dX12_led_7 : decode cX12_led 7 = .ok (.iload_n 1, 1) := by decide +kernel
theorem dX12_led_8 : decode cX12_led 8 = .ok (.invokevirtual 297, 3) := by decide +kernel
theorem dX12_led_11 : decode cX12_led 11 = .ok (.iconst 1, 1) := by decide +kernel
theorem dX12_led_12 : decode cX12_led 12 = .ok (.invokevirtual 257, 3) := by decide +kernel
theorem dX12_led_15 : decode cX12_led 15 = .ok (.ifCond .eq 5, 3) := by decide +kernel
theorem dX12_led_18 : decode cX12_led 18 = .ok (.iconst 0, 1) := by decide +kernel
theorem dX12_led_19 : decode cX12_led 19 = .ok (.ireturn, 1) := by decide +kernel
theorem dX12_led_20 : decode cX12_led 20 = .ok (.iconst 0, 1) := by decide +kernel
theorem dX12_led_21 : decode cX12_led 21 = .ok (.istore_n 3, 1) := by decide +kernel
theorem dX12_led_22 : decode cX12_led 22 = .ok (.iconst (-1), 1) := by decide +kernel
theorem dX12_led_23 : decode cX12_led 23 = .ok (.istore 4, 2) := by decide +kernel
theorem dX12_led_25 : decode cX12_led 25 = .ok (.aload_n 0, 1) := by decide +kernel
theorem dX12_led_26 : decode cX12_led 26 = .ok (.getfield 13, 3) := by decide +kernel
theorem dX12_led_29 : decode cX12_led 29 = .ok (.bipush 8, 2) := by decide +kernel
theorem dX12_led_31 : decode cX12_led 31 = .ok (.iaload, 1) := by decide +kernel
theorem dX12_led_32 : decode cX12_led 32 = .ok (.iconst 1, 1) := by decide +kernel
theorem dX12_led_33 : decode cX12_led 33 = .ok (.isub, 1) := by decide +kernel
theorem dX12_led_34 : decode cX12_led 34 = .ok (.istore 5, 2) := by decide +kernel
theorem dX12_led_36 : decode cX12_led 36 = .ok (.iload 5, 2) := by decide +kernel
theorem dX12_led_38 : decode cX12_led 38 = .ok (.ifCond .lt 46, 3) := by decide +kernel
theorem dX12_led_41 : decode cX12_led 41 = .ok (.aload_n 0, 1) := by decide +kernel
theorem dX12_led_42 : decode cX12_led 42 = .ok (.iload 5, 2) := by decide +kernel
theorem dX12_led_44 : decode cX12_led 44 = .ok (.iconst 1, 1) := by decide +kernel
theorem dX12_led_45 : decode cX12_led 45 = .ok (.invokevirtual 434, 3) := by decide +kernel
theorem dX12_led_48 : decode cX12_led 48 = .ok (.iload_n 1, 1) := by decide +kernel
theorem dX12_led_49 : decode cX12_led 49 = .ok (.if_icmp .eq 17, 3) := by decide +kernel
theorem dX12_led_52 : decode cX12_led 52 = .ok (.aload_n 0, 1) := by decide +kernel
theorem dX12_led_53 : decode cX12_led 53 = .ok (.iload 5, 2) := by decide +kernel
theorem dX12_led_55 : decode cX12_led 55 = .ok (.iconst 2, 1) := by decide +kernel
theorem dX12_led_56 : decode cX12_led 56 = .ok (.invokevirtual 434, 3) := by decide +kernel
theorem dX12_led_59 : decode cX12_led 59 = .ok (.iload_n 1, 1) := by decide +kernel
theorem dX12_led_60 : decode cX12_led 60 = .ok (.if_icmp .eq 6, 3) := by decide +kernel
theorem dX12_led_63 : decode cX12_led 63 = .ok (.goto 15, 3) := by decide +kernel
theorem dX12_led_66 : decode cX12_led 66 = .ok (.iinc 3 1, 3) := by decide +kernel
theorem dX12_led_69 : decode cX12_led 69 = .ok (.aload_n 0, 1) := by decide +kernel
theorem dX12_led_70 : decode cX12_led 70 = .ok (.iload 5, 2) := by decide +kernel
theorem dX12_led_72 : decode cX12_led 72 = .ok (.iconst 3, 1) := by decide +kernel
theorem dX12_led_73 : decode cX12_led 73 = .ok (.invokevirtual 434, 3) := by decide +kernel
theorem dX12_led_76 : decode cX12_led 76 = .ok (.istore 4, 2) := by decide +kernel
theorem dX12_led_78 : decode cX12_led 78 = .ok (.iinc 5 (-1), 3) := by decide +kernel
theorem dX12_led_81 : decode cX12_led 81 = .ok (.goto (-45), 3) := by decide +kernel
theorem dX12_led_84 : decode cX12_led 84 = .ok (.iload_n 2, 1) := by decide +kernel
theorem dX12_led_85 : decode cX12_led 85 = .ok (.ifCond .eq 8, 3) := by decide +kernel
theorem dX12_led_88 : decode cX12_led 88 = .ok (.iload 4, 2) := by decide +kernel
theorem dX12_led_90 : decode cX12_led 90 = .ok (.goto 4, 3) := by decide +kernel
theorem dX12_led_93 : decode cX12_led 93 = .ok (.iload_n 3, 1) := by decide +kernel
theorem dX12_led_94 : decode cX12_led 94 = .ok (.ireturn, 1) := by decide +kernel
theorem dX12_log_0 : decode cX12_log 0 = .ok (.aload_n 0, 1) := by decide +kernel
theorem dX12_log_1 : decode cX12_log 1 = .ok (.iconst 0, 1) := by decide +kernel
theorem dX12_log_2 : decode cX12_log 2 = .ok (.putfield 3, 3) := by decide +kernel
theorem dX12_log_5 : decode cX12_log 5 = .ok (.aload_n 0, 1) := by decide +kernel
theorem dX12_log_6 : decode cX12_log 6 = .ok (.iload_n 2, 1) := by decide +kernel
theorem dX12_log_7 : decode cX12_log 7 = .ok (.iconst 0, 1) := by decide +kernel
theorem dX12_log_8 : decode cX12_log 8 = .ok (.iconst 3, 1) := by decide +kernel
theorem dX12_log_9 : decode cX12_log 9 = .ok (.invokestatic 79, 3) := by decide +kernel
theorem dX12_log_12 : decode cX12_log 12 = .ok (.ifCond .ne 7, 3) := by decide +kernel
theorem dX12_log_15 : decode cX12_log 15 = .ok (.iconst 1, 1) := by decide +kernel
theorem dX12_log_16 : decode cX12_log 16 = .ok (.goto 4, 3) := by decide +kernel
theorem dX12_log_19 : decode cX12_log 19 = .ok (.iconst 0, 1) := by decide +kernel
theorem dX12_log_20 : decode cX12_log 20 = .ok (.iconst 1, 1) := by decide +kernel
theorem dX12_log_21 : decode cX12_log 21 = .ok (.invokevirtual 257, 3) := by decide +kernel
theorem dX12_log_24 : decode cX12_log 24 = .ok (.ifCond .eq 5, 3) := by decide +kernel
theorem dX12_log_27 : decode cX12_log 27 = .ok (.iconst 0, 1) := by decide +kernel
theorem dX12_log_28 : decode cX12_log 28 = .ok (.ireturn, 1) := by decide +kernel
theorem dX12_log_29 : decode cX12_log 29 = .ok (.iload_n 1, 1) := by decide +kernel
theorem dX12_log_30 : decode cX12_log 30 = .ok (.iconst 0, 1) := by decide +kernel
theorem dX12_log_31 : decode cX12_log 31 = .ok (.aload_n 0, 1) := by decide +kernel
theorem dX12_log_32 : decode cX12_log 32 = .ok (.getfield 13, 3) := by decide +kernel
theorem dX12_log_35 : decode cX12_log 35 = .ok (.bipush 8, 2) := by decide +kernel
theorem dX12_log_37 : decode cX12_log 37 = .ok (.iaload, 1) := by decide +kernel
theorem dX12_log_38 : decode cX12_log 38 = .ok (.iconst 1, 1) := by decide +kernel
theorem dX12_log_39 : decode cX12_log 39 = .ok (.isub, 1) := by decide +kernel
theorem dX12_log_40 : decode cX12_log 40 = .ok (.invokestatic 79, 3) := by decide +kernel
theorem dX12_log_43 : decode cX12_log 43 = .ok (.ifCond .eq 12, 3) := by decide +kernel
theorem dX12_log_46 : decode cX12_log 46 = .ok (.aload_n 0, 1) := by decide +kernel
theorem dX12_log_47 : decode cX12_log 47 = .ok (.iload_n 1, 1) := by decide +kernel
theorem dX12_log_48 : decode cX12_log 48 = .ok (.iload_n 2, 1) := by decide +kernel
theorem dX12_log_49 : decode cX12_log 49 = .ok (.invokevirtual 434, 3) := by decide +kernel
theorem dX12_log_52 : decode cX12_log 52 = .ok (.goto 4, 3) := by decide +kernel
theorem dX12_log_55 : decode cX12_log 55 = .ok (.iconst (-1), 1) := by decide +kernel
theorem dX12_log_56 : decode cX12_log 56 = .ok (.ireturn, 1) := by decide +kernel
theorem dX12_seed_0 : decode cX12_seed 0 = .ok (.aload_n 0, 1) := by decide +kernel
theorem dX12_seed_1 : decode cX12_seed 1 = .ok (.iconst 0, 1) := by decide +kernel
theorem dX12_seed_2 : decode cX12_seed 2 = .ok (.putfield 3, 3) := by decide +kernel
theorem dX12_seed_5 : decode cX12_seed 5 = .ok (.aload_n 0, 1) := by decide +kernel
theorem dX12_seed_6 : decode cX12_seed 6 = .ok (.getfield 13, 3) := by decide +kernel
theorem dX12_seed_9 : decode cX12_seed 9 = .ok (.bipush 9, 2) := by decide +kernel
theorem dX12_seed_11 : decode cX12_seed 11 = .ok (.iaload, 1) := by decide +kernel
theorem dX12_seed_12 : decode cX12_seed 12 = .ok (.istore_n 2, 1) := by decide +kernel
theorem dX12_seed_13 : decode cX12_seed 13 = .ok (.aload_n 0, 1) := by decide +kernel
theorem dX12_seed_14 : decode cX12_seed 14 = .ok (.getfield 13, 3) := by decide +kernel
theorem dX12_seed_17 : decode cX12_seed 17 = .ok (.bipush 9, 2) := by decide +kernel
theorem dX12_seed_19 : decode cX12_seed 19 = .ok (.iload_n 1, 1) := by decide +kernel
theorem dX12_seed_20 : decode cX12_seed 20 = .ok (.iastore, 1) := by decide +kernel
theorem dX12_seed_21 : decode cX12_seed 21 = .ok (.iload_n 2, 1) := by decide +kernel
theorem dX12_seed_22 : decode cX12_seed 22 = .ok (.ireturn, 1) := by decide +kernel
theorem dX12_pairsWed_0 : decode cX12_pairsWed 0 = .ok (.iconst 0, 1) := by decide +kernel
theorem dX12_pairsWed_1 : decode cX12_pairsWed 1 = .ok (.istore_n 1, 1) := by decide +kernel
theorem dX12_pairsWed_2 : decode cX12_pairsWed 2 = .ok (.iconst 0, 1) := by decide +kernel
theorem dX12_pairsWed_3 : decode cX12_pairsWed 3 = .ok (.istore_n 2, 1) := by decide +kernel
theorem dX12_pairsWed_4 : decode cX12_pairsWed 4 = .ok (.iload_n 2, 1) := by decide +kernel
theorem dX12_pairsWed_5 : decode cX12_pairsWed 5 = .ok (.aload_n 0, 1) := by decide +kernel
theorem dX12_pairsWed_6 : decode cX12_pairsWed 6 = .ok (.invokevirtual 58, 3) := by decide +kernel
theorem dX12_pairsWed_9 : decode cX12_pairsWed 9 = .ok (.if_icmp .ge 27, 3) := by decide +kernel
theorem dX12_pairsWed_12 : decode cX12_pairsWed 12 = .ok (.iload_n 1, 1) := by decide +kernel
theorem dX12_pairsWed_13 : decode cX12_pairsWed 13 = .ok (.aload_n 0, 1) := by decide +kernel
theorem dX12_pairsWed_14 : decode cX12_pairsWed 14 = .ok (.iload_n 2, 1) := by decide +kernel
theorem dX12_pairsWed_15 : decode cX12_pairsWed 15 = .ok (.iconst 1, 1) := by decide +kernel
theorem dX12_pairsWed_16 : decode cX12_pairsWed 16 = .ok (.invokevirtual 73, 3) := by decide +kernel
theorem dX12_pairsWed_19 : decode cX12_pairsWed 19 = .ok (.iload_n 2, 1) := by decide +kernel
theorem dX12_pairsWed_20 : decode cX12_pairsWed 20 = .ok (.if_icmp .le 7, 3) := by decide +kernel
theorem dX12_pairsWed_23 : decode cX12_pairsWed 23 = .ok (.iconst 1, 1) := by decide +kernel
theorem dX12_pairsWed_24 : decode cX12_pairsWed 24 = .ok (.goto 4, 3) := by decide +kernel
theorem dX12_pairsWed_27 : decode cX12_pairsWed 27 = .ok (.iconst 0, 1) := by decide +kernel
theorem dX12_pairsWed_28 : decode cX12_pairsWed 28 = .ok (.iadd, 1) := by decide +kernel
theorem dX12_pairsWed_29 : decode cX12_pairsWed 29 = .ok (.istore_n 1, 1) := by decide +kernel
theorem dX12_pairsWed_30 : decode cX12_pairsWed 30 = .ok (.iinc 2 1, 3) := by decide +kernel
theorem dX12_pairsWed_33 : decode cX12_pairsWed 33 = .ok (.goto (-29), 3) := by decide +kernel
theorem dX12_pairsWed_36 : decode cX12_pairsWed 36 = .ok (.iload_n 1, 1) := by decide +kernel
theorem dX12_pairsWed_37 : decode cX12_pairsWed 37 = .ok (.ireturn, 1) := by decide +kernel
theorem dX12_count_0 : decode cX12_count 0 = .ok (.aload_n 0, 1) := by decide +kernel
theorem dX12_count_1 : decode cX12_count 1 = .ok (.iconst 0, 1) := by decide +kernel
theorem dX12_count_2 : decode cX12_count 2 = .ok (.putfield 3, 3) := by decide +kernel
theorem dX12_count_5 : decode cX12_count 5 = .ok (.iload_n 1, 1) := by decide +kernel
theorem dX12_count_6 : decode cX12_count 6 = .ok (.tableswitch 117 2 12 #[58, 117, 117, 117, 117, 81, 86, 91, 96, 104, 112], 58) := by decide +kernel
theorem dX12_count_64 : decode cX12_count 64 = .ok (.aload_n 0, 1) := by decide +kernel
theorem dX12_count_65 : decode cX12_count 65 = .ok (.getfield 13, 3) := by decide +kernel
theorem dX12_count_68 : decode cX12_count 68 = .ok (.iconst 2, 1) := by decide +kernel
theorem dX12_count_69 : decode cX12_count 69 = .ok (.iaload, 1) := by decide +kernel
theorem dX12_count_70 : decode cX12_count 70 = .ok (.iconst 1, 1) := by decide +kernel
theorem dX12_count_71 : decode cX12_count 71 = .ok (.if_icmp .ne 14, 3) := by decide +kernel
theorem dX12_count_74 : decode cX12_count 74 = .ok (.aload_n 0, 1) := by decide +kernel
theorem dX12_count_75 : decode cX12_count 75 = .ok (.getfield 13, 3) := by decide +kernel
theorem dX12_count_78 : decode cX12_count 78 = .ok (.sipush 474, 3) := by decide +kernel
theorem dX12_count_81 : decode cX12_count 81 = .ok (.iaload, 1) := by decide +kernel
theorem dX12_count_82 : decode cX12_count 82 = .ok (.goto 4, 3) := by decide +kernel
theorem dX12_count_85 : decode cX12_count 85 = .ok (.iconst (-1), 1) := by decide +kernel
theorem dX12_count_86 : decode cX12_count 86 = .ok (.ireturn, 1) := by decide +kernel
theorem dX12_count_87 : decode cX12_count 87 = .ok (.aload_n 0, 1) := by decide +kernel
theorem dX12_count_88 : decode cX12_count 88 = .ok (.invokevirtual 431, 3) := by decide +kernel
theorem dX12_count_91 : decode cX12_count 91 = .ok (.ireturn, 1) := by decide +kernel
theorem dX12_count_92 : decode cX12_count 92 = .ok (.aload_n 0, 1) := by decide +kernel
theorem dX12_count_93 : decode cX12_count 93 = .ok (.invokevirtual 437, 3) := by decide +kernel
theorem dX12_count_96 : decode cX12_count 96 = .ok (.ireturn, 1) := by decide +kernel
theorem dX12_count_97 : decode cX12_count 97 = .ok (.aload_n 0, 1) := by decide +kernel
theorem dX12_count_98 : decode cX12_count 98 = .ok (.invokevirtual 345, 3) := by decide +kernel
theorem dX12_count_101 : decode cX12_count 101 = .ok (.ireturn, 1) := by decide +kernel
theorem dX12_count_102 : decode cX12_count 102 = .ok (.aload_n 0, 1) := by decide +kernel
theorem dX12_count_103 : decode cX12_count 103 = .ok (.getfield 13, 3) := by decide +kernel
theorem dX12_count_106 : decode cX12_count 106 = .ok (.bipush 7, 2) := by decide +kernel
theorem dX12_count_108 : decode cX12_count 108 = .ok (.iaload, 1) := by decide +kernel
theorem dX12_count_109 : decode cX12_count 109 = .ok (.ireturn, 1) := by decide +kernel
theorem dX12_count_110 : decode cX12_count 110 = .ok (.aload_n 0, 1) := by decide +kernel
theorem dX12_count_111 : decode cX12_count 111 = .ok (.getfield 13, 3) := by decide +kernel
theorem dX12_count_114 : decode cX12_count 114 = .ok (.bipush 8, 2) := by decide +kernel
theorem dX12_count_116 : decode cX12_count 116 = .ok (.iaload, 1) := by decide +kernel
theorem dX12_count_117 : decode cX12_count 117 = .ok (.ireturn, 1) := by decide +kernel
theorem dX12_count_118 : decode cX12_count 118 = .ok (.aload_n 0, 1) := by decide +kernel
theorem dX12_count_119 : decode cX12_count 119 = .ok (.getfield 55, 3) := by decide +kernel
theorem dX12_count_122 : decode cX12_count 122 = .ok (.ireturn, 1) := by decide +kernel
theorem dX12_count_123 : decode cX12_count 123 = .ok (.iload_n 1, 1) := by decide +kernel
theorem dX12_count_124 : decode cX12_count 124 = .ok (.iconst 0, 1) := by decide +kernel
theorem dX12_count_125 : decode cX12_count 125 = .ok (.bipush 6, 2) := by decide +kernel
theorem dX12_count_127 : decode cX12_count 127 = .ok (.invokestatic 79, 3) := by decide +kernel
theorem dX12_count_130 : decode cX12_count 130 = .ok (.ifCond .eq 12, 3) := by decide +kernel
theorem dX12_count_133 : decode cX12_count 133 = .ok (.aload_n 0, 1) := by decide +kernel
theorem dX12_count_134 : decode cX12_count 134 = .ok (.getfield 13, 3) := by decide +kernel
theorem dX12_count_137 : decode cX12_count 137 = .ok (.iload_n 1, 1) := by decide +kernel
theorem dX12_count_138 : decode cX12_count 138 = .ok (.iaload, 1) := by decide +kernel
theorem dX12_count_139 : decode cX12_count 139 = .ok (.goto 4, 3) := by decide +kernel
theorem dX12_count_142 : decode cX12_count 142 = .ok (.iconst (-1), 1) := by decide +kernel
theorem dX12_count_143 : decode cX12_count 143 = .ok (.ireturn, 1) := by decide +kernel
