theorem dX9_init_0 : decode cX9_init 0 = .ok (.aload_n 0, 1) := by decide +kernel
theorem dX9_init_1 : decode cX9_init 1 = .ok (.invokespecial 3, 3) := by decide +kernel
theorem dX9_init_4 : decode cX9_init 4 = .ok (.aload_n 0, 1) := by decide +kernel
theorem dX9_init_5 : decode cX9_init 5 = .ok (.sipush 400, 3) := by decide +kernel
theorem dX9_init_8 : decode cX9_init 8 = .ok (.newarray .int, 2) := by decide +kernel
theorem dX9_init_10 : decode cX9_init 10 = .ok (.putfield 9, 3) := by decide +kernel
theorem dX9_init_13 : decode cX9_init 13 = .ok (.return_, 1) := by decide +kernel
theorem dX9_append_0 : decode cX9_append 0 = .ok (.bipush 24, 2) := by decide +kernel
theorem dX9_append_2 : decode cX9_append 2 = .ok (.istore_n 2, 1) := by decide +kernel
theorem dX9_append_3 : decode cX9_append 3 = .ok (.iload_n 2, 1) := by decide +kernel
theorem dX9_append_4 : decode cX9_append 4 = .ok (.ifCond .lt 45, 3) := by decide +kernel
theorem dX9_append_7 : decode cX9_append 7 = .ok (.aload_n 0, 1) := by decide +kernel
theorem dX9_append_8 : decode cX9_append 8 = .ok (.getfield 15, 3) := by decide +kernel
theorem dX9_append_11 : decode cX9_append 11 = .ok (.sipush 400, 3) := by decide +kernel
theorem dX9_append_14 : decode cX9_append 14 = .ok (.if_icmp .ge 35, 3) := by decide +kernel
theorem dX9_append_17 : decode cX9_append 17 = .ok (.aload_n 0, 1) := by decide +kernel
theorem dX9_append_18 : decode cX9_append 18 = .ok (.getfield 9, 3) := by decide +kernel
theorem dX9_append_21 : decode cX9_append 21 = .ok (.aload_n 0, 1) := by decide +kernel
theorem dX9_append_22 : decode cX9_append 22 = .ok (.getfield 15, 3) := by decide +kernel
theorem dX9_append_25 : decode cX9_append 25 = .ok (.iload_n 1, 1) := by decide +kernel
theorem dX9_append_26 : decode cX9_append 26 = .ok (.iload_n 2, 1) := by decide +kernel
theorem dX9_append_27 : decode cX9_append 27 = .ok (.iushr, 1) := by decide +kernel
theorem dX9_append_28 : decode cX9_append 28 = .ok (.sipush 255, 3) := by decide +kernel
theorem dX9_append_31 : decode cX9_append 31 = .ok (.iand, 1) := by decide +kernel
theorem dX9_append_32 : decode cX9_append 32 = .ok (.iastore, 1) := by decide +kernel
theorem dX9_append_33 : decode cX9_append 33 = .ok (.aload_n 0, 1) := by decide +kernel
theorem dX9_append_34 : decode cX9_append 34 = .ok (.dup, 1) := by decide +kernel
theorem dX9_append_35 : decode cX9_append 35 = .ok (.getfield 15, 3) := by decide +kernel
theorem dX9_append_38 : decode cX9_append 38 = .ok (.iconst 1, 1) := by decide +kernel
theorem dX9_append_39 : decode cX9_append 39 = .ok (.iadd, 1) := by decide +kernel
theorem dX9_append_40 : decode cX9_append 40 = .ok (.putfield 15, 3) := by decide +kernel
theorem dX9_append_43 : decode cX9_append 43 = .ok (.iinc 2 (-8), 3) := by decide +kernel
theorem dX9_append_46 : decode cX9_append 46 = .ok (.goto (-43), 3) := by decide +kernel
theorem dX9_append_49 : decode cX9_append 49 = .ok (.return_, 1) := by decide +kernel
theorem dX9_begin_0 : decode cX9_begin 0 = .ok (.aload_n 0, 1) := by decide +kernel
theorem dX9_begin_1 : decode cX9_begin 1 = .ok (.iconst 0, 1) := by decide +kernel
theorem dX9_begin_2 : decode cX9_begin 2 = .ok (.putfield 19, 3) := by decide +kernel
theorem dX9_begin_5 : decode cX9_begin 5 = .ok (.aload_n 0, 1) := by decide +kernel
theorem dX9_begin_6 : decode cX9_begin 6 = .ok (.invokevirtual 22, 3) := by decide +kernel
theorem dX9_begin_9 : decode cX9_begin 9 = .ok (.return_, 1) := by decide +kernel
theorem dX9_advance_0 : decode cX9_advance 0 = .ok (.aload_n 0, 1) := by decide +kernel
theorem dX9_advance_1 : decode cX9_advance 1 = .ok (.getfield 19, 3) := by decide +kernel
theorem dX9_advance_4 : decode cX9_advance 4 = .ok (.istore_n 1, 1) := by decide +kernel
theorem dX9_advance_5 : decode cX9_advance 5 = .ok (.iload_n 1, 1) := by decide +kernel
theorem dX9_advance_6 : decode cX9_advance 6 = .ok (.aload_n 0, 1) := by decide +kernel
theorem dX9_advance_7 : decode cX9_advance 7 = .ok (.getfield 15, 3) := by decide +kernel
theorem dX9_advance_10 : decode cX9_advance 10 = .ok (.if_icmp .ge 20, 3) := by decide +kernel
theorem dX9_advance_13 : decode cX9_advance 13 = .ok (.aload_n 0, 1) := by decide +kernel
theorem dX9_advance_14 : decode cX9_advance 14 = .ok (.getfield 9, 3) := by decide +kernel
theorem dX9_advance_17 : decode cX9_advance 17 = .ok (.iload_n 1, 1) := by decide +kernel
theorem dX9_advance_18 : decode cX9_advance 18 = .ok (.iaload, 1) := by decide +kernel
theorem dX9_advance_19 : decode cX9_advance 19 = .ok (.bipush 32, 2) := by decide +kernel
theorem dX9_advance_21 : decode cX9_advance 21 = .ok (.if_icmp .ne 9, 3) := by decide +kernel
theorem dX9_advance_24 : decode cX9_advance 24 = .ok (.iinc 1 1, 3) := by decide +kernel
theorem dX9_advance_27 : decode cX9_advance 27 = .ok (.goto (-22), 3) := by decide +kernel
theorem dX9_advance_30 : decode cX9_advance 30 = .ok (.aload_n 0, 1) := by decide +kernel
theorem dX9_advance_31 : decode cX9_advance 31 = .ok (.iload_n 1, 1) := by decide +kernel
theorem dX9_advance_32 : decode cX9_advance 32 = .ok (.putfield 25, 3) := by decide +kernel
theorem dX9_advance_35 : decode cX9_advance 35 = .ok (.aload_n 0, 1) := by decide +kernel
theorem dX9_advance_36 : decode cX9_advance 36 = .ok (.aload_n 0, 1) := by decide +kernel
theorem dX9_advance_37 : decode cX9_advance 37 = .ok (.iload_n 1, 1) := by decide +kernel
theorem dX9_advance_38 : decode cX9_advance 38 = .ok (.invokevirtual 28, 3) := by decide +kernel
theorem dX9_advance_41 : decode cX9_advance 41 = .ok (.putfield 32, 3) := by decide +kernel
theorem dX9_advance_44 : decode cX9_advance 44 = .ok (.iload_n 1, 1) := by decide +kernel
theorem dX9_advance_45 : decode cX9_advance 45 = .ok (.aload_n 0, 1) := by decide +kernel
theorem dX9_advance_46 : decode cX9_advance 46 = .ok (.getfield 15, 3) := by decide +kernel
theorem dX9_advance_49 : decode cX9_advance 49 = .ok (.if_icmp .ge 6, 3) := by decide +kernel
theorem dX9_advance_52 : decode cX9_advance 52 = .ok (.iinc 1 1, 3) := by decide +kernel
theorem dX9_advance_55 : decode cX9_advance 55 = .ok (.aload_n 0, 1) := by decide +kernel
theorem dX9_advance_56 : decode cX9_advance 56 = .ok (.getfield 32, 3) := by decide +kernel
theorem dX9_advance_59 : decode cX9_advance 59 = .ok (.iconst 3, 1) := by decide +kernel
theorem dX9_advance_60 : decode cX9_advance 60 = .ok (.if_icmp .eq 29, 3) := by decide +kernel
theorem dX9_advance_63 : decode cX9_advance 63 = .ok (.iload_n 1, 1) := by decide +kernel
theorem dX9_advance_64 : decode cX9_advance 64 = .ok (.aload_n 0, 1) := by decide +kernel
theorem dX9_advance_65 : decode cX9_advance 65 = .ok (.getfield 15, 3) := by decide +kernel
theorem dX9_advance_68 : decode cX9_advance 68 = .ok (.if_icmp .ge 21, 3) := by decide +kernel
theorem dX9_advance_71 : decode cX9_advance 71 = .ok (.aload_n 0, 1) := by decide +kernel
theorem dX9_advance_72 : decode cX9_advance 72 = .ok (.iload_n 1, 1) := by decide +kernel
theorem dX9_advance_73 : decode cX9_advance 73 = .ok (.invokevirtual 28, 3) := by decide +kernel
theorem dX9_advance_76 : decode cX9_advance 76 = .ok (.aload_n 0, 1) := by decide +kernel
theorem dX9_advance_77 : decode cX9_advance 77 = .ok (.getfield 32, 3) := by decide +kernel
theorem dX9_advance_80 : decode cX9_advance 80 = .ok (.if_icmp .ne 9, 3) := by decide +kernel
theorem dX9_advance_83 : decode cX9_advance 83 = .ok (.iinc 1 1, 3) := by decide +kernel
theorem dX9_advance_86 : decode cX9_advance 86 = .ok (.goto (-31), 3) := by decide +kernel
theorem dX9_advance_89 : decode cX9_advance 89 = .ok (.aload_n 0, 1) := by decide +kernel
theorem dX9_advance_90 : decode cX9_advance 90 = .ok (.iload_n 1, 1) := by decide +kernel
theorem dX9_advance_91 : decode cX9_advance 91 = .ok (.putfield 19, 3) := by decide +kernel
theorem dX9_advance_94 : decode cX9_advance 94 = .ok (.return_, 1) := by decide +kernel
theorem dX9_kindAt_0 : decode cX9_kindAt 0 = .ok (.iload_n 1, 1) := by decide +kernel
theorem dX9_kindAt_1 : decode cX9_kindAt 1 = .ok (.aload_n 0, 1) := by decide +kernel
theorem dX9_kindAt_2 : decode cX9_kindAt 2 = .ok (.getfield 15, 3) := by decide +kernel
theorem dX9_kindAt_5 : decode cX9_kindAt 5 = .ok (.if_icmp .lt 5, 3) := by decide +kernel
theorem dX9_kindAt_8 : decode cX9_kindAt 8 = .ok (.iconst 0, 1) := by decide +kernel
theorem dX9_kindAt_9 : decode cX9_kindAt 9 = .ok (.ireturn, 1) := by decide +kernel
theorem dX9_kindAt_10 : decode cX9_kindAt 10 = .ok (.aload_n 0, 1) := by decide +kernel
theorem dX9_kindAt_11 : decode cX9_kindAt 11 = .ok (.getfield 9, 3) := by decide +kernel
theorem dX9_kindAt_14 : decode cX9_kindAt 14 = .ok (.iload_n 1, 1) := by decide +kernel
theorem dX9_kindAt_15 : decode cX9_kindAt 15 = .ok (.iaload, 1) := by decide +kernel
theorem dX9_kindAt_16 : decode cX9_kindAt 16 = .ok (.bipush 97, 2) := by decide +kernel
theorem dX9_kindAt_18 : decode cX9_kindAt 18 = .ok (.if_icmp .lt 16, 3) := by decide +kernel
theorem dX9_kindAt_21 : decode cX9_kindAt 21 = .ok (.aload_n 0, 1) := by decide +kernel
theorem dX9_kindAt_22 : decode cX9_kindAt 22 = .ok (.getfield 9, 3) := by decide +kernel
theorem dX9_kindAt_25 : decode cX9_kindAt 25 = .ok (.iload_n 1, 1) := by decide +kernel
theorem dX9_kindAt_26 : decode cX9_kindAt 26 = .ok (.iaload, 1) := by decide +kernel
theorem dX9_kindAt_27 : decode cX9_kindAt 27 = .ok (.bipush 122, 2) := by decide +kernel
theorem dX9_kindAt_29 : decode cX9_kindAt 29 = .ok (.if_icmp .gt 5, 3) := by decide +kernel
theorem dX9_kindAt_32 : decode cX9_kindAt 32 = .ok (.iconst 1, 1) := by decide +kernel
theorem dX9_kindAt_33 : decode cX9_kindAt 33 = .ok (.ireturn, 1) := by decide +kernel
theorem dX9_kindAt_34 : decode cX9_kindAt 34 = .ok (.aload_n 0, 1) := by decide +kernel
theorem dX9_kindAt_35 : decode cX9_kindAt 35 = .ok (.getfield 9, 3) := by decide +kernel
theorem dX9_kindAt_38 : decode cX9_kindAt 38 = .ok (.iload_n 1, 1) := by decide +kernel
theorem dX9_kindAt_39 : decode cX9_kindAt 39 = .ok (.iaload, 1) := by decide +kernel
theorem dX9_kindAt_40 : decode cX9_kindAt 40 = .ok (.bipush 48, 2) := by decide +kernel
theorem dX9_kindAt_42 : decode cX9_kindAt 42 = .ok (.if_icmp .lt 18, 3) := by decide +kernel
theorem dX9_kindAt_45 : decode cX9_kindAt 45 = .ok (.aload_n 0, 1) := by decide +kernel
theorem dX9_kindAt_46 : decode cX9_kindAt 46 = .ok (.getfield 9, 3) := by decide +kernel
theorem dX9_kindAt_49 : decode cX9_kindAt 49 = .ok (.iload_n 1, 1) := by decide +kernel
theorem dX9_kindAt_50 : decode cX9_kindAt 50 = .ok (.iaload, 1) := by decide +kernel
theorem dX9_kindAt_51 : decode cX9_kindAt 51 = .ok (.bipush 57, 2) := by decide +kernel
theorem dX9_kindAt_53 : decode cX9_kindAt 53 = .ok (.if_icmp .gt 7, 3) := by decide +kernel
theorem dX9_kindAt_56 : decode cX9_kindAt 56 = .ok (.iconst 2, 1) := by decide +kernel
theorem dX9_kindAt_57 : decode cX9_kindAt 57 = .ok (.goto 4, 3) := by decide +kernel
theorem dX9_kindAt_60 : decode cX9_kindAt 60 = .ok (.iconst 3, 1) := by decide +kernel
theorem dX9_kindAt_61 : decode cX9_kindAt 61 = .ok (.ireturn, 1) := by decide +kernel
theorem dX9_isOver_0 : decode cX9_isOver 0 = .ok (.aload_n 0, 1) := by decide +kernel
theorem dX9_isOver_1 : decode cX9_isOver 1 = .ok (.getfield 32, 3) := by decide +kernel
theorem dX9_isOver_4 : decode cX9_isOver 4 = .ok (.ifCond .ne 7, 3) := by decide +kernel
theorem dX9_isOver_7 : decode cX9_isOver 7 = .ok (.iconst 1, 1) := by decide +kernel
theorem dX9_isOver_8 : decode cX9_isOver 8 = .ok (.goto 4, 3) := by decide +kernel
theorem dX9_isOver_11 : decode cX9_isOver 11 = .ok (.iconst 0, 1) := by decide +kernel
theorem dX9_isOver_12 : decode cX9_isOver 12 = .ok (.ireturn, 1) := by decide +kernel
theorem dX9_isSign_0 : decode cX9_isSign 0 = .ok (.aload_n 0, 1) := by decide +kernel
theorem dX9_isSign_1 : decode cX9_isSign 1 = .ok (.getfield 32, 3) := by decide +kernel
theorem dX9_isSign_4 : decode cX9_isSign 4 = .ok (.iconst 3, 1) := by decide +kernel
theorem dX9_isSign_5 : decode cX9_isSign 5 = .ok (.if_icmp .ne 20, 3) := by decide +kernel
theorem dX9_isSign_8 : decode cX9_isSign 8 = .ok (.aload_n 0, 1) := by decide +kernel
theorem dX9_isSign_9 : decode cX9_isSign 9 = .ok (.getfield 9, 3) := by decide +kernel
theorem dX9_isSign_12 : decode cX9_isSign 12 = .ok (.aload_n 0, 1) := by decide +kernel
theorem dX9_isSign_13 : decode cX9_isSign 13 = .ok (.getfield 25, 3) := by decide +kernel
theorem dX9_isSign_16 : decode cX9_isSign 16 = .ok (.iaload, 1) := by decide +kernel
theorem dX9_isSign_17 : decode cX9_isSign 17 = .ok (.iload_n 1, 1) := by decide +kernel
theorem dX9_isSign_18 : decode cX9_isSign 18 = .ok (.if_icmp .ne 7, 3) := by decide +kernel
theorem dX9_isSign_21 : decode cX9_isSign 21 = .ok (.iconst 1, 1) := by decide +kernel
theorem dX9_isSign_22 : decode cX9_isSign 22 = .ok (.goto 4, 3) := by decide +kernel
theorem dX9_isSign_25 : decode cX9_isSign 25 = .ok (.iconst 0, 1) := by decide +kernel
theorem dX9_isSign_26 : decode cX9_isSign 26 = .ok (.ireturn, 1) := by decide +kernel
theorem dX9_isWord_0 : decode cX9_isWord 0 = .ok (.aload_n 0, 1) := by decide +kernel
theorem dX9_isWord_1 : decode cX9_isWord 1 = .ok (.getfield 32, 3) := by decide +kernel
theorem dX9_isWord_4 : decode cX9_isWord 4 = .ok (.iconst 1, 1) := by decide +kernel
theorem dX9_isWord_5 : decode cX9_isWord 5 = .ok (.if_icmp .ne 7, 3) := by decide +kernel
theorem dX9_isWord_8 : decode cX9_isWord 8 = .ok (.iconst 1, 1) := by decide +kernel
theorem dX9_isWord_9 : decode cX9_isWord 9 = .ok (.goto 4, 3) := by decide +kernel
theorem dX9_isWord_12 : decode cX9_isWord 12 = .ok (.iconst 0, 1) := by decide +kernel
theorem dX9_isWord_13 : decode cX9_isWord 13 = .ok (.ireturn, 1) := by decide +kernel
theorem dX9_isFigures_0 : decode cX9_isFigures 0 = .ok (.aload_n 0, 1) := by decide +kernel
theorem dX9_isFigures_1 : decode cX9_isFigures 1 = .ok (.getfield 32, 3) := by decide +kernel
theorem dX9_isFigures_4 : decode cX9_isFigures 4 = .ok (.iconst 2, 1) := by decide +kernel
theorem dX9_isFigures_5 : decode cX9_isFigures 5 = .ok (.if_icmp .ne 20, 3) := by decide +kernel
theorem dX9_isFigures_8 : decode cX9_isFigures 8 = .ok (.aload_n 0, 1) := by decide +kernel
theorem dX9_isFigures_9 : decode cX9_isFigures 9 = .ok (.getfield 19, 3) := by decide +kernel
theorem dX9_isFigures_12 : decode cX9_isFigures 12 = .ok (.aload_n 0, 1) := by decide +kernel
theorem dX9_isFigures_13 : decode cX9_isFigures 13 = .ok (.getfield 25, 3) := by decide +kernel
theorem dX9_isFigures_16 : decode cX9_isFigures 16 = .ok (.isub, 1) := by decide +kernel
theorem dX9_isFigures_17 : decode cX9_isFigures 17 = .ok (.iload_n 1, 1) := by decide +kernel
theorem dX9_isFigures_18 : decode cX9_isFigures 18 = .ok (.if_icmp .ne 7, 3) := by decide +kernel
theorem dX9_isFigures_21 : decode cX9_isFigures 21 = .ok (.iconst 1, 1) := by decide +kernel
theorem dX9_isFigures_22 : decode cX9_isFigures 22 = .ok (.goto 4, 3) := by decide +kernel
theorem dX9_isFigures_25 : decode cX9_isFigures 25 = .ok (.iconst 0, 1) := by decide +kernel
theorem dX9_isFigures_26 : decode cX9_isFigures 26 = .ok (.ireturn, 1) := by decide +kernel
theorem dX9_wordAmong_0 : decode cX9_wordAmong 0 = .ok (.aload_n 0, 1) := by decide +kernel
theorem dX9_wordAmong_1 : decode cX9_wordAmong 1 = .ok (.getfield 32, 3) := by decide +kernel
theorem dX9_wordAmong_4 : decode cX9_wordAmong 4 = .ok (.iconst 1, 1) := by decide +kernel
theorem dX9_wordAmong_5 : decode cX9_wordAmong 5 = .ok (.if_icmp .eq 5, 3) := by decide +kernel
theorem dX9_wordAmong_8 : decode cX9_wordAmong 8 = .ok (.iconst (-1), 1) := by decide +kernel
theorem dX9_wordAmong_9 : decode cX9_wordAmong 9 = .ok (.ireturn, 1) := by decide +kernel
theorem dX9_wordAmong_10 : decode cX9_wordAmong 10 = .ok (.iconst 0, 1) := by decide +kernel
theorem dX9_wordAmong_11 : decode cX9_wordAmong 11 = .ok (.istore_n 2, 1) := by decide +kernel
theorem dX9_wordAmong_12 : decode cX9_wordAmong 12 = .ok (.aload_n 0, 1) := by decide +kernel
theorem dX9_wordAmong_13 : decode cX9_wordAmong 13 = .ok (.getfield 25, 3) := by decide +kernel
theorem dX9_wordAmong_16 : decode cX9_wordAmong 16 = .ok (.istore_n 3, 1) := by decide +kernel
theorem dX9_wordAmong_17 : decode cX9_wordAmong 17 = .ok (.iconst 1, 1) := by decide +kernel
theorem dX9_wordAmong_18 : decode cX9_wordAmong 18 = .ok (.istore 4, 2) := by decide +kernel
theorem dX9_wordAmong_20 : decode cX9_wordAmong 20 = .ok (.iconst 0, 1) := by decide +kernel
theorem dX9_wordAmong_21 : decode cX9_wordAmong 21 = .ok (.istore 5, 2) := by decide +kernel
theorem dX9_wordAmong_23 : decode cX9_wordAmong 23 = .ok (.iload 5, 2) := by decide +kernel
theorem dX9_wordAmong_25 : decode cX9_wordAmong 25 = .ok (.aload_n 1, 1) := by decide +kernel
theorem dX9_wordAmong_26 : decode cX9_wordAmong 26 = .ok (.invokevirtual 35, 3) := by decide +kernel
theorem dX9_wordAmong_29 : decode cX9_wordAmong 29 = .ok (.if_icmp .ge 87, 3) := by decide +kernel
theorem dX9_wordAmong_32 : decode cX9_wordAmong 32 = .ok (.aload_n 1, 1) := by decide +kernel
theorem dX9_wordAmong_33 : decode cX9_wordAmong 33 = .ok (.iload 5, 2) := by decide +kernel
theorem dX9_wordAmong_35 : decode cX9_wordAmong 35 = .ok (.invokevirtual 40, 3) := by decide +kernel
theorem dX9_wordAmong_38 : decode cX9_wordAmong 38 = .ok (.istore 6, 2) := by decide +kernel
theorem dX9_wordAmong_40 : decode cX9_wordAmong 40 = .ok (.iload 6, 2) := by decide +kernel
theorem dX9_wordAmong_42 : decode cX9_wordAmong 42 = .ok (.bipush 32, 2) := by decide +kernel
theorem dX9_wordAmong_44 : decode cX9_wordAmong 44 = .ok (.if_icmp .eq 40, 3) := by decide +kernel
theorem dX9_wordAmong_47 : decode cX9_wordAmong 47 = .ok (.iload 4, 2) := by decide +kernel
theorem dX9_wordAmong_49 : decode cX9_wordAmong 49 = .ok (.ifCond .eq 26, 3) := by decide +kernel
theorem dX9_wordAmong_52 : decode cX9_wordAmong 52 = .ok (.iload_n 3, 1) := by decide +kernel
theorem dX9_wordAmong_53 : decode cX9_wordAmong 53 = .ok (.aload_n 0, 1) := by decide +kernel
theorem dX9_wordAmong_54 : decode cX9_wordAmong 54 = .ok (.getfield 19, 3) := by decide +kernel
theorem dX9_wordAmong_57 : decode cX9_wordAmong 57 = .ok (.if_icmp .ge 18, 3) := by decide +kernel
theorem dX9_wordAmong_60 : decode cX9_wordAmong 60 = .ok (.aload_n 0, 1) := by decide +kernel
theorem dX9_wordAmong_61 : decode cX9_wordAmong 61 = .ok (.getfield 9, 3) := by decide +kernel
theorem dX9_wordAmong_64 : decode cX9_wordAmong 64 = .ok (.iload_n 3, 1) := by decide +kernel
theorem dX9_wordAmong_65 : decode cX9_wordAmong 65 = .ok (.iaload, 1) := by decide +kernel
theorem dX9_wordAmong_66 : decode cX9_wordAmong 66 = .ok (.iload 6, 2) := by decide +kernel
theorem dX9_wordAmong_68 : decode cX9_wordAmong 68 = .ok (.if_icmp .ne 7, 3) := by decide +kernel
theorem dX9_wordAmong_71 : decode cX9_wordAmong 71 = .ok (.iconst 1, 1) := by decide +kernel
theorem dX9_wordAmong_72 : decode cX9_wordAmong 72 = .ok (.goto 4, 3) := by decide +kernel
theorem dX9_wordAmong_75 : decode cX9_wordAmong 75 = .ok (.iconst 0, 1) := by decide +kernel
theorem dX9_wordAmong_76 : decode cX9_wordAmong 76 = .ok (.istore 4, 2) := by decide +kernel
theorem dX9_wordAmong_78 : decode cX9_wordAmong 78 = .ok (.iinc 3 1, 3) := by decide +kernel
theorem dX9_wordAmong_81 : decode cX9_wordAmong 81 = .ok (.goto 29, 3) := by decide +kernel
theorem dX9_wordAmong_84 : decode cX9_wordAmong 84 = .ok (.iload 4, 2) := by decide +kernel
theorem dX9_wordAmong_86 : decode cX9_wordAmong 86 = .ok (.ifCond .eq 13, 3) := by decide +kernel
theorem dX9_wordAmong_89 : decode cX9_wordAmong 89 = .ok (.iload_n 3, 1) := by decide +kernel
theorem dX9_wordAmong_90 : decode cX9_wordAmong 90 = .ok (.aload_n 0, 1) := by decide +kernel
theorem dX9_wordAmong_91 : decode cX9_wordAmong 91 = .ok (.getfield 19, 3) := by decide +kernel
theorem dX9_wordAmong_94 : decode cX9_wordAmong 94 = .ok (.if_icmp .ne 5, 3) := by decide +kernel
theorem dX9_wordAmong_97 : decode cX9_wordAmong 97 = .ok (.iload_n 2, 1) := by decide +kernel
theorem dX9_wordAmong_98 : decode cX9_wordAmong 98 = .ok (.ireturn, 1) := by decide +kernel
theorem dX9_wordAmong_99 : decode cX9_wordAmong 99 = .ok (.iinc 2 1, 3) := by decide +kernel
theorem dX9_wordAmong_102 : decode cX9_wordAmong 102 = .ok (.aload_n 0, 1) := by decide +kernel
theorem dX9_wordAmong_103 : decode cX9_wordAmong 103 = .ok (.getfield 25, 3) := by decide +kernel
theorem dX9_wordAmong_106 : decode cX9_wordAmong 106 = .ok (.istore_n 3, 1) := by decide +kernel
theorem dX9_wordAmong_107 : decode cX9_wordAmong 107 = .ok (.iconst 1, 1) := by decide +kernel
theorem dX9_wordAmong_108 : decode cX9_wordAmong 108 = .ok (.istore 4, 2) := by decide +kernel
theorem dX9_wordAmong_110 : decode cX9_wordAmong 110 = .ok (.iinc 5 1, 3) := by decide +kernel
theorem dX9_wordAmong_113 : decode cX9_wordAmong 113 = .ok (.goto (-90), 3) := by decide +kernel
theorem dX9_wordAmong_116 : decode cX9_wordAmong 116 = .ok (.iload 4, 2) := by decide +kernel
theorem dX9_wordAmong_118 : decode cX9_wordAmong 118 = .ok (.ifCond .eq 15, 3) := by decide +kernel
theorem dX9_wordAmong_121 : decode cX9_wordAmong 121 = .ok (.iload_n 3, 1) := by decide +kernel
theorem dX9_wordAmong_122 : decode cX9_wordAmong 122 = .ok (.aload_n 0, 1) := by decide +kernel
theorem dX9_wordAmong_123 : decode cX9_wordAmong 123 = .ok (.getfield 19, 3) := by decide +kernel
theorem dX9_wordAmong_126 : decode cX9_wordAmong 126 = .ok (.if_icmp .ne 7, 3) := by decide +kernel
theorem dX9_wordAmong_129 : decode cX9_wordAmong 129 = .ok (.iload_n 2, 1) := by decide +kernel
theorem dX9_wordAmong_130 : decode cX9_wordAmong 130 = .ok (.goto 4, 3) := by decide +kernel
theorem dX9_wordAmong_133 : decode cX9_wordAmong 133 = .ok (.iconst (-1), 1) := by decide +kernel
theorem dX9_wordAmong_134 : decode cX9_wordAmong 134 = .ok (.ireturn, 1) := by decide +kernel
theorem dX9_number_0 : decode cX9_number 0 = .ok (.aload_n 0, 1) := by decide +kernel
theorem dX9_number_1 : decode cX9_number 1 = .ok (.getfield 32, 3) := by decide +kernel
theorem dX9_number_4 : decode cX9_number 4 = .ok (.iconst 2, 1) := by decide +kernel
theorem dX9_number_5 : decode cX9_number 5 = .ok (.if_icmp .ne 16, 3) := by decide +kernel
theorem dX9_number_8 : decode cX9_number 8 = .ok (.aload_n 0, 1) := by decide +kernel
theorem dX9_number_9 : decode cX9_number 9 = .ok (.getfield 19, 3) := by decide +kernel
theorem dX9_number_12 : decode cX9_number 12 = .ok (.aload_n 0, 1) := by decide +kernel
theorem dX9_number_13 : decode cX9_number 13 = .ok (.getfield 25, 3) := by decide +kernel
theorem dX9_number_16 : decode cX9_number 16 = .ok (.isub, 1) := by decide +kernel
theorem dX9_number_17 : decode cX9_number 17 = .ok (.iconst 3, 1) := by decide +kernel
theorem dX9_number_18 : decode cX9_number 18 = .ok (.if_icmp .le 5, 3) := by decide +kernel
theorem dX9_number_21 : decode cX9_number 21 = .ok (.iconst (-1), 1) := by decide +kernel
theorem dX9_number_22 : decode cX9_number 22 = .ok (.ireturn, 1) := by decide +kernel
theorem dX9_number_23 : decode cX9_number 23 = .ok (.iconst 0, 1) := by decide +kernel
theorem dX9_number_24 : decode cX9_number 24 = .ok (.istore_n 3, 1) := by decide +kernel
theorem dX9_number_25 : decode cX9_number 25 = .ok (.aload_n 0, 1) := by decide +kernel
theorem dX9_number_26 : decode cX9_number 26 = .ok (.getfield 25, 3) := by decide +kernel
theorem dX9_number_29 : decode cX9_number 29 = .ok (.istore 4, 2) := by decide +kernel
theorem dX9_number_31 : decode cX9_number 31 = .ok (.iload 4, 2) := by decide +kernel
theorem dX9_number_33 : decode cX9_number 33 = .ok (.aload_n 0, 1) := by decide +kernel
theorem dX9_number_34 : decode cX9_number 34 = .ok (.getfield 19, 3) := by decide +kernel
theorem dX9_number_37 : decode cX9_number 37 = .ok (.if_icmp .ge 25, 3) := by decide +kernel
theorem dX9_number_40 : decode cX9_number 40 = .ok (.iload_n 3, 1) := by decide +kernel
theorem dX9_number_41 : decode cX9_number 41 = .ok (.bipush 10, 2) := by decide +kernel
theorem dX9_number_43 : decode cX9_number 43 = .ok (.imul, 1) := by decide +kernel
theorem dX9_number_44 : decode cX9_number 44 = .ok (.aload_n 0, 1) := by decide +kernel
theorem dX9_number_45 : decode cX9_number 45 = .ok (.getfield 9, 3) := by decide +kernel
theorem dX9_number_48 : decode cX9_number 48 = .ok (.iload 4, 2) := by decide +kernel
theorem dX9_number_50 : decode cX9_number 50 = .ok (.iaload, 1) := by decide +kernel
theorem dX9_number_51 : decode cX9_number 51 = .ok (.iadd, 1) := by decide +kernel
theorem dX9_number_52 : decode cX9_number 52 = .ok (.bipush 48, 2) := by decide +kernel
theorem dX9_number_54 : decode cX9_number 54 = .ok (.isub, 1) := by decide +kernel
theorem dX9_number_55 : decode cX9_number 55 = .ok (.istore_n 3, 1) := by decide +kernel
theorem dX9_number_56 : decode cX9_number 56 = .ok (.iinc 4 1, 3) := by decide +kernel
theorem dX9_number_59 : decode cX9_number 59 = .ok (.goto (-28), 3) := by decide +kernel
theorem dX9_number_62 : decode cX9_number 62 = .ok (.iload_n 3, 1) := by decide +kernel
theorem dX9_number_63 : decode cX9_number 63 = .ok (.iload_n 1, 1) := by decide +kernel
theorem dX9_number_64 : decode cX9_number 64 = .ok (.if_icmp .lt 12, 3) := by decide +kernel
theorem dX9_number_67 : decode cX9_number 67 = .ok (.iload_n 3, 1) := by decide +kernel
theorem dX9_number_68 : decode cX9_number 68 = .ok (.iload_n 2, 1) := by decide +kernel
theorem dX9_number_69 : decode cX9_number 69 = .ok (.if_icmp .gt 7, 3) := by decide +kernel
theorem dX9_number_72 : decode cX9_number 72 = .ok (.iload_n 3, 1) := by decide +kernel
theorem dX9_number_73 : decode cX9_number 73 = .ok (.goto 4, 3) := by decide +kernel
theorem dX9_number_76 : decode cX9_number 76 = .ok (.iconst (-1), 1) := by decide +kernel
theorem dX9_number_77 : decode cX9_number 77 = .ok (.ireturn, 1) := by decide +kernel
theorem dX9_skipWord_0 : decode cX9_skipWord 0 = .ok (.aload_n 0, 1) := by decide +kernel
theorem dX9_skipWord_1 : decode cX9_skipWord 1 = .ok (.aload_n 1, 1) := by decide +kernel
theorem dX9_skipWord_2 : decode cX9_skipWord 2 = .ok (.invokevirtual 44, 3) := by decide +kernel
theorem dX9_skipWord_5 : decode cX9_skipWord 5 = .ok (.ifCond .eq 5, 3) := by decide +kernel
theorem dX9_skipWord_8 : decode cX9_skipWord 8 = .ok (.iconst 0, 1) := by decide +kernel
theorem dX9_skipWord_9 : decode cX9_skipWord 9 = .ok (.ireturn, 1) := by decide +kernel
theorem dX9_skipWord_10 : decode cX9_skipWord 10 = .ok (.aload_n 0, 1) := by decide +kernel
theorem dX9_skipWord_11 : decode cX9_skipWord 11 = .ok (.invokevirtual 22, 3) := by decide +kernel
theorem dX9_skipWord_14 : decode cX9_skipWord 14 = .ok (.iconst 1, 1) := by decide +kernel
theorem dX9_skipWord_15 : decode cX9_skipWord 15 = .ok (.ireturn, 1) := by decide +kernel
theorem dX9_skipSign_0 : decode cX9_skipSign 0 = .ok (.aload_n 0, 1) := by decide +kernel
theorem dX9_skipSign_1 : decode cX9_skipSign 1 = .ok (.iload_n 1, 1) := by decide +kernel
theorem dX9_skipSign_2 : decode cX9_skipSign 2 = .ok (.invokevirtual 48, 3) := by decide +kernel
theorem dX9_skipSign_5 : decode cX9_skipSign 5 = .ok (.ifCond .ne 5, 3) := by decide +kernel
theorem dX9_skipSign_8 : decode cX9_skipSign 8 = .ok (.iconst 0, 1) := by decide +kernel
theorem dX9_skipSign_9 : decode cX9_skipSign 9 = .ok (.ireturn, 1) := by decide +kernel
theorem dX9_skipSign_10 : decode cX9_skipSign 10 = .ok (.aload_n 0, 1) := by decide +kernel
theorem dX9_skipSign_11 : decode cX9_skipSign 11 = .ok (.invokevirtual 22, 3) := by decide +kernel
theorem dX9_skipSign_14 : decode cX9_skipSign 14 = .ok (.iconst 1, 1) := by decide +kernel
theorem dX9_skipSign_15 : decode cX9_skipSign 15 = .ok (.ireturn, 1) := by decide +kernel
theorem dX10_init_0 : decode cX10_init 0 = .ok (.aload_n 0, 1) := by decide +kernel
theorem dX10_init_1 : decode cX10_init 1 = .ok (.invokespecial 3, 3) := by decide +kernel
theorem dX10_init_4 : decode cX10_init 4 = .ok (.aload_n 0, 1) := by decide +kernel
theorem dX10_init_5 : decode cX10_init 5 = .ok (.aload_n 1, 1) := by decide +kernel
theorem dX10_init_6 : decode cX10_init 6 = .ok (.putfield 9, 3) := by decide +kernel
theorem dX10_init_9 : decode cX10_init 9 = .ok (.return_, 1) := by decide +kernel
theorem dX10_widened_0 : decode cX10_widened 0 = .ok (.iload_n 1, 1) := by decide +kernel
theorem dX10_widened_1 : decode cX10_widened 1 = .ok (.istore_n 2, 1) := by decide +kernel
theorem dX10_widened_2 : decode cX10_widened 2 = .ok (.iconst 0, 1) := by decide +kernel
theorem dX10_widened_3 : decode cX10_widened 3 = .ok (.istore_n 3, 1) := by decide +kernel
theorem dX10_widened_4 : decode cX10_widened 4 = .ok (.iload_n 3, 1) := by decide +kernel
theorem dX10_widened_5 : decode cX10_widened 5 = .ok (.aload_n 0, 1) := by decide +kernel
theorem dX10_widened_6 : decode cX10_widened 6 = .ok (.getfield 9, 3) := by decide +kernel
theorem dX10_widened_9 : decode cX10_widened 9 = .ok (.getfield 15, 3) := by decide +kernel
theorem dX10_widened_12 : decode cX10_widened 12 = .ok (.if_icmp .ge 28, 3) := by decide +kernel
theorem dX10_widened_15 : decode cX10_widened 15 = .ok (.iload_n 1, 1) := by decide +kernel
theorem dX10_widened_16 : decode cX10_widened 16 = .ok (.iconst 1, 1) := by decide +kernel
theorem dX10_widened_17 : decode cX10_widened 17 = .ok (.iload_n 3, 1) := by decide +kernel
theorem dX10_widened_18 : decode cX10_widened 18 = .ok (.ishl, 1) := by decide +kernel
theorem dX10_widened_19 : decode cX10_widened 19 = .ok (.iand, 1) := by decide +kernel
theorem dX10_widened_20 : decode cX10_widened 20 = .ok (.ifCond .eq 14, 3) := by decide +kernel
theorem dX10_widened_23 : decode cX10_widened 23 = .ok (.iload_n 2, 1) := by decide +kernel
theorem dX10_widened_24 : decode cX10_widened 24 = .ok (.aload_n 0, 1) := by decide +kernel
theorem dX10_widened_25 : decode cX10_widened 25 = .ok (.getfield 9, 3) := by decide +kernel
theorem dX10_widened_28 : decode cX10_widened 28 = .ok (.iload_n 3, 1) := by decide +kernel
theorem dX10_widened_29 : decode cX10_widened 29 = .ok (.invokevirtual 21, 3) := by decide +kernel
theorem dX10_widened_32 : decode cX10_widened 32 = .ok (.ior, 1) := by decide +kernel
theorem dX10_widened_33 : decode cX10_widened 33 = .ok (.istore_n 2, 1) := by decide +kernel
theorem dX10_widened_34 : decode cX10_widened 34 = .ok (.iinc 3 1, 3) := by decide +kernel
theorem dX10_widened_37 : decode cX10_widened 37 = .ok (.goto (-33), 3) := by decide +kernel
theorem dX10_widened_40 : decode cX10_widened 40 = .ok (.iload_n 2, 1) := by decide +kernel
theorem dX10_widened_41 : decode cX10_widened 41 = .ok (.ireturn, 1) := by decide +kernel
theorem dX10_around_0 : decode cX10_around 0 = .ok (.iconst 1, 1) := by decide +kernel
theorem dX10_around_1 : decode cX10_around 1 = .ok (.iload_n 1, 1) := by decide +kernel
theorem dX10_around_2 : decode cX10_around 2 = .ok (.ishl, 1) := by decide +kernel
theorem dX10_around_3 : decode cX10_around 3 = .ok (.istore_n 2, 1) := by decide +kernel
theorem dX10_around_4 : decode cX10_around 4 = .ok (.iconst 1, 1) := by decide +kernel
theorem dX10_around_5 : decode cX10_around 5 = .ok (.istore_n 3, 1) := by decide +kernel
theorem dX10_around_6 : decode cX10_around 6 = .ok (.iload_n 3, 1) := by decide +kernel
theorem dX10_around_7 : decode cX10_around 7 = .ok (.aload_n 0, 1) := by decide +kernel
theorem dX10_around_8 : decode cX10_around 8 = .ok (.getfield 9, 3) := by decide +kernel
theorem dX10_around_11 : decode cX10_around 11 = .ok (.getfield 15, 3) := by decide +kernel
theorem dX10_around_14 : decode cX10_around 14 = .ok (.if_icmp .ge 15, 3) := by decide +kernel
theorem dX10_around_17 : decode cX10_around 17 = .ok (.aload_n 0, 1) := by decide +kernel
theorem dX10_around_18 : decode cX10_around 18 = .ok (.iload_n 2, 1) := by decide +kernel
theorem dX10_around_19 : decode cX10_around 19 = .ok (.invokevirtual 25, 3) := by decide +kernel
theorem dX10_around_22 : decode cX10_around 22 = .ok (.istore_n 2, 1) := by decide +kernel
theorem dX10_around_23 : decode cX10_around 23 = .ok (.iinc 3 1, 3) := by decide +kernel
theorem dX10_around_26 : decode cX10_around 26 = .ok (.goto (-20), 3) := by decide +kernel
theorem dX10_around_29 : decode cX10_around 29 = .ok (.iload_n 2, 1) := by decide +kernel
theorem dX10_around_30 : decode cX10_around 30 = .ok (.ireturn, 1) := by decide +kernel
theorem dX10_steps_0 : decode cX10_steps 0 = .ok (.iconst 1, 1) := by decide +kernel
theorem dX10_steps_1 : decode cX10_steps 1 = .ok (.iload_n 1, 1) := by decide +kernel
theorem dX10_steps_2 : decode cX10_steps 2 = .ok (.ishl, 1) := by decide +kernel
theorem dX10_steps_3 : decode cX10_steps 3 = .ok (.istore_n 3, 1) := by decide +kernel
theorem dX10_steps_4 : decode cX10_steps 4 = .ok (.iconst 0, 1) := by decide +kernel
theorem dX10_steps_5 : decode cX10_steps 5 = .ok (.istore 4, 2) := by decide +kernel
theorem dX10_steps_7 : decode cX10_steps 7 = .ok (.iload 4, 2) := by decide +kernel
theorem dX10_steps_9 : decode cX10_steps 9 = .ok (.aload_n 0, 1) := by decide +kernel
theorem dX10_steps_10 : decode cX10_steps 10 = .ok (.getfield 9, 3) := by decide +kernel
theorem dX10_steps_13 : decode cX10_steps 13 = .ok (.getfield 15, 3) := by decide +kernel
theorem dX10_steps_16 : decode cX10_steps 16 = .ok (.if_icmp .ge 26, 3) := by decide +kernel
theorem dX10_steps_19 : decode cX10_steps 19 = .ok (.iload_n 3, 1) := by decide +kernel
theorem dX10_steps_20 : decode cX10_steps 20 = .ok (.iconst 1, 1) := by decide +kernel
theorem dX10_steps_21 : decode cX10_steps 21 = .ok (.iload_n 2, 1) := by decide +kernel
theorem dX10_steps_22 : decode cX10_steps 22 = .ok (.ishl, 1) := by decide +kernel
theorem dX10_steps_23 : decode cX10_steps 23 = .ok (.iand, 1) := by decide +kernel
theorem dX10_steps_24 : decode cX10_steps 24 = .ok (.ifCond .eq 6, 3) := by decide +kernel
theorem dX10_steps_27 : decode cX10_steps 27 = .ok (.iload 4, 2) := by decide +kernel
theorem dX10_steps_29 : decode cX10_steps 29 = .ok (.ireturn, 1) := by decide +kernel
theorem dX10_steps_30 : decode cX10_steps 30 = .ok (.aload_n 0, 1) := by decide +kernel
theorem dX10_steps_31 : decode cX10_steps 31 = .ok (.iload_n 3, 1) := by decide +kernel
theorem dX10_steps_32 : decode cX10_steps 32 = .ok (.invokevirtual 25, 3) := by decide +kernel
theorem dX10_steps_35 : decode cX10_steps 35 = .ok (.istore_n 3, 1) := by decide +kernel
theorem dX10_steps_36 : decode cX10_steps 36 = .ok (.iinc 4 1, 3) := by decide +kernel
theorem dX10_steps_39 : decode cX10_steps 39 = .ok (.goto (-32), 3) := by decide +kernel
theorem dX10_steps_42 : decode cX10_steps 42 = .ok (.iconst (-1), 1) := by decide +kernel
theorem dX10_steps_43 : decode cX10_steps 43 = .ok (.ireturn, 1) := by decide +kernel
theorem dX10_groups_0 : decode cX10_groups 0 = .ok (.iconst 0, 1) := by decide +kernel
theorem dX10_groups_1 : decode cX10_groups 1 = .ok (.istore_n 1, 1) := by decide +kernel
theorem dX10_groups_2 : decode cX10_groups 2 = .ok (.iconst 0, 1) := by decide +kernel
theorem dX10_groups_3 : decode cX10_groups 3 = .ok (.istore_n 2, 1) := by decide +kernel
theorem dX10_groups_4 : decode cX10_groups 4 = .ok (.iload_n 2, 1) := by decide +kernel
theorem dX10_groups_5 : decode cX10_groups 5 = .ok (.aload_n 0, 1) := by decide +kernel
theorem dX10_groups_6 : decode cX10_groups 6 = .ok (.getfield 9, 3) := by decide +kernel
theorem dX10_groups_9 : decode cX10_groups 9 = .ok (.getfield 15, 3) := by decide +kernel
theorem dX10_groups_12 : decode cX10_groups 12 = .ok (.if_icmp .ge 35, 3) := by decide +kernel
theorem dX10_groups_15 : decode cX10_groups 15 = .ok (.aload_n 0, 1) := by decide +kernel
theorem dX10_groups_16 : decode cX10_groups 16 = .ok (.iload_n 2, 1) := by decide +kernel
theorem dX10_groups_17 : decode cX10_groups 17 = .ok (.invokevirtual 28, 3) := by decide +kernel
theorem dX10_groups_20 : decode cX10_groups 20 = .ok (.istore_n 3, 1) := by decide +kernel
theorem dX10_groups_21 : decode cX10_groups 21 = .ok (.iload_n 3, 1) := by decide +kernel
theorem dX10_groups_22 : decode cX10_groups 22 = .ok (.iconst 1, 1) := by decide +kernel
theorem dX10_groups_23 : decode cX10_groups 23 = .ok (.iload_n 2, 1) := by decide +kernel
theorem dX10_groups_24 : decode cX10_groups 24 = .ok (.ishl, 1) := by decide +kernel
theorem dX10_groups_25 : decode cX10_groups 25 = .ok (.if_icmp .eq 16, 3) := by decide +kernel
theorem dX10_groups_28 : decode cX10_groups 28 = .ok (.iload_n 3, 1) := by decide +kernel
theorem dX10_groups_29 : decode cX10_groups 29 = .ok (.invokestatic 31, 3) := by decide +kernel
theorem dX10_groups_32 : decode cX10_groups 32 = .ok (.iconst 1, 1) := by decide +kernel
theorem dX10_groups_33 : decode cX10_groups 33 = .ok (.iload_n 2, 1) := by decide +kernel
theorem dX10_groups_34 : decode cX10_groups 34 = .ok (.ishl, 1) := by decide +kernel
theorem dX10_groups_35 : decode cX10_groups 35 = .ok (.if_icmp .ne 6, 3) := by decide +kernel
theorem dX10_groups_38 : decode cX10_groups 38 = .ok (.iinc 1 1, 3) := by decide +kernel
theorem dX10_groups_41 : decode cX10_groups 41 = .ok (.iinc 2 1, 3) := by decide +kernel
theorem dX10_groups_44 : decode cX10_groups 44 = .ok (.goto (-40), 3) := by decide +kernel
theorem dX10_groups_47 : decode cX10_groups 47 = .ok (.iload_n 1, 1) := by decide +kernel
theorem dX10_groups_48 : decode cX10_groups 48 = .ok (.ireturn, 1) := by decide +kernel
theorem dX10_holding_0 : decode cX10_holding 0 = .ok (.iconst 0, 1) := by decide +kernel
theorem dX10_holding_1 : decode cX10_holding 1 = .ok (.istore_n 1, 1) := by decide +kernel
theorem dX10_holding_2 : decode cX10_holding 2 = .ok (.iconst 0, 1) := by decide +kernel
theorem dX10_holding_3 : decode cX10_holding 3 = .ok (.istore_n 2, 1) := by decide +kernel
theorem dX10_holding_4 : decode cX10_holding 4 = .ok (.iload_n 2, 1) := by decide +kernel
theorem dX10_holding_5 : decode cX10_holding 5 = .ok (.aload_n 0, 1) := by decide +kernel
theorem dX10_holding_6 : decode cX10_holding 6 = .ok (.getfield 9, 3) := by decide +kernel
theorem dX10_holding_9 : decode cX10_holding 9 = .ok (.getfield 15, 3) := by decide +kernel
theorem dX10_holding_12 : decode cX10_holding 12 = .ok (.if_icmp .ge 23, 3) := by decide +kernel
theorem dX10_holding_15 : decode cX10_holding 15 = .ok (.iload_n 1, 1) := by decide +kernel
theorem dX10_holding_16 : decode cX10_holding 16 = .ok (.aload_n 0, 1) := by decide +kernel
theorem dX10_holding_17 : decode cX10_holding 17 = .ok (.getfield 9, 3) := by decide +kernel
theorem dX10_holding_20 : decode cX10_holding 20 = .ok (.iload_n 2, 1) := by decide +kernel
theorem dX10_holding_21 : decode cX10_holding 21 = .ok (.invokevirtual 21, 3) := by decide +kernel
theorem dX10_holding_24 : decode cX10_holding 24 = .ok (.invokestatic 36, 3) := by decide +kernel
theorem dX10_holding_27 : decode cX10_holding 27 = .ok (.iadd, 1) := by decide +kernel
theorem dX10_holding_28 : decode cX10_holding 28 = .ok (.istore_n 1, 1) := by decide +kernel
theorem dX10_holding_29 : decode cX10_holding 29 = .ok (.iinc 2 1, 3) := by decide +kernel
theorem dX10_holding_32 : decode cX10_holding 32 = .ok (.goto (-28), 3) := by decide +kernel
theorem dX10_holding_35 : decode cX10_holding 35 = .ok (.iload_n 1, 1) := by decide +kernel
theorem dX10_holding_36 : decode cX10_holding 36 = .ok (.iconst 2, 1) := by decide +kernel
theorem dX10_holding_37 : decode cX10_holding 37 = .ok (.idiv, 1) := by decide +kernel
theorem dX10_holding_38 : decode cX10_holding 38 = .ok (.ireturn, 1) := by decide +kernel
theorem dX10_hidden_0 : decode cX10_hidden 0 = .ok (.iconst 0, 1) := by decide +kernel
theorem dX10_hidden_1 : decode cX10_hidden 1 = .ok (.istore_n 1, 1) := by decide +kernel
theorem dX10_hidden_2 : decode cX10_hidden 2 = .ok (.iconst 0, 1) := by decide +kernel
theorem dX10_hidden_3 : decode cX10_hidden 3 = .ok (.istore_n 2, 1) := by decide +kernel
theorem dX10_hidden_4 : decode cX10_hidden 4 = .ok (.iload_n 2, 1) := by decide +kernel
theorem dX10_hidden_5 : decode cX10_hidden 5 = .ok (.aload_n 0, 1) := by decide +kernel
theorem dX10_hidden_6 : decode cX10_hidden 6 = .ok (.getfield 9, 3) := by decide +kernel
theorem dX10_hidden_9 : decode cX10_hidden 9 = .ok (.getfield 15, 3) := by decide +kernel
theorem dX10_hidden_12 : decode cX10_hidden 12 = .ok (.if_icmp .ge 45, 3) := by decide +kernel
theorem dX10_hidden_15 : decode cX10_hidden 15 = .ok (.iload_n 2, 1) := by decide +kernel
theorem dX10_hidden_16 : decode cX10_hidden 16 = .ok (.iconst 1, 1) := by decide +kernel
theorem dX10_hidden_17 : decode cX10_hidden 17 = .ok (.iadd, 1) := by decide +kernel
theorem dX10_hidden_18 : decode cX10_hidden 18 = .ok (.istore_n 3, 1) := by decide +kernel
theorem dX10_hidden_19 : decode cX10_hidden 19 = .ok (.iload_n 3, 1) := by decide +kernel
theorem dX10_hidden_20 : decode cX10_hidden 20 = .ok (.aload_n 0, 1) := by decide +kernel
theorem dX10_hidden_21 : decode cX10_hidden 21 = .ok (.getfield 9, 3) := by decide +kernel
theorem dX10_hidden_24 : decode cX10_hidden 24 = .ok (.getfield 15, 3) := by decide +kernel
theorem dX10_hidden_27 : decode cX10_hidden 27 = .ok (.if_icmp .ge 24, 3) := by decide +kernel
theorem dX10_hidden_30 : decode cX10_hidden 30 = .ok (.aload_n 0, 1) := by decide +kernel
theorem dX10_hidden_31 : decode cX10_hidden 31 = .ok (.getfield 9, 3) := by decide +kernel
theorem dX10_hidden_34 : decode cX10_hidden 34 = .ok (.iload_n 2, 1) := by decide +kernel
theorem dX10_hidden_35 : decode cX10_hidden 35 = .ok (.iload_n 3, 1) := by decide +kernel
theorem dX10_hidden_36 : decode cX10_hidden 36 = .ok (.invokevirtual 39, 3) := by decide +kernel
theorem dX10_hidden_39 : decode cX10_hidden 39 = .ok (.ifCond .eq 6, 3) := by decide +kernel
theorem dX10_hidden_42 : decode cX10_hidden 42 = .ok (.iinc 1 1, 3) := by decide +kernel
theorem dX10_hidden_45 : decode cX10_hidden 45 = .ok (.iinc 3 1, 3) := by decide +kernel
theorem dX10_hidden_48 : decode cX10_hidden 48 = .ok (.goto (-29), 3) := by decide +kernel
theorem dX10_hidden_51 : decode cX10_hidden 51 = .ok (.iinc 2 1, 3) := by decide +kernel
theorem dX10_hidden_54 : decode cX10_hidden 54 = .ok (.goto (-50), 3) := by decide +kernel
theorem dX10_hidden_57 : decode cX10_hidden 57 = .ok (.iload_n 1, 1) := by decide +kernel
theorem dX10_hidden_58 : decode cX10_hidden 58 = .ok (.ireturn, 1) := by decide +kernel
theorem dX10_lastDay_0 : decode cX10_lastDay 0 = .ok (.aload_n 0, 1) := by decide +kernel
theorem dX10_lastDay_1 : decode cX10_lastDay 1 = .ok (.getfield 9, 3) := by decide +kernel
theorem dX10_lastDay_4 : decode cX10_lastDay 4 = .ok (.getfield 43, 3) := by decide +kernel
theorem dX10_lastDay_7 : decode cX10_lastDay 7 = .ok (.istore_n 1, 1) := by decide +kernel
theorem dX10_lastDay_8 : decode cX10_lastDay 8 = .ok (.iconst 0, 1) := by decide +kernel
theorem dX10_lastDay_9 : decode cX10_lastDay 9 = .ok (.istore_n 2, 1) := by decide +kernel
theorem dX10_lastDay_10 : decode cX10_lastDay 10 = .ok (.iload_n 2, 1) := by decide +kernel
theorem dX10_lastDay_11 : decode cX10_lastDay 11 = .ok (.aload_n 0, 1) := by decide +kernel
theorem dX10_lastDay_12 : decode cX10_lastDay 12 = .ok (.getfield 9, 3) := by decide +kernel
theorem dX10_lastDay_15 : decode cX10_lastDay 15 = .ok (.getfield 15, 3) := by decide +kernel
theorem dX10_lastDay_18 : decode cX10_lastDay 18 = .ok (.if_icmp .ge 44, 3) := by decide +kernel
theorem dX10_lastDay_21 : decode cX10_lastDay 21 = .ok (.iload_n 2, 1) := by decide +kernel
theorem dX10_lastDay_22 : decode cX10_lastDay 22 = .ok (.iconst 1, 1) := by decide +kernel
theorem dX10_lastDay_23 : decode cX10_lastDay 23 = .ok (.iadd, 1) := by decide +kernel
theorem dX10_lastDay_24 : decode cX10_lastDay 24 = .ok (.istore_n 3, 1) := by decide +kernel
theorem dX10_lastDay_25 : decode cX10_lastDay 25 = .ok (.iload_n 3, 1) := by decide +kernel
theorem dX10_lastDay_26 : decode cX10_lastDay 26 = .ok (.aload_n 0, 1) := by decide +kernel
theorem dX10_lastDay_27 : decode cX10_lastDay 27 = .ok (.getfield 9, 3) := by decide +kernel
theorem dX10_lastDay_30 : decode cX10_lastDay 30 = .ok (.getfield 15, 3) := by decide +kernel
theorem dX10_lastDay_33 : decode cX10_lastDay 33 = .ok (.if_icmp .ge 23, 3) := by decide +kernel
theorem dX10_lastDay_36 : decode cX10_lastDay 36 = .ok (.iload_n 1, 1) := by decide +kernel
theorem dX10_lastDay_37 : decode cX10_lastDay 37 = .ok (.aload_n 0, 1) := by decide +kernel
theorem dX10_lastDay_38 : decode cX10_lastDay 38 = .ok (.getfield 9, 3) := by decide +kernel
theorem dX10_lastDay_41 : decode cX10_lastDay 41 = .ok (.iload_n 2, 1) := by decide +kernel
theorem dX10_lastDay_42 : decode cX10_lastDay 42 = .ok (.iload_n 3, 1) := by decide +kernel
theorem dX10_lastDay_43 : decode cX10_lastDay 43 = .ok (.invokevirtual 46, 3) := by decide +kernel
theorem dX10_lastDay_46 : decode cX10_lastDay 46 = .ok (.invokestatic 50, 3) := by decide +kernel
theorem dX10_lastDay_49 : decode cX10_lastDay 49 = .ok (.istore_n 1, 1) := by decide +kernel
theorem dX10_lastDay_50 : decode cX10_lastDay 50 = .ok (.iinc 3 1, 3) := by decide +kernel
theorem dX10_lastDay_53 : decode cX10_lastDay 53 = .ok (.goto (-28), 3) := by decide +kernel
theorem dX10_lastDay_56 : decode cX10_lastDay 56 = .ok (.iinc 2 1, 3) := by decide +kernel
theorem dX10_lastDay_59 : decode cX10_lastDay 59 = .ok (.goto (-49), 3) := by decide +kernel
theorem dX10_lastDay_62 : decode cX10_lastDay 62 = .ok (.iload_n 1, 1) := by decide +kernel
theorem dX10_lastDay_63 : decode cX10_lastDay 63 = .ok (.ireturn, 1) := by decide +kernel
theorem dX10_unboundOn_0 : decode cX10_unboundOn 0 = .ok (.iconst 0, 1) := by decide +kernel
theorem dX10_unboundOn_1 : decode cX10_unboundOn 1 = .ok (.istore_n 2, 1) := by decide +kernel
theorem dX10_unboundOn_2 : decode cX10_unboundOn 2 = .ok (.iconst 0, 1) := by decide +kernel
theorem dX10_unboundOn_3 : decode cX10_unboundOn 3 = .ok (.istore_n 3, 1) := by decide +kernel
theorem dX10_unboundOn_4 : decode cX10_unboundOn 4 = .ok (.iload_n 3, 1) := by decide +kernel
theorem dX10_unboundOn_5 : decode cX10_unboundOn 5 = .ok (.aload_n 0, 1) := by decide +kernel
theorem dX10_unboundOn_6 : decode cX10_unboundOn 6 = .ok (.getfield 9, 3) := by decide +kernel
theorem dX10_unboundOn_9 : decode cX10_unboundOn 9 = .ok (.getfield 15, 3) := by decide +kernel
theorem dX10_unboundOn_12 : decode cX10_unboundOn 12 = .ok (.if_icmp .ge 57, 3) := by decide +kernel
theorem dX10_unboundOn_15 : decode cX10_unboundOn 15 = .ok (.iload_n 3, 1) := by decide +kernel
theorem dX10_unboundOn_16 : decode cX10_unboundOn 16 = .ok (.iconst 1, 1) := by decide +kernel
theorem dX10_unboundOn_17 : decode cX10_unboundOn 17 = .ok (.iadd, 1) := by decide +kernel
theorem dX10_unboundOn_18 : decode cX10_unboundOn 18 = .ok (.istore 4, 2) := by decide +kernel
theorem dX10_unboundOn_20 : decode cX10_unboundOn 20 = .ok (.iload 4, 2) := by decide +kernel
theorem dX10_unboundOn_22 : decode cX10_unboundOn 22 = .ok (.aload_n 0, 1) := by decide +kernel
theorem dX10_unboundOn_23 : decode cX10_unboundOn 23 = .ok (.getfield 9, 3) := by decide +kernel
theorem dX10_unboundOn_26 : decode cX10_unboundOn 26 = .ok (.getfield 15, 3) := by decide +kernel
theorem dX10_unboundOn_29 : decode cX10_unboundOn 29 = .ok (.if_icmp .ge 34, 3) := by decide +kernel
theorem dX10_unboundOn_32 : decode cX10_unboundOn 32 = .ok (.aload_n 0, 1) := by decide +kernel
theorem dX10_unboundOn_33 : decode cX10_unboundOn 33 = .ok (.getfield 9, 3) := by decide +kernel
theorem dX10_unboundOn_36 : decode cX10_unboundOn 36 = .ok (.iload_n 3, 1) := by decide +kernel
theorem dX10_unboundOn_37 : decode cX10_unboundOn 37 = .ok (.iload 4, 2) := by decide +kernel
theorem dX10_unboundOn_39 : decode cX10_unboundOn 39 = .ok (.iload_n 1, 1) := by decide +kernel
theorem dX10_unboundOn_40 : decode cX10_unboundOn 40 = .ok (.invokevirtual 55, 3) := by decide +kernel
theorem dX10_unboundOn_43 : decode cX10_unboundOn 43 = .ok (.ifCond .eq 14, 3) := by decide +kernel
theorem dX10_unboundOn_46 : decode cX10_unboundOn 46 = .ok (.iload_n 2, 1) := by decide +kernel
theorem dX10_unboundOn_47 : decode cX10_unboundOn 47 = .ok (.iconst 1, 1) := by decide +kernel
theorem dX10_unboundOn_48 : decode cX10_unboundOn 48 = .ok (.iload_n 3, 1) := by decide +kernel
theorem dX10_unboundOn_49 : decode cX10_unboundOn 49 = .ok (.ishl, 1) := by decide +kernel
theorem dX10_unboundOn_50 : decode cX10_unboundOn 50 = .ok (.iconst 1, 1) := by decide +kernel
theorem dX10_unboundOn_51 : decode cX10_unboundOn 51 = .ok (.iload 4, 2) := by decide +kernel
theorem dX10_unboundOn_53 : decode cX10_unboundOn 53 = .ok (.ishl, 1) := by decide +kernel
theorem dX10_unboundOn_54 : decode cX10_unboundOn 54 = .ok (.ior, 1) := by decide +kernel
theorem dX10_unboundOn_55 : decode cX10_unboundOn 55 = .ok (.ior, 1) := by decide +kernel
theorem dX10_unboundOn_56 : decode cX10_unboundOn 56 = .ok (.istore_n 2, 1) := by decide +kernel
theorem dX10_unboundOn_57 : decode cX10_unboundOn 57 = .ok (.iinc 4 1, 3) := by decide +kernel
theorem dX10_unboundOn_60 : decode cX10_unboundOn 60 = .ok (.goto (-40), 3) := by decide +kernel
theorem dX10_unboundOn_63 : decode cX10_unboundOn 63 = .ok (.iinc 3 1, 3) := by decide +kernel
theorem dX10_unboundOn_66 : decode cX10_unboundOn 66 = .ok (.goto (-62), 3) := by decide +kernel
theorem dX10_unboundOn_69 : decode cX10_unboundOn 69 = .ok (.aload_n 0, 1) := by decide +kernel
theorem dX10_unboundOn_70 : decode cX10_unboundOn 70 = .ok (.getfield 9, 3) := by decide +kernel
theorem dX10_unboundOn_73 : decode cX10_unboundOn 73 = .ok (.invokevirtual 59, 3) := by decide +kernel
theorem dX10_unboundOn_76 : decode cX10_unboundOn 76 = .ok (.iload_n 2, 1) := by decide +kernel
theorem dX10_unboundOn_77 : decode cX10_unboundOn 77 = .ok (.iconst (-1), 1) := by decide +kernel
theorem dX10_unboundOn_78 : decode cX10_unboundOn 78 = .ok (.ixor, 1) := by decide +kernel
theorem dX10_unboundOn_79 : decode cX10_unboundOn 79 = .ok (.iand, 1) := by decide +kernel
theorem dX10_unboundOn_80 : decode cX10_unboundOn 80 = .ok (.ireturn, 1) := by decide +kernel
theorem dX10_centre_0 : decode cX10_centre 0 = .ok (.iconst 0, 1) := by decide +kernel
theorem dX10_centre_1 : decode cX10_centre 1 = .ok (.istore_n 1, 1) := by decide +kernel
theorem dX10_centre_2 : decode cX10_centre 2 = .ok (.iconst (-1), 1) := by decide +kernel
theorem dX10_centre_3 : decode cX10_centre 3 = .ok (.istore_n 2, 1) := by decide +kernel
theorem dX10_centre_4 : decode cX10_centre 4 = .ok (.iconst 0, 1) := by decide +kernel
theorem dX10_centre_5 : decode cX10_centre 5 = .ok (.istore_n 3, 1) := by decide +kernel
theorem dX10_centre_6 : decode cX10_centre 6 = .ok (.iload_n 3, 1) := by decide +kernel
theorem dX10_centre_7 : decode cX10_centre 7 = .ok (.aload_n 0, 1) := by decide +kernel
theorem dX10_centre_8 : decode cX10_centre 8 = .ok (.getfield 9, 3) := by decide +kernel
theorem dX10_centre_11 : decode cX10_centre 11 = .ok (.getfield 15, 3) := by decide +kernel
theorem dX10_centre_14 : decode cX10_centre 14 = .ok (.if_icmp .ge 33, 3) := by decide +kernel
theorem dX10_centre_17 : decode cX10_centre 17 = .ok (.aload_n 0, 1) := by decide +kernel
theorem dX10_centre_18 : decode cX10_centre 18 = .ok (.getfield 9, 3) := by decide +kernel
theorem dX10_centre_21 : decode cX10_centre 21 = .ok (.iload_n 3, 1) := by decide +kernel
theorem dX10_centre_22 : decode cX10_centre 22 = .ok (.invokevirtual 21, 3) := by decide +kernel
theorem dX10_centre_25 : decode cX10_centre 25 = .ok (.invokestatic 36, 3) := by decide +kernel
theorem dX10_centre_28 : decode cX10_centre 28 = .ok (.istore 4, 2) := by decide +kernel
theorem dX10_centre_30 : decode cX10_centre 30 = .ok (.iload 4, 2) := by decide +kernel
theorem dX10_centre_32 : decode cX10_centre 32 = .ok (.iload_n 1, 1) := by decide +kernel
theorem dX10_centre_33 : decode cX10_centre 33 = .ok (.if_icmp .le 8, 3) := by decide +kernel
theorem dX10_centre_36 : decode cX10_centre 36 = .ok (.iload 4, 2) := by decide +kernel
theorem dX10_centre_38 : decode cX10_centre 38 = .ok (.istore_n 1, 1) := by decide +kernel
theorem dX10_centre_39 : decode cX10_centre 39 = .ok (.iload_n 3, 1) := by decide +kernel
theorem dX10_centre_40 : decode cX10_centre 40 = .ok (.istore_n 2, 1) := by decide +kernel
theorem dX10_centre_41 : decode cX10_centre 41 = .ok (.iinc 3 1, 3) := by decide +kernel
theorem dX10_centre_44 : decode cX10_centre 44 = .ok (.goto (-38), 3) := by decide +kernel
theorem dX10_centre_47 : decode cX10_centre 47 = .ok (.iload_n 2, 1) := by decide +kernel
theorem dX10_centre_48 : decode cX10_centre 48 = .ok (.ireturn, 1) := by decide +kernel
theorem dX10_cut_0 : decode cX10_cut 0 = .ok (.bipush 64, 2) := by decide +kernel
theorem dX10_cut_2 : decode cX10_cut 2 = .ok (.istore_n 3, 1) := by decide +kernel
theorem dX10_cut_3 : decode cX10_cut 3 = .ok (.iconst 0, 1) := by decide +kernel
theorem dX10_cut_4 : decode cX10_cut 4 = .ok (.istore 4, 2) := by decide +kernel
theorem dX10_cut_6 : decode cX10_cut 6 = .ok (.iload 4, 2) := by decide +kernel
theorem dX10_cut_8 : decode cX10_cut 8 = .ok (.aload_n 0, 1) := by decide +kernel
theorem dX10_cut_9 : decode cX10_cut 9 = .ok (.getfield 9, 3) := by decide +kernel
theorem dX10_cut_12 : decode cX10_cut 12 = .ok (.invokevirtual 59, 3) := by decide +kernel
theorem dX10_cut_15 : decode cX10_cut 15 = .ok (.if_icmp .gt 38, 3) := by decide +kernel
theorem dX10_cut_18 : decode cX10_cut 18 = .ok (.iload 4, 2) := by decide +kernel
theorem dX10_cut_20 : decode cX10_cut 20 = .ok (.iconst 1, 1) := by decide +kernel
theorem dX10_cut_21 : decode cX10_cut 21 = .ok (.iload_n 1, 1) := by decide +kernel
theorem dX10_cut_22 : decode cX10_cut 22 = .ok (.ishl, 1) := by decide +kernel
theorem dX10_cut_23 : decode cX10_cut 23 = .ok (.iand, 1) := by decide +kernel
theorem dX10_cut_24 : decode cX10_cut 24 = .ok (.ifCond .eq 23, 3) := by decide +kernel
theorem dX10_cut_27 : decode cX10_cut 27 = .ok (.iload 4, 2) := by decide +kernel
theorem dX10_cut_29 : decode cX10_cut 29 = .ok (.iconst 1, 1) := by decide +kernel
theorem dX10_cut_30 : decode cX10_cut 30 = .ok (.iload_n 2, 1) := by decide +kernel
theorem dX10_cut_31 : decode cX10_cut 31 = .ok (.ishl, 1) := by decide +kernel
theorem dX10_cut_32 : decode cX10_cut 32 = .ok (.iand, 1) := by decide +kernel
theorem dX10_cut_33 : decode cX10_cut 33 = .ok (.ifCond .ne 14, 3) := by decide +kernel
theorem dX10_cut_36 : decode cX10_cut 36 = .ok (.iload_n 3, 1) := by decide +kernel
theorem dX10_cut_37 : decode cX10_cut 37 = .ok (.aload_n 0, 1) := by decide +kernel
theorem dX10_cut_38 : decode cX10_cut 38 = .ok (.iload 4, 2) := by decide +kernel
theorem dX10_cut_40 : decode cX10_cut 40 = .ok (.invokevirtual 63, 3) := by decide +kernel
theorem dX10_cut_43 : decode cX10_cut 43 = .ok (.invokestatic 66, 3) := by decide +kernel
theorem dX10_cut_46 : decode cX10_cut 46 = .ok (.istore_n 3, 1) := by decide +kernel
theorem dX10_cut_47 : decode cX10_cut 47 = .ok (.iinc 4 1, 3) := by decide +kernel
theorem dX10_cut_50 : decode cX10_cut 50 = .ok (.goto (-44), 3) := by decide +kernel
theorem dX10_cut_53 : decode cX10_cut 53 = .ok (.iload_n 3, 1) := by decide +kernel
theorem dX10_cut_54 : decode cX10_cut 54 = .ok (.ireturn, 1) := by decide +kernel
theorem dX10_leaving_0 : decode cX10_leaving 0 = .ok (.iconst 0, 1) := by decide +kernel
theorem dX10_leaving_1 : decode cX10_leaving 1 = .ok (.istore_n 2, 1) := by decide +kernel
theorem dX10_leaving_2 : decode cX10_leaving 2 = .ok (.iconst 0, 1) := by decide +kernel
theorem dX10_leaving_3 : decode cX10_leaving 3 = .ok (.istore_n 3, 1) := by decide +kernel
theorem dX10_leaving_4 : decode cX10_leaving 4 = .ok (.iload_n 3, 1) := by decide +kernel
theorem dX10_leaving_5 : decode cX10_leaving 5 = .ok (.aload_n 0, 1) := by decide +kernel
theorem dX10_leaving_6 : decode cX10_leaving 6 = .ok (.getfield 9, 3) := by decide +kernel
theorem dX10_leaving_9 : decode cX10_leaving 9 = .ok (.getfield 15, 3) := by decide +kernel
theorem dX10_leaving_12 : decode cX10_leaving 12 = .ok (.if_icmp .ge 35, 3) := by decide +kernel
theorem dX10_leaving_15 : decode cX10_leaving 15 = .ok (.iload_n 1, 1) := by decide +kernel
theorem dX10_leaving_16 : decode cX10_leaving 16 = .ok (.iconst 1, 1) := by decide +kernel
theorem dX10_leaving_17 : decode cX10_leaving 17 = .ok (.iload_n 3, 1) := by decide +kernel
theorem dX10_leaving_18 : decode cX10_leaving 18 = .ok (.ishl, 1) := by decide +kernel
theorem dX10_leaving_19 : decode cX10_leaving 19 = .ok (.iand, 1) := by decide +kernel
theorem dX10_leaving_20 : decode cX10_leaving 20 = .ok (.ifCond .eq 21, 3) := by decide +kernel
theorem dX10_leaving_23 : decode cX10_leaving 23 = .ok (.iload_n 2, 1) := by decide +kernel
theorem dX10_leaving_24 : decode cX10_leaving 24 = .ok (.aload_n 0, 1) := by decide +kernel
theorem dX10_leaving_25 : decode cX10_leaving 25 = .ok (.getfield 9, 3) := by decide +kernel
theorem dX10_leaving_28 : decode cX10_leaving 28 = .ok (.iload_n 3, 1) := by decide +kernel
theorem dX10_leaving_29 : decode cX10_leaving 29 = .ok (.invokevirtual 21, 3) := by decide +kernel
theorem dX10_leaving_32 : decode cX10_leaving 32 = .ok (.iload_n 1, 1) := by decide +kernel
theorem dX10_leaving_33 : decode cX10_leaving 33 = .ok (.iconst (-1), 1) := by decide +kernel
theorem dX10_leaving_34 : decode cX10_leaving 34 = .ok (.ixor, 1) := by decide +kernel
theorem dX10_leaving_35 : decode cX10_leaving 35 = .ok (.iand, 1) := by decide +kernel
theorem dX10_leaving_36 : decode cX10_leaving 36 = .ok (.invokestatic 36, 3) := by decide +kernel
theorem dX10_leaving_39 : decode cX10_leaving 39 = .ok (.iadd, 1) := by decide +kernel
theorem dX10_leaving_40 : decode cX10_leaving 40 = .ok (.istore_n 2, 1) := by decide +kernel
theorem dX10_leaving_41 : decode cX10_leaving 41 = .ok (.iinc 3 1, 3) := by decide +kernel
theorem dX10_leaving_44 : decode cX10_leaving 44 = .ok (.goto (-40), 3) := by decide +kernel
theorem dX10_leaving_47 : decode cX10_leaving 47 = .ok (.iload_n 2, 1) := by decide +kernel
theorem dX10_leaving_48 : decode cX10_leaving 48 = .ok (.ireturn, 1) := by decide +kernel
theorem dX10_cover_0 : decode cX10_cover 0 = .ok (.aload_n 0, 1) := by decide +kernel
theorem dX10_cover_1 : decode cX10_cover 1 = .ok (.getfield 9, 3) := by decide +kernel
theorem dX10_cover_4 : decode cX10_cover 4 = .ok (.invokevirtual 59, 3) := by decide +kernel
theorem dX10_cover_7 : decode cX10_cover 7 = .ok (.istore_n 1, 1) := by decide +kernel
theorem dX10_cover_8 : decode cX10_cover 8 = .ok (.iconst 0, 1) := by decide +kernel
theorem dX10_cover_9 : decode cX10_cover 9 = .ok (.istore_n 2, 1) := by decide +kernel
theorem dX10_cover_10 : decode cX10_cover 10 = .ok (.iload_n 2, 1) := by decide +kernel
theorem dX10_cover_11 : decode cX10_cover 11 = .ok (.aload_n 0, 1) := by decide +kernel
theorem dX10_cover_12 : decode cX10_cover 12 = .ok (.getfield 9, 3) := by decide +kernel
theorem dX10_cover_15 : decode cX10_cover 15 = .ok (.invokevirtual 59, 3) := by decide +kernel
theorem dX10_cover_18 : decode cX10_cover 18 = .ok (.if_icmp .gt 30, 3) := by decide +kernel
theorem dX10_cover_21 : decode cX10_cover 21 = .ok (.iload_n 2, 1) := by decide +kernel
theorem dX10_cover_22 : decode cX10_cover 22 = .ok (.invokestatic 36, 3) := by decide +kernel
theorem dX10_cover_25 : decode cX10_cover 25 = .ok (.iload_n 1, 1) := by decide +kernel
theorem dX10_cover_26 : decode cX10_cover 26 = .ok (.invokestatic 36, 3) := by decide +kernel
theorem dX10_cover_29 : decode cX10_cover 29 = .ok (.if_icmp .ge 13, 3) := by decide +kernel
theorem dX10_cover_32 : decode cX10_cover 32 = .ok (.aload_n 0, 1) := by decide +kernel
theorem dX10_cover_33 : decode cX10_cover 33 = .ok (.iload_n 2, 1) := by decide +kernel
theorem dX10_cover_34 : decode cX10_cover 34 = .ok (.invokevirtual 69, 3) := by decide +kernel
theorem dX10_cover_37 : decode cX10_cover 37 = .ok (.ifCond .eq 5, 3) := by decide +kernel
theorem dX10_cover_40 : decode cX10_cover 40 = .ok (.iload_n 2, 1) := by decide +kernel
theorem dX10_cover_41 : decode cX10_cover 41 = .ok (.istore_n 1, 1) := by decide +kernel
theorem dX10_cover_42 : decode cX10_cover 42 = .ok (.iinc 2 1, 3) := by decide +kernel
theorem dX10_cover_45 : decode cX10_cover 45 = .ok (.goto (-35), 3) := by decide +kernel
theorem dX10_cover_48 : decode cX10_cover 48 = .ok (.iload_n 1, 1) := by decide +kernel
theorem dX10_cover_49 : decode cX10_cover 49 = .ok (.ireturn, 1) := by decide +kernel
theorem dX10_knowsAll_0 : decode cX10_knowsAll 0 = .ok (.iconst 0, 1) := by decide +kernel
theorem dX10_knowsAll_1 : decode cX10_knowsAll 1 = .ok (.istore_n 2, 1) := by decide +kernel
theorem dX10_knowsAll_2 : decode cX10_knowsAll 2 = .ok (.iload_n 2, 1) := by decide +kernel
theorem dX10_knowsAll_3 : decode cX10_knowsAll 3 = .ok (.aload_n 0, 1) := by decide +kernel
theorem dX10_knowsAll_4 : decode cX10_knowsAll 4 = .ok (.getfield 9, 3) := by decide +kernel
theorem dX10_knowsAll_7 : decode cX10_knowsAll 7 = .ok (.getfield 15, 3) := by decide +kernel
theorem dX10_knowsAll_10 : decode cX10_knowsAll 10 = .ok (.if_icmp .ge 56, 3) := by decide +kernel
theorem dX10_knowsAll_13 : decode cX10_knowsAll 13 = .ok (.iload_n 2, 1) := by decide +kernel
theorem dX10_knowsAll_14 : decode cX10_knowsAll 14 = .ok (.iconst 1, 1) := by decide +kernel
theorem dX10_knowsAll_15 : decode cX10_knowsAll 15 = .ok (.iadd, 1) := by decide +kernel
theorem dX10_knowsAll_16 : decode cX10_knowsAll 16 = .ok (.istore_n 3, 1) := by decide +kernel
theorem dX10_knowsAll_17 : decode cX10_knowsAll 17 = .ok (.iload_n 3, 1) := by decide +kernel
theorem dX10_knowsAll_18 : decode cX10_knowsAll 18 = .ok (.aload_n 0, 1) := by decide +kernel
theorem dX10_knowsAll_19 : decode cX10_knowsAll 19 = .ok (.getfield 9, 3) := by decide +kernel
theorem dX10_knowsAll_22 : decode cX10_knowsAll 22 = .ok (.getfield 15, 3) := by decide +kernel
theorem dX10_knowsAll_25 : decode cX10_knowsAll 25 = .ok (.if_icmp .ge 35, 3) := by decide +kernel
theorem dX10_knowsAll_28 : decode cX10_knowsAll 28 = .ok (.iload_n 1, 1) := by decide +kernel
theorem dX10_knowsAll_29 : decode cX10_knowsAll 29 = .ok (.iconst 1, 1) := by decide +kernel
theorem dX10_knowsAll_30 : decode cX10_knowsAll 30 = .ok (.iload_n 2, 1) := by decide +kernel
theorem dX10_knowsAll_31 : decode cX10_knowsAll 31 = .ok (.ishl, 1) := by decide +kernel
theorem dX10_knowsAll_32 : decode cX10_knowsAll 32 = .ok (.iconst 1, 1) := by decide +kernel
theorem dX10_knowsAll_33 : decode cX10_knowsAll 33 = .ok (.iload_n 3, 1) := by decide +kernel
theorem dX10_knowsAll_34 : decode cX10_knowsAll 34 = .ok (.ishl, 1) := by decide +kernel
theorem dX10_knowsAll_35 : decode cX10_knowsAll 35 = .ok (.ior, 1) := by decide +kernel
theorem dX10_knowsAll_36 : decode cX10_knowsAll 36 = .ok (.iand, 1) := by decide +kernel
theorem dX10_knowsAll_37 : decode cX10_knowsAll 37 = .ok (.ifCond .ne 17, 3) := by decide +kernel
theorem dX10_knowsAll_40 : decode cX10_knowsAll 40 = .ok (.aload_n 0, 1) := by decide +kernel
theorem dX10_knowsAll_41 : decode cX10_knowsAll 41 = .ok (.getfield 9, 3) := by decide +kernel
theorem dX10_knowsAll_44 : decode cX10_knowsAll 44 = .ok (.iload_n 2, 1) := by decide +kernel
theorem dX10_knowsAll_45 : decode cX10_knowsAll 45 = .ok (.iload_n 3, 1) := by decide +kernel
theorem dX10_knowsAll_46 : decode cX10_knowsAll 46 = .ok (.invokevirtual 39, 3) := by decide +kernel
theorem dX10_knowsAll_49 : decode cX10_knowsAll 49 = .ok (.ifCond .eq 5, 3) := by decide +kernel
theorem dX10_knowsAll_52 : decode cX10_knowsAll 52 = .ok (.iconst 0, 1) := by decide +kernel
theorem dX10_knowsAll_53 : decode cX10_knowsAll 53 = .ok (.ireturn, 1) := by decide +kernel
theorem dX10_knowsAll_54 : decode cX10_knowsAll 54 = .ok (.iinc 3 1, 3) := by decide +kernel
theorem dX10_knowsAll_57 : decode cX10_knowsAll 57 = .ok (.goto (-40), 3) := by decide +kernel
theorem dX10_knowsAll_60 : decode cX10_knowsAll 60 = .ok (.iinc 2 1, 3) := by decide +kernel
theorem dX10_knowsAll_63 : decode cX10_knowsAll 63 = .ok (.goto (-61), 3) := by decide +kernel
theorem dX10_knowsAll_66 : decode cX10_knowsAll 66 = .ok (.iconst 1, 1) := by decide +kernel
theorem dX10_knowsAll_67 : decode cX10_knowsAll 67 = .ok (.ireturn, 1) := by decide +kernel
theorem dX1_init_0 : decode cX1_init 0 = .ok (.aload_n 0, 1) := by decide +kernel
theorem dX1_init_1 : decode cX1_init 1 = .ok (.invokespecial 3, 3) := by decide +kernel
theorem dX1_init_4 : decode cX1_init 4 = .ok (.aload_n 0, 1) := by decide +kernel
theorem dX1_init_5 : decode cX1_init 5 = .ok (.bipush 8, 2) := by decide +kernel
theorem dX1_init_7 : decode cX1_init 7 = .ok (.newarray .int, 2) := by decide +kernel
theorem dX1_init_9 : decode cX1_init 9 = .ok (.putfield 9, 3) := by decide +kernel
theorem dX1_init_12 : decode cX1_init 12 = .ok (.aload_n 0, 1) := by decide +kernel
theorem dX1_init_13 : decode cX1_init 13 = .ok (.aload_n 1, 1) := by decide +kernel
theorem dX1_init_14 : decode cX1_init 14 = .ok (.putfield 15, 3) := by decide +kernel
theorem dX1_init_17 : decode cX1_init 17 = .ok (.aload_n 0, 1) := by decide +kernel
theorem dX1_init_18 : decode cX1_init 18 = .ok (.aload_n 2, 1) := by decide +kernel
theorem dX1_init_19 : decode cX1_init 19 = .ok (.putfield 19, 3) := by decide +kernel
theorem dX1_init_22 : decode cX1_init 22 = .ok (.return_, 1) := by decide +kernel
theorem dX1_pour_0 : decode cX1_pour 0 = .ok (.iload_n 1, 1) := by decide +kernel
theorem dX1_pour_1 : decode cX1_pour 1 = .ok (.invokestatic 23, 3) := by decide +kernel
theorem dX1_pour_4 : decode cX1_pour 4 = .ok (.istore 4, 2) := by decide +kernel
theorem dX1_pour_6 : decode cX1_pour 6 = .ok (.iconst 0, 1) := by decide +kernel
theorem dX1_pour_7 : decode cX1_pour 7 = .ok (.istore 5, 2) := by decide +kernel
theorem dX1_pour_9 : decode cX1_pour 9 = .ok (.iconst 0, 1) := by decide +kernel
theorem dX1_pour_10 : decode cX1_pour 10 = .ok (.istore 6, 2) := by decide +kernel
theorem dX1_pour_12 : decode cX1_pour 12 = .ok (.iload 6, 2) := by decide +kernel
theorem dX1_pour_14 : decode cX1_pour 14 = .ok (.aload_n 0, 1) := by decide +kernel
theorem dX1_pour_15 : decode cX1_pour 15 = .ok (.getfield 15, 3) := by decide +kernel
theorem dX1_pour_18 : decode cX1_pour 18 = .ok (.getfield 29, 3) := by decide +kernel
theorem dX1_pour_21 : decode cX1_pour 21 = .ok (.if_icmp .ge 71, 3) := by decide +kernel
theorem dX1_pour_24 : decode cX1_pour 24 = .ok (.iload 6, 2) := by decide +kernel
theorem dX1_pour_26 : decode cX1_pour 26 = .ok (.iconst 1, 1) := by decide +kernel
theorem dX1_pour_27 : decode cX1_pour 27 = .ok (.iadd, 1) := by decide +kernel
theorem dX1_pour_28 : decode cX1_pour 28 = .ok (.istore 7, 2) := by decide +kernel
theorem dX1_pour_30 : decode cX1_pour 30 = .ok (.iload 7, 2) := by decide +kernel
theorem dX1_pour_32 : decode cX1_pour 32 = .ok (.aload_n 0, 1) := by decide +kernel
theorem dX1_pour_33 : decode cX1_pour 33 = .ok (.getfield 15, 3) := by decide +kernel
theorem dX1_pour_36 : decode cX1_pour 36 = .ok (.getfield 29, 3) := by decide +kernel
theorem dX1_pour_39 : decode cX1_pour 39 = .ok (.if_icmp .ge 47, 3) := by decide +kernel
theorem dX1_pour_42 : decode cX1_pour 42 = .ok (.iconst 1, 1) := by decide +kernel
theorem dX1_pour_43 : decode cX1_pour 43 = .ok (.iload 6, 2) := by decide +kernel
theorem dX1_pour_45 : decode cX1_pour 45 = .ok (.ishl, 1) := by decide +kernel
theorem dX1_pour_46 : decode cX1_pour 46 = .ok (.iconst 1, 1) := by decide +kernel
theorem dX1_pour_47 : decode cX1_pour 47 = .ok (.iload 7, 2) := by decide +kernel
theorem dX1_pour_49 : decode cX1_pour 49 = .ok (.ishl, 1) := by decide +kernel
theorem dX1_pour_50 : decode cX1_pour 50 = .ok (.ior, 1) := by decide +kernel
theorem dX1_pour_51 : decode cX1_pour 51 = .ok (.istore 8, 2) := by decide +kernel
theorem dX1_pour_53 : decode cX1_pour 53 = .ok (.iload_n 1, 1) := by decide +kernel
theorem dX1_pour_54 : decode cX1_pour 54 = .ok (.iload 8, 2) := by decide +kernel
theorem dX1_pour_56 : decode cX1_pour 56 = .ok (.iand, 1) := by decide +kernel
theorem dX1_pour_57 : decode cX1_pour 57 = .ok (.iload 8, 2) := by decide +kernel
theorem dX1_pour_59 : decode cX1_pour 59 = .ok (.if_icmp .ne 21, 3) := by decide +kernel
theorem dX1_pour_62 : decode cX1_pour 62 = .ok (.aload_n 0, 1) := by decide +kernel
theorem dX1_pour_63 : decode cX1_pour 63 = .ok (.iload 6, 2) := by decide +kernel
theorem dX1_pour_65 : decode cX1_pour 65 = .ok (.iload 7, 2) := by decide +kernel
theorem dX1_pour_67 : decode cX1_pour 67 = .ok (.iload_n 2, 1) := by decide +kernel
theorem dX1_pour_68 : decode cX1_pour 68 = .ok (.iload 4, 2) := by decide +kernel
theorem dX1_pour_70 : decode cX1_pour 70 = .ok (.iload_n 3, 1) := by decide +kernel
theorem dX1_pour_71 : decode cX1_pour 71 = .ok (.invokevirtual 35, 3) := by decide +kernel
theorem dX1_pour_74 : decode cX1_pour 74 = .ok (.ifCond .eq 6, 3) := by decide +kernel
theorem dX1_pour_77 : decode cX1_pour 77 = .ok (.iinc 5 1, 3) := by decide +kernel
theorem dX1_pour_80 : decode cX1_pour 80 = .ok (.iinc 7 1, 3) := by decide +kernel
theorem dX1_pour_83 : decode cX1_pour 83 = .ok (.goto (-53), 3) := by decide +kernel
theorem dX1_pour_86 : decode cX1_pour 86 = .ok (.iinc 6 1, 3) := by decide +kernel
theorem dX1_pour_89 : decode cX1_pour 89 = .ok (.goto (-77), 3) := by decide +kernel
theorem dX1_pour_92 : decode cX1_pour 92 = .ok (.iload 5, 2) := by decide +kernel
theorem dX1_pour_94 : decode cX1_pour 94 = .ok (.ireturn, 1) := by decide +kernel
theorem dX1_changes_0 : decode cX1_changes 0 = .ok (.aload_n 0, 1) := by decide +kernel
theorem dX1_changes_1 : decode cX1_changes 1 = .ok (.iload_n 1, 1) := by decide +kernel
theorem dX1_changes_2 : decode cX1_changes 2 = .ok (.iload_n 2, 1) := by decide +kernel
theorem dX1_changes_3 : decode cX1_changes 3 = .ok (.iload_n 3, 1) := by decide +kernel
theorem dX1_changes_4 : decode cX1_changes 4 = .ok (.iload 4, 2) := by decide +kernel
theorem dX1_changes_6 : decode cX1_changes 6 = .ok (.invokevirtual 39, 3) := by decide +kernel
theorem dX1_changes_9 : decode cX1_changes 9 = .ok (.istore 6, 2) := by decide +kernel
theorem dX1_changes_11 : decode cX1_changes 11 = .ok (.iload 6, 2) := by decide +kernel
theorem dX1_changes_13 : decode cX1_changes 13 = .ok (.ifCond .ne 5, 3) := by decide +kernel
theorem dX1_changes_16 : decode cX1_changes 16 = .ok (.iconst 0, 1) := by decide +kernel
theorem dX1_changes_17 : decode cX1_changes 17 = .ok (.ireturn, 1) := by decide +kernel
theorem dX1_changes_18 : decode cX1_changes 18 = .ok (.aload_n 0, 1) := by decide +kernel
theorem dX1_changes_19 : decode cX1_changes 19 = .ok (.iload_n 1, 1) := by decide +kernel
theorem dX1_changes_20 : decode cX1_changes 20 = .ok (.iload_n 2, 1) := by decide +kernel
theorem dX1_changes_21 : decode cX1_changes 21 = .ok (.iload_n 3, 1) := by decide +kernel
theorem dX1_changes_22 : decode cX1_changes 22 = .ok (.iload 4, 2) := by decide +kernel
theorem dX1_changes_24 : decode cX1_changes 24 = .ok (.invokevirtual 43, 3) := by decide +kernel
theorem dX1_changes_27 : decode cX1_changes 27 = .ok (.istore 7, 2) := by decide +kernel
theorem dX1_changes_29 : decode cX1_changes 29 = .ok (.aload_n 0, 1) := by decide +kernel
theorem dX1_changes_30 : decode cX1_changes 30 = .ok (.getfield 15, 3) := by decide +kernel
theorem dX1_changes_33 : decode cX1_changes 33 = .ok (.iload_n 1, 1) := by decide +kernel
theorem dX1_changes_34 : decode cX1_changes 34 = .ok (.iload_n 2, 1) := by decide +kernel
theorem dX1_changes_35 : decode cX1_changes 35 = .ok (.invokevirtual 46, 3) := by decide +kernel
theorem dX1_changes_38 : decode cX1_changes 38 = .ok (.istore 8, 2) := by decide +kernel
theorem dX1_changes_40 : decode cX1_changes 40 = .ok (.aload_n 0, 1) := by decide +kernel
theorem dX1_changes_41 : decode cX1_changes 41 = .ok (.getfield 15, 3) := by decide +kernel
theorem dX1_changes_44 : decode cX1_changes 44 = .ok (.iload_n 1, 1) := by decide +kernel
theorem dX1_changes_45 : decode cX1_changes 45 = .ok (.iload_n 2, 1) := by decide +kernel
theorem dX1_changes_46 : decode cX1_changes 46 = .ok (.invokevirtual 50, 3) := by decide +kernel
theorem dX1_changes_49 : decode cX1_changes 49 = .ok (.istore 9, 2) := by decide +kernel
theorem dX1_changes_51 : decode cX1_changes 51 = .ok (.iload 5, 2) := by decide +kernel
theorem dX1_changes_53 : decode cX1_changes 53 = .ok (.ifCond .eq 26, 3) := by decide +kernel
theorem dX1_changes_56 : decode cX1_changes 56 = .ok (.aload_n 0, 1) := by decide +kernel
theorem dX1_changes_57 : decode cX1_changes 57 = .ok (.getfield 15, 3) := by decide +kernel
theorem dX1_changes_60 : decode cX1_changes 60 = .ok (.iload_n 1, 1) := by decide +kernel
theorem dX1_changes_61 : decode cX1_changes 61 = .ok (.iload_n 2, 1) := by decide +kernel
theorem dX1_changes_62 : decode cX1_changes 62 = .ok (.iload 8, 2) := by decide +kernel
theorem dX1_changes_64 : decode cX1_changes 64 = .ok (.iload 6, 2) := by decide +kernel
theorem dX1_changes_66 : decode cX1_changes 66 = .ok (.invokestatic 53, 3) := by decide +kernel
theorem dX1_changes_69 : decode cX1_changes 69 = .ok (.iload 9, 2) := by decide +kernel
theorem dX1_changes_71 : decode cX1_changes 71 = .ok (.iload 7, 2) := by decide +kernel
theorem dX1_changes_73 : decode cX1_changes 73 = .ok (.invokestatic 53, 3) := by decide +kernel
theorem dX1_changes_76 : decode cX1_changes 76 = .ok (.invokevirtual 58, 3) := by decide +kernel
theorem dX1_changes_79 : decode cX1_changes 79 = .ok (.iload 6, 2) := by decide +kernel
theorem dX1_changes_81 : decode cX1_changes 81 = .ok (.iload 8, 2) := by decide +kernel
theorem dX1_changes_83 : decode cX1_changes 83 = .ok (.if_icmp .gt 10, 3) := by decide +kernel
theorem dX1_changes_86 : decode cX1_changes 86 = .ok (.iload 7, 2) := by decide +kernel
theorem dX1_changes_88 : decode cX1_changes 88 = .ok (.iload 9, 2) := by decide +kernel
theorem dX1_changes_90 : decode cX1_changes 90 = .ok (.if_icmp .le 7, 3) := by decide +kernel
theorem dX1_changes_93 : decode cX1_changes 93 = .ok (.iconst 1, 1) := by decide +kernel
theorem dX1_changes_94 : decode cX1_changes 94 = .ok (.goto 4, 3) := by decide +kernel
theorem dX1_changes_97 : decode cX1_changes 97 = .ok (.iconst 0, 1) := by decide +kernel
theorem dX1_changes_98 : decode cX1_changes 98 = .ok (.ireturn, 1) := by decide +kernel
theorem dX1_force_0 : decode cX1_force 0 = .ok (.aload_n 0, 1) := by decide +kernel
theorem dX1_force_1 : decode cX1_force 1 = .ok (.getfield 19, 3) := by decide +kernel
theorem dX1_force_4 : decode cX1_force 4 = .ok (.aload_n 0, 1) := by decide +kernel
theorem dX1_force_5 : decode cX1_force 5 = .ok (.getfield 15, 3) := by decide +kernel
theorem dX1_force_8 : decode cX1_force 8 = .ok (.iload_n 1, 1) := by decide +kernel
theorem dX1_force_9 : decode cX1_force 9 = .ok (.iload_n 2, 1) := by decide +kernel
theorem dX1_force_10 : decode cX1_force 10 = .ok (.iload_n 3, 1) := by decide +kernel
theorem dX1_force_11 : decode cX1_force 11 = .ok (.iload 4, 2) := by decide +kernel
theorem dX1_force_13 : decode cX1_force 13 = .ok (.invokevirtual 62, 3) := by decide +kernel
theorem dX1_force_16 : decode cX1_force 16 = .ok (.istore 5, 2) := by decide +kernel
theorem dX1_force_18 : decode cX1_force 18 = .ok (.iload_n 3, 1) := by decide +kernel
theorem dX1_force_19 : decode cX1_force 19 = .ok (.tableswitch 43 0 2 #[25, 28, 33], 25) := by decide +kernel
theorem dX1_force_44 : decode cX1_force 44 = .ok (.iload 5, 2) := by decide +kernel
theorem dX1_force_46 : decode cX1_force 46 = .ok (.ireturn, 1) := by decide +kernel
theorem dX1_force_47 : decode cX1_force 47 = .ok (.iload 5, 2) := by decide +kernel
theorem dX1_force_49 : decode cX1_force 49 = .ok (.iconst 2, 1) := by decide +kernel
theorem dX1_force_50 : decode cX1_force 50 = .ok (.idiv, 1) := by decide +kernel
theorem dX1_force_51 : decode cX1_force 51 = .ok (.ireturn, 1) := by decide +kernel
theorem dX1_force_52 : decode cX1_force 52 = .ok (.bipush 9, 2) := by decide +kernel
theorem dX1_force_54 : decode cX1_force 54 = .ok (.iload 5, 2) := by decide +kernel
theorem dX1_force_56 : decode cX1_force 56 = .ok (.iconst 2, 1) := by decide +kernel
theorem dX1_force_57 : decode cX1_force 57 = .ok (.imul, 1) := by decide +kernel
theorem dX1_force_58 : decode cX1_force 58 = .ok (.invokestatic 68, 3) := by decide +kernel
theorem dX1_force_61 : decode cX1_force 61 = .ok (.ireturn, 1) := by decide +kernel
theorem dX1_force_62 : decode cX1_force 62 = .ok (.iconst 0, 1) := by decide +kernel
theorem dX1_force_63 : decode cX1_force 63 = .ok (.ireturn, 1) := by decide +kernel
theorem dX1_reach_0 : decode cX1_reach 0 = .ok (.sipush 9999, 3) := by decide +kernel
theorem dX1_reach_3 : decode cX1_reach 3 = .ok (.aload_n 0, 1) := by decide +kernel
theorem dX1_reach_4 : decode cX1_reach 4 = .ok (.getfield 15, 3) := by decide +kernel
theorem dX1_reach_7 : decode cX1_reach 7 = .ok (.getfield 71, 3) := by decide +kernel
theorem dX1_reach_10 : decode cX1_reach 10 = .ok (.aload_n 0, 1) := by decide +kernel
theorem dX1_reach_11 : decode cX1_reach 11 = .ok (.getfield 19, 3) := by decide +kernel
theorem dX1_reach_14 : decode cX1_reach 14 = .ok (.aload_n 0, 1) := by decide +kernel
theorem dX1_reach_15 : decode cX1_reach 15 = .ok (.getfield 15, 3) := by decide +kernel
theorem dX1_reach_18 : decode cX1_reach 18 = .ok (.iload_n 1, 1) := by decide +kernel
theorem dX1_reach_19 : decode cX1_reach 19 = .ok (.iload_n 2, 1) := by decide +kernel
theorem dX1_reach_20 : decode cX1_reach 20 = .ok (.iload_n 3, 1) := by decide +kernel
theorem dX1_reach_21 : decode cX1_reach 21 = .ok (.iload 4, 2) := by decide +kernel
theorem dX1_reach_23 : decode cX1_reach 23 = .ok (.invokevirtual 74, 3) := by decide +kernel
theorem dX1_reach_26 : decode cX1_reach 26 = .ok (.iadd, 1) := by decide +kernel
theorem dX1_reach_27 : decode cX1_reach 27 = .ok (.invokestatic 68, 3) := by decide +kernel
theorem dX1_reach_30 : decode cX1_reach 30 = .ok (.ireturn, 1) := by decide +kernel
theorem dX1_binding_0 : decode cX1_binding 0 = .ok (.aload_n 0, 1) := by decide +kernel
theorem dX1_binding_1 : decode cX1_binding 1 = .ok (.iload_n 1, 1) := by decide +kernel
theorem dX1_binding_2 : decode cX1_binding 2 = .ok (.iload_n 2, 1) := by decide +kernel
theorem dX1_binding_3 : decode cX1_binding 3 = .ok (.invokevirtual 77, 3) := by decide +kernel
theorem dX1_binding_6 : decode cX1_binding 6 = .ok (.iconst (-1), 1) := by decide +kernel
theorem dX1_binding_7 : decode cX1_binding 7 = .ok (.istore_n 3, 1) := by decide +kernel
theorem dX1_binding_8 : decode cX1_binding 8 = .ok (.iconst (-1), 1) := by decide +kernel
theorem dX1_binding_9 : decode cX1_binding 9 = .ok (.istore 4, 2) := by decide +kernel
theorem dX1_binding_11 : decode cX1_binding 11 = .ok (.iconst 0, 1) := by decide +kernel
theorem dX1_binding_12 : decode cX1_binding 12 = .ok (.istore 5, 2) := by decide +kernel
theorem dX1_binding_14 : decode cX1_binding 14 = .ok (.iload 5, 2) := by decide +kernel
theorem dX1_binding_16 : decode cX1_binding 16 = .ok (.aload_n 0, 1) := by decide +kernel
theorem dX1_binding_17 : decode cX1_binding 17 = .ok (.getfield 15, 3) := by decide +kernel
theorem dX1_binding_20 : decode cX1_binding 20 = .ok (.invokevirtual 81, 3) := by decide +kernel
theorem dX1_binding_23 : decode cX1_binding 23 = .ok (.if_icmp .gt 40, 3) := by decide +kernel
theorem dX1_binding_26 : decode cX1_binding 26 = .ok (.iload 5, 2) := by decide +kernel
theorem dX1_binding_28 : decode cX1_binding 28 = .ok (.invokestatic 23, 3) := by decide +kernel
theorem dX1_binding_31 : decode cX1_binding 31 = .ok (.iload_n 2, 1) := by decide +kernel
theorem dX1_binding_32 : decode cX1_binding 32 = .ok (.if_icmp .ne 25, 3) := by decide +kernel
theorem dX1_binding_35 : decode cX1_binding 35 = .ok (.aload_n 0, 1) := by decide +kernel
theorem dX1_binding_36 : decode cX1_binding 36 = .ok (.iload 5, 2) := by decide +kernel
theorem dX1_binding_38 : decode cX1_binding 38 = .ok (.invokevirtual 85, 3) := by decide +kernel
theorem dX1_binding_41 : decode cX1_binding 41 = .ok (.iload 4, 2) := by decide +kernel
theorem dX1_binding_43 : decode cX1_binding 43 = .ok (.if_icmp .le 14, 3) := by decide +kernel
theorem dX1_binding_46 : decode cX1_binding 46 = .ok (.aload_n 0, 1) := by decide +kernel
theorem dX1_binding_47 : decode cX1_binding 47 = .ok (.iload 5, 2) := by decide +kernel
theorem dX1_binding_49 : decode cX1_binding 49 = .ok (.invokevirtual 85, 3) := by decide +kernel
theorem dX1_binding_52 : decode cX1_binding 52 = .ok (.istore 4, 2) := by decide +kernel
theorem dX1_binding_54 : decode cX1_binding 54 = .ok (.iload 5, 2) := by decide +kernel
theorem dX1_binding_56 : decode cX1_binding 56 = .ok (.istore_n 3, 1) := by decide +kernel
theorem dX1_binding_57 : decode cX1_binding 57 = .ok (.iinc 5 1, 3) := by decide +kernel
theorem dX1_binding_60 : decode cX1_binding 60 = .ok (.goto (-46), 3) := by decide +kernel
theorem dX1_binding_63 : decode cX1_binding 63 = .ok (.iload_n 3, 1) := by decide +kernel
theorem dX1_binding_64 : decode cX1_binding 64 = .ok (.ireturn, 1) := by decide +kernel
theorem dX1_foresee_0 : decode cX1_foresee 0 = .ok (.iconst 0, 1) := by decide +kernel
theorem dX1_foresee_1 : decode cX1_foresee 1 = .ok (.istore_n 3, 1) := by decide +kernel
theorem dX1_foresee_2 : decode cX1_foresee 2 = .ok (.iload_n 3, 1) := by decide +kernel
theorem dX1_foresee_3 : decode cX1_foresee 3 = .ok (.aload_n 0, 1) := by decide +kernel
theorem dX1_foresee_4 : decode cX1_foresee 4 = .ok (.getfield 15, 3) := by decide +kernel
theorem dX1_foresee_7 : decode cX1_foresee 7 = .ok (.getfield 29, 3) := by decide +kernel
theorem dX1_foresee_10 : decode cX1_foresee 10 = .ok (.if_icmp .ge 96, 3) := by decide +kernel
theorem dX1_foresee_13 : decode cX1_foresee 13 = .ok (.aload_n 0, 1) := by decide +kernel
theorem dX1_foresee_14 : decode cX1_foresee 14 = .ok (.getfield 9, 3) := by decide +kernel
theorem dX1_foresee_17 : decode cX1_foresee 17 = .ok (.iload_n 3, 1) := by decide +kernel
theorem dX1_foresee_18 : decode cX1_foresee 18 = .ok (.iconst 0, 1) := by decide +kernel
theorem dX1_foresee_19 : decode cX1_foresee 19 = .ok (.iastore, 1) := by decide +kernel
theorem dX1_foresee_20 : decode cX1_foresee 20 = .ok (.iload_n 3, 1) := by decide +kernel
theorem dX1_foresee_21 : decode cX1_foresee 21 = .ok (.iconst 1, 1) := by decide +kernel
theorem dX1_foresee_22 : decode cX1_foresee 22 = .ok (.iadd, 1) := by decide +kernel
theorem dX1_foresee_23 : decode cX1_foresee 23 = .ok (.istore 4, 2) := by decide +kernel
theorem dX1_foresee_25 : decode cX1_foresee 25 = .ok (.iload 4, 2) := by decide +kernel
theorem dX1_foresee_27 : decode cX1_foresee 27 = .ok (.aload_n 0, 1) := by decide +kernel
theorem dX1_foresee_28 : decode cX1_foresee 28 = .ok (.getfield 15, 3) := by decide +kernel
theorem dX1_foresee_31 : decode cX1_foresee 31 = .ok (.getfield 29, 3) := by decide +kernel
theorem dX1_foresee_34 : decode cX1_foresee 34 = .ok (.if_icmp .ge 66, 3) := by decide +kernel
theorem dX1_foresee_37 : decode cX1_foresee 37 = .ok (.aload_n 0, 1) := by decide +kernel
theorem dX1_foresee_38 : decode cX1_foresee 38 = .ok (.getfield 15, 3) := by decide +kernel
theorem dX1_foresee_41 : decode cX1_foresee 41 = .ok (.iload_n 3, 1) := by decide +kernel
theorem dX1_foresee_42 : decode cX1_foresee 42 = .ok (.iload 4, 2) := by decide +kernel
theorem dX1_foresee_44 : decode cX1_foresee 44 = .ok (.invokevirtual 88, 3) := by decide +kernel
theorem dX1_foresee_47 : decode cX1_foresee 47 = .ok (.ifCond .ne 47, 3) := by decide +kernel
theorem dX1_foresee_50 : decode cX1_foresee 50 = .ok (.aload_n 0, 1) := by decide +kernel
theorem dX1_foresee_51 : decode cX1_foresee 51 = .ok (.iload_n 3, 1) := by decide +kernel
theorem dX1_foresee_52 : decode cX1_foresee 52 = .ok (.iload 4, 2) := by decide +kernel
theorem dX1_foresee_54 : decode cX1_foresee 54 = .ok (.iload_n 1, 1) := by decide +kernel
theorem dX1_foresee_55 : decode cX1_foresee 55 = .ok (.iload_n 2, 1) := by decide +kernel
theorem dX1_foresee_56 : decode cX1_foresee 56 = .ok (.invokevirtual 39, 3) := by decide +kernel
theorem dX1_foresee_59 : decode cX1_foresee 59 = .ok (.ifCond .le 35, 3) := by decide +kernel
theorem dX1_foresee_62 : decode cX1_foresee 62 = .ok (.aload_n 0, 1) := by decide +kernel
theorem dX1_foresee_63 : decode cX1_foresee 63 = .ok (.getfield 15, 3) := by decide +kernel
theorem dX1_foresee_66 : decode cX1_foresee 66 = .ok (.getfield 71, 3) := by decide +kernel
theorem dX1_foresee_69 : decode cX1_foresee 69 = .ok (.aload_n 0, 1) := by decide +kernel
theorem dX1_foresee_70 : decode cX1_foresee 70 = .ok (.iload_n 3, 1) := by decide +kernel
theorem dX1_foresee_71 : decode cX1_foresee 71 = .ok (.iload 4, 2) := by decide +kernel
theorem dX1_foresee_73 : decode cX1_foresee 73 = .ok (.iload_n 1, 1) := by decide +kernel
theorem dX1_foresee_74 : decode cX1_foresee 74 = .ok (.iload_n 2, 1) := by decide +kernel
theorem dX1_foresee_75 : decode cX1_foresee 75 = .ok (.invokevirtual 43, 3) := by decide +kernel
theorem dX1_foresee_78 : decode cX1_foresee 78 = .ok (.if_icmp .ge 16, 3) := by decide +kernel
theorem dX1_foresee_81 : decode cX1_foresee 81 = .ok (.aload_n 0, 1) := by decide +kernel
theorem dX1_foresee_82 : decode cX1_foresee 82 = .ok (.getfield 9, 3) := by decide +kernel
theorem dX1_foresee_85 : decode cX1_foresee 85 = .ok (.iload_n 3, 1) := by decide +kernel
theorem dX1_foresee_86 : decode cX1_foresee 86 = .ok (.dup2, 1) := by decide +kernel
theorem dX1_foresee_87 : decode cX1_foresee 87 = .ok (.iaload, 1) := by decide +kernel
theorem dX1_foresee_88 : decode cX1_foresee 88 = .ok (.iconst 1, 1) := by decide +kernel
theorem dX1_foresee_89 : decode cX1_foresee 89 = .ok (.iload 4, 2) := by decide +kernel
theorem dX1_foresee_91 : decode cX1_foresee 91 = .ok (.ishl, 1) := by decide +kernel
theorem dX1_foresee_92 : decode cX1_foresee 92 = .ok (.ior, 1) := by decide +kernel
theorem dX1_foresee_93 : decode cX1_foresee 93 = .ok (.iastore, 1) := by decide +kernel
theorem dX1_foresee_94 : decode cX1_foresee 94 = .ok (.iinc 4 1, 3) := by decide +kernel
theorem dX1_foresee_97 : decode cX1_foresee 97 = .ok (.goto (-72), 3) := by decide +kernel
theorem dX1_foresee_100 : decode cX1_foresee 100 = .ok (.iinc 3 1, 3) := by decide +kernel
theorem dX1_foresee_103 : decode cX1_foresee 103 = .ok (.goto (-101), 3) := by decide +kernel
theorem dX1_foresee_106 : decode cX1_foresee 106 = .ok (.return_, 1) := by decide +kernel
theorem dX1_newlyWithin_0 : decode cX1_newlyWithin 0 = .ok (.iconst 0, 1) := by decide +kernel
theorem dX1_newlyWithin_1 : decode cX1_newlyWithin 1 = .ok (.istore_n 2, 1) := by decide +kernel
theorem dX1_newlyWithin_2 : decode cX1_newlyWithin 2 = .ok (.iconst 0, 1) := by decide +kernel
theorem dX1_newlyWithin_3 : decode cX1_newlyWithin 3 = .ok (.istore_n 3, 1) := by decide +kernel
theorem dX1_newlyWithin_4 : decode cX1_newlyWithin 4 = .ok (.iload_n 3, 1) := by decide +kernel
theorem dX1_newlyWithin_5 : decode cX1_newlyWithin 5 = .ok (.aload_n 0, 1) := by decide +kernel
theorem dX1_newlyWithin_6 : decode cX1_newlyWithin 6 = .ok (.getfield 15, 3) := by decide +kernel
theorem dX1_newlyWithin_9 : decode cX1_newlyWithin 9 = .ok (.getfield 29, 3) := by decide +kernel
theorem dX1_newlyWithin_12 : decode cX1_newlyWithin 12 = .ok (.if_icmp .ge 31, 3) := by decide +kernel
theorem dX1_newlyWithin_15 : decode cX1_newlyWithin 15 = .ok (.iload_n 1, 1) := by decide +kernel
theorem dX1_newlyWithin_16 : decode cX1_newlyWithin 16 = .ok (.iconst 1, 1) := by decide +kernel
theorem dX1_newlyWithin_17 : decode cX1_newlyWithin 17 = .ok (.iload_n 3, 1) := by decide +kernel
theorem dX1_newlyWithin_18 : decode cX1_newlyWithin 18 = .ok (.ishl, 1) := by decide +kernel
theorem dX1_newlyWithin_19 : decode cX1_newlyWithin 19 = .ok (.iand, 1) := by decide +kernel
theorem dX1_newlyWithin_20 : decode cX1_newlyWithin 20 = .ok (.ifCond .eq 17, 3) := by decide +kernel
theorem dX1_newlyWithin_23 : decode cX1_newlyWithin 23 = .ok (.iload_n 2, 1) := by decide +kernel
theorem dX1_newlyWithin_24 : decode cX1_newlyWithin 24 = .ok (.aload_n 0, 1) := by decide +kernel
theorem dX1_newlyWithin_25 : decode cX1_newlyWithin 25 = .ok (.getfield 9, 3) := by decide +kernel
theorem dX1_newlyWithin_28 : decode cX1_newlyWithin 28 = .ok (.iload_n 3, 1) := by decide +kernel
theorem dX1_newlyWithin_29 : decode cX1_newlyWithin 29 = .ok (.iaload, 1) := by decide +kernel
theorem dX1_newlyWithin_30 : decode cX1_newlyWithin 30 = .ok (.iload_n 1, 1) := by decide +kernel
theorem dX1_newlyWithin_31 : decode cX1_newlyWithin 31 = .ok (.iand, 1) := by decide +kernel
theorem dX1_newlyWithin_32 : decode cX1_newlyWithin 32 = .ok (.invokestatic 23, 3) := by decide +kernel
theorem dX1_newlyWithin_35 : decode cX1_newlyWithin 35 = .ok (.iadd, 1) := by decide +kernel
theorem dX1_newlyWithin_36 : decode cX1_newlyWithin 36 = .ok (.istore_n 2, 1) := by decide +kernel
theorem dX1_newlyWithin_37 : decode cX1_newlyWithin 37 = .ok (.iinc 3 1, 3) := by decide +kernel
theorem dX1_newlyWithin_40 : decode cX1_newlyWithin 40 = .ok (.goto (-36), 3) := by decide +kernel
theorem dX1_newlyWithin_43 : decode cX1_newlyWithin 43 = .ok (.iload_n 2, 1) := by decide +kernel
theorem dX1_newlyWithin_44 : decode cX1_newlyWithin 44 = .ok (.ireturn, 1) := by decide +kernel
theorem dX0_pass_0 : decode cX0_pass 0 = .ok (.iconst 0, 1) := by decide +kernel
theorem dX0_pass_1 : decode cX0_pass 1 = .ok (.istore 4, 2) := by decide +kernel
theorem dX0_pass_3 : decode cX0_pass 3 = .ok (.iconst 0, 1) := by decide +kernel
theorem dX0_pass_4 : decode cX0_pass 4 = .ok (.istore 5, 2) := by decide +kernel
theorem dX0_pass_6 : decode cX0_pass 6 = .ok (.iload 5, 2) := by decide +kernel
theorem dX0_pass_8 : decode cX0_pass 8 = .ok (.iload_n 2, 1) := by decide +kernel
theorem dX0_pass_9 : decode cX0_pass 9 = .ok (.if_icmp .ge 53, 3) := by decide +kernel
theorem dX0_pass_12 : decode cX0_pass 12 = .ok (.aload_n 0, 1) := by decide +kernel
theorem dX0_pass_13 : decode cX0_pass 13 = .ok (.getfield 9, 3) := by decide +kernel
theorem dX0_pass_16 : decode cX0_pass 16 = .ok (.istore 6, 2) := by decide +kernel
theorem dX0_pass_18 : decode cX0_pass 18 = .ok (.aload_n 0, 1) := by decide +kernel
theorem dX0_pass_19 : decode cX0_pass 19 = .ok (.iload_n 3, 1) := by decide +kernel
theorem dX0_pass_20 : decode cX0_pass 20 = .ok (.invokestatic 15, 3) := by decide +kernel
theorem dX0_pass_23 : decode cX0_pass 23 = .ok (.aload_n 0, 1) := by decide +kernel
theorem dX0_pass_24 : decode cX0_pass 24 = .ok (.aload_n 1, 1) := by decide +kernel
theorem dX0_pass_25 : decode cX0_pass 25 = .ok (.invokestatic 21, 3) := by decide +kernel
theorem dX0_pass_28 : decode cX0_pass 28 = .ok (.aload_n 0, 1) := by decide +kernel
theorem dX0_pass_29 : decode cX0_pass 29 = .ok (.sipush 9999, 3) := by decide +kernel
theorem dX0_pass_32 : decode cX0_pass 32 = .ok (.aload_n 0, 1) := by decide +kernel
theorem dX0_pass_33 : decode cX0_pass 33 = .ok (.getfield 25, 3) := by decide +kernel
theorem dX0_pass_36 : decode cX0_pass 36 = .ok (.iconst 1, 1) := by decide +kernel
theorem dX0_pass_37 : decode cX0_pass 37 = .ok (.iadd, 1) := by decide +kernel
theorem dX0_pass_38 : decode cX0_pass 38 = .ok (.invokestatic 28, 3) := by decide +kernel
theorem dX0_pass_41 : decode cX0_pass 41 = .ok (.putfield 25, 3) := by decide +kernel
theorem dX0_pass_44 : decode cX0_pass 44 = .ok (.aload_n 0, 1) := by decide +kernel
theorem dX0_pass_45 : decode cX0_pass 45 = .ok (.getfield 9, 3) := by decide +kernel
theorem dX0_pass_48 : decode cX0_pass 48 = .ok (.iload 6, 2) := by decide +kernel
theorem dX0_pass_50 : decode cX0_pass 50 = .ok (.if_icmp .ne 6, 3) := by decide +kernel
theorem dX0_pass_53 : decode cX0_pass 53 = .ok (.iinc 4 1, 3) := by decide +kernel
theorem dX0_pass_56 : decode cX0_pass 56 = .ok (.iinc 5 1, 3) := by decide +kernel
theorem dX0_pass_59 : decode cX0_pass 59 = .ok (.goto (-53), 3) := by decide +kernel
theorem dX0_pass_62 : decode cX0_pass 62 = .ok (.iload 4, 2) := by decide +kernel
theorem dX0_pass_64 : decode cX0_pass 64 = .ok (.ireturn, 1) := by decide +kernel
theorem dX0_move_0 : decode cX0_move 0 = .ok (.iconst 0, 1) := by decide +kernel
theorem dX0_move_1 : decode cX0_move 1 = .ok (.istore_n 2, 1) := by decide +kernel
theorem dX0_move_2 : decode cX0_move 2 = .ok (.iload_n 2, 1) := by decide +kernel
theorem dX0_move_3 : decode cX0_move 3 = .ok (.aload_n 0, 1) := by decide +kernel
theorem dX0_move_4 : decode cX0_move 4 = .ok (.getfield 34, 3) := by decide +kernel
theorem dX0_move_7 : decode cX0_move 7 = .ok (.if_icmp .ge 52, 3) := by decide +kernel
theorem dX0_move_10 : decode cX0_move 10 = .ok (.aload_n 0, 1) := by decide +kernel
theorem dX0_move_11 : decode cX0_move 11 = .ok (.iload_n 2, 1) := by decide +kernel
theorem dX0_move_12 : decode cX0_move 12 = .ok (.invokevirtual 37, 3) := by decide +kernel
theorem dX0_move_15 : decode cX0_move 15 = .ok (.istore_n 3, 1) := by decide +kernel
theorem dX0_move_16 : decode cX0_move 16 = .ok (.iload_n 3, 1) := by decide +kernel
theorem dX0_move_17 : decode cX0_move 17 = .ok (.iconst (-1), 1) := by decide +kernel
theorem dX0_move_18 : decode cX0_move 18 = .ok (.if_icmp .eq 35, 3) := by decide +kernel
theorem dX0_move_21 : decode cX0_move 21 = .ok (.iload_n 1, 1) := by decide +kernel
theorem dX0_move_22 : decode cX0_move 22 = .ok (.ifCond .eq 19, 3) := by decide +kernel
theorem dX0_move_25 : decode cX0_move 25 = .ok (.aload_n 0, 1) := by decide +kernel
theorem dX0_move_26 : decode cX0_move 26 = .ok (.invokevirtual 41, 3) := by decide +kernel
theorem dX0_move_29 : decode cX0_move 29 = .ok (.bipush 10, 2) := by decide +kernel
theorem dX0_move_31 : decode cX0_move 31 = .ok (.irem, 1) := by decide +kernel
theorem dX0_move_32 : decode cX0_move 32 = .ok (.aload_n 0, 1) := by decide +kernel
theorem dX0_move_33 : decode cX0_move 33 = .ok (.iload_n 2, 1) := by decide +kernel
theorem dX0_move_34 : decode cX0_move 34 = .ok (.iload_n 3, 1) := by decide +kernel
theorem dX0_move_35 : decode cX0_move 35 = .ok (.invokevirtual 45, 3) := by decide +kernel
theorem dX0_move_38 : decode cX0_move 38 = .ok (.if_icmp .ge 15, 3) := by decide +kernel
theorem dX0_move_41 : decode cX0_move 41 = .ok (.aload_n 0, 1) := by decide +kernel
theorem dX0_move_42 : decode cX0_move 42 = .ok (.getfield 48, 3) := by decide +kernel
theorem dX0_move_45 : decode cX0_move 45 = .ok (.iload_n 2, 1) := by decide +kernel
theorem dX0_move_46 : decode cX0_move 46 = .ok (.aload_n 0, 1) := by decide +kernel
theorem dX0_move_47 : decode cX0_move 47 = .ok (.getfield 48, 3) := by decide +kernel
theorem dX0_move_50 : decode cX0_move 50 = .ok (.iload_n 3, 1) := by decide +kernel
theorem dX0_move_51 : decode cX0_move 51 = .ok (.iaload, 1) := by decide +kernel
theorem dX0_move_52 : decode cX0_move 52 = .ok (.iastore, 1) := by decide +kernel
theorem dX0_move_53 : decode cX0_move 53 = .ok (.iinc 2 1, 3) := by decide +kernel
theorem dX0_move_56 : decode cX0_move 56 = .ok (.goto (-54), 3) := by decide +kernel
theorem dX0_move_59 : decode cX0_move 59 = .ok (.return_, 1) := by decide +kernel
theorem dX0_meet_0 : decode cX0_meet 0 = .ok (.iconst 0, 1) := by decide +kernel
theorem dX0_meet_1 : decode cX0_meet 1 = .ok (.istore_n 2, 1) := by decide +kernel
theorem dX0_meet_2 : decode cX0_meet 2 = .ok (.iload_n 2, 1) := by decide +kernel
theorem dX0_meet_3 : decode cX0_meet 3 = .ok (.aload_n 0, 1) := by decide +kernel
theorem dX0_meet_4 : decode cX0_meet 4 = .ok (.getfield 34, 3) := by decide +kernel
theorem dX0_meet_7 : decode cX0_meet 7 = .ok (.if_icmp .ge 107, 3) := by decide +kernel
theorem dX0_meet_10 : decode cX0_meet 10 = .ok (.iload_n 2, 1) := by decide +kernel
theorem dX0_meet_11 : decode cX0_meet 11 = .ok (.iconst 1, 1) := by decide +kernel
theorem dX0_meet_12 : decode cX0_meet 12 = .ok (.iadd, 1) := by decide +kernel
theorem dX0_meet_13 : decode cX0_meet 13 = .ok (.istore_n 3, 1) := by decide +kernel
theorem dX0_meet_14 : decode cX0_meet 14 = .ok (.iload_n 3, 1) := by decide +kernel
theorem dX0_meet_15 : decode cX0_meet 15 = .ok (.aload_n 0, 1) := by decide +kernel
theorem dX0_meet_16 : decode cX0_meet 16 = .ok (.getfield 34, 3) := by decide +kernel
theorem dX0_meet_19 : decode cX0_meet 19 = .ok (.if_icmp .ge 89, 3) := by decide +kernel
theorem dX0_meet_22 : decode cX0_meet 22 = .ok (.aload_n 0, 1) := by decide +kernel
theorem dX0_meet_23 : decode cX0_meet 23 = .ok (.getfield 48, 3) := by decide +kernel
theorem dX0_meet_26 : decode cX0_meet 26 = .ok (.iload_n 2, 1) := by decide +kernel
theorem dX0_meet_27 : decode cX0_meet 27 = .ok (.iaload, 1) := by decide +kernel
theorem dX0_meet_28 : decode cX0_meet 28 = .ok (.aload_n 0, 1) := by decide +kernel
theorem dX0_meet_29 : decode cX0_meet 29 = .ok (.getfield 48, 3) := by decide +kernel
theorem dX0_meet_32 : decode cX0_meet 32 = .ok (.iload_n 3, 1) := by decide +kernel
theorem dX0_meet_33 : decode cX0_meet 33 = .ok (.iaload, 1) := by decide +kernel
theorem dX0_meet_34 : decode cX0_meet 34 = .ok (.if_icmp .eq 6, 3) := by decide +kernel
theorem dX0_meet_37 : decode cX0_meet 37 = .ok (.goto 65, 3) := by decide +kernel
theorem dX0_meet_40 : decode cX0_meet 40 = .ok (.aload_n 0, 1) := by decide +kernel
theorem dX0_meet_41 : decode cX0_meet 41 = .ok (.getfield 52, 3) := by decide +kernel
theorem dX0_meet_44 : decode cX0_meet 44 = .ok (.iload_n 2, 1) := by decide +kernel
theorem dX0_meet_45 : decode cX0_meet 45 = .ok (.dup2, 1) := by decide +kernel
theorem dX0_meet_46 : decode cX0_meet 46 = .ok (.iaload, 1) := by decide +kernel
theorem dX0_meet_47 : decode cX0_meet 47 = .ok (.iconst 1, 1) := by decide +kernel
theorem dX0_meet_48 : decode cX0_meet 48 = .ok (.iload_n 3, 1) := by decide +kernel
theorem dX0_meet_49 : decode cX0_meet 49 = .ok (.ishl, 1) := by decide +kernel
theorem dX0_meet_50 : decode cX0_meet 50 = .ok (.ior, 1) := by decide +kernel
theorem dX0_meet_51 : decode cX0_meet 51 = .ok (.iastore, 1) := by decide +kernel
theorem dX0_meet_52 : decode cX0_meet 52 = .ok (.aload_n 0, 1) := by decide +kernel
theorem dX0_meet_53 : decode cX0_meet 53 = .ok (.getfield 52, 3) := by decide +kernel
theorem dX0_meet_56 : decode cX0_meet 56 = .ok (.iload_n 3, 1) := by decide +kernel
theorem dX0_meet_57 : decode cX0_meet 57 = .ok (.dup2, 1) := by decide +kernel
theorem dX0_meet_58 : decode cX0_meet 58 = .ok (.iaload, 1) := by decide +kernel
theorem dX0_meet_59 : decode cX0_meet 59 = .ok (.iconst 1, 1) := by decide +kernel
theorem dX0_meet_60 : decode cX0_meet 60 = .ok (.iload_n 2, 1) := by decide +kernel
theorem dX0_meet_61 : decode cX0_meet 61 = .ok (.ishl, 1) := by decide +kernel
theorem dX0_meet_62 : decode cX0_meet 62 = .ok (.ior, 1) := by decide +kernel
theorem dX0_meet_63 : decode cX0_meet 63 = .ok (.iastore, 1) := by decide +kernel
theorem dX0_meet_64 : decode cX0_meet 64 = .ok (.aload_n 0, 1) := by decide +kernel
theorem dX0_meet_65 : decode cX0_meet 65 = .ok (.getfield 55, 3) := by decide +kernel
theorem dX0_meet_68 : decode cX0_meet 68 = .ok (.iconst 1, 1) := by decide +kernel
theorem dX0_meet_69 : decode cX0_meet 69 = .ok (.aload_n 0, 1) := by decide +kernel
theorem dX0_meet_70 : decode cX0_meet 70 = .ok (.getfield 48, 3) := by decide +kernel
theorem dX0_meet_73 : decode cX0_meet 73 = .ok (.iload_n 2, 1) := by decide +kernel
theorem dX0_meet_74 : decode cX0_meet 74 = .ok (.iaload, 1) := by decide +kernel
theorem dX0_meet_75 : decode cX0_meet 75 = .ok (.ishl, 1) := by decide +kernel
theorem dX0_meet_76 : decode cX0_meet 76 = .ok (.iand, 1) := by decide +kernel
theorem dX0_meet_77 : decode cX0_meet 77 = .ok (.ifCond .eq 25, 3) := by decide +kernel
theorem dX0_meet_80 : decode cX0_meet 80 = .ok (.aload_n 0, 1) := by decide +kernel
theorem dX0_meet_81 : decode cX0_meet 81 = .ok (.iload_n 2, 1) := by decide +kernel
theorem dX0_meet_82 : decode cX0_meet 82 = .ok (.iload_n 3, 1) := by decide +kernel
theorem dX0_meet_83 : decode cX0_meet 83 = .ok (.invokevirtual 58, 3) := by decide +kernel
theorem dX0_meet_86 : decode cX0_meet 86 = .ok (.ifCond .eq 16, 3) := by decide +kernel
theorem dX0_meet_89 : decode cX0_meet 89 = .ok (.aload_n 0, 1) := by decide +kernel
theorem dX0_meet_90 : decode cX0_meet 90 = .ok (.iload_n 2, 1) := by decide +kernel
theorem dX0_meet_91 : decode cX0_meet 91 = .ok (.iload_n 3, 1) := by decide +kernel
theorem dX0_meet_92 : decode cX0_meet 92 = .ok (.aload_n 1, 1) := by decide +kernel
theorem dX0_meet_93 : decode cX0_meet 93 = .ok (.aload_n 0, 1) := by decide +kernel
theorem dX0_meet_94 : decode cX0_meet 94 = .ok (.iload_n 2, 1) := by decide +kernel
theorem dX0_meet_95 : decode cX0_meet 95 = .ok (.iload_n 3, 1) := by decide +kernel
theorem dX0_meet_96 : decode cX0_meet 96 = .ok (.invokevirtual 62, 3) := by decide +kernel
theorem dX0_meet_99 : decode cX0_meet 99 = .ok (.invokevirtual 68, 3) := by decide +kernel
theorem dX0_meet_102 : decode cX0_meet 102 = .ok (.iinc 3 1, 3) := by decide +kernel
theorem dX0_meet_105 : decode cX0_meet 105 = .ok (.goto (-91), 3) := by decide +kernel
theorem dX0_meet_108 : decode cX0_meet 108 = .ok (.iinc 2 1, 3) := by decide +kernel
theorem dX0_meet_111 : decode cX0_meet 111 = .ok (.goto (-109), 3) := by decide +kernel
theorem dX0_meet_114 : decode cX0_meet 114 = .ok (.return_, 1) := by decide +kernel
