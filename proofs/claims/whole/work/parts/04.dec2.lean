theorem dX2_init_0 : decode cX2_init 0 = .ok (.aload_n 0, 1) := by decide +kernel
theorem dX2_init_1 : decode cX2_init 1 = .ok (.invokespecial 3, 3) := by decide +kernel
theorem dX2_init_4 : decode cX2_init 4 = .ok (.aload_n 0, 1) := by decide +kernel
theorem dX2_init_5 : decode cX2_init 5 = .ok (.bipush 8, 2) := by decide +kernel
theorem dX2_init_7 : decode cX2_init 7 = .ok (.newarray .int, 2) := by decide +kernel
theorem dX2_init_9 : decode cX2_init 9 = .ok (.putfield 9, 3) := by decide +kernel
theorem dX2_init_12 : decode cX2_init 12 = .ok (.aload_n 0, 1) := by decide +kernel
theorem dX2_init_13 : decode cX2_init 13 = .ok (.aload_n 1, 1) := by decide +kernel
theorem dX2_init_14 : decode cX2_init 14 = .ok (.putfield 15, 3) := by decide +kernel
theorem dX2_init_17 : decode cX2_init 17 = .ok (.aload_n 0, 1) := by decide +kernel
theorem dX2_init_18 : decode cX2_init 18 = .ok (.aload_n 2, 1) := by decide +kernel
theorem dX2_init_19 : decode cX2_init 19 = .ok (.putfield 19, 3) := by decide +kernel
theorem dX2_init_22 : decode cX2_init 22 = .ok (.return_, 1) := by decide +kernel
theorem dX2_weigh_0 : decode cX2_weigh 0 = .ok (.aload_n 0, 1) := by decide +kernel
theorem dX2_weigh_1 : decode cX2_weigh 1 = .ok (.invokevirtual 23, 3) := by decide +kernel
theorem dX2_weigh_4 : decode cX2_weigh 4 = .ok (.ifCond .ne 5, 3) := by decide +kernel
theorem dX2_weigh_7 : decode cX2_weigh 7 = .ok (.iconst 0, 1) := by decide +kernel
theorem dX2_weigh_8 : decode cX2_weigh 8 = .ok (.ireturn, 1) := by decide +kernel
theorem dX2_weigh_9 : decode cX2_weigh 9 = .ok (.aload_n 0, 1) := by decide +kernel
theorem dX2_weigh_10 : decode cX2_weigh 10 = .ok (.iconst 0, 1) := by decide +kernel
theorem dX2_weigh_11 : decode cX2_weigh 11 = .ok (.putfield 27, 3) := by decide +kernel
theorem dX2_weigh_14 : decode cX2_weigh 14 = .ok (.aload_n 0, 1) := by decide +kernel
theorem dX2_weigh_15 : decode cX2_weigh 15 = .ok (.aload_n 0, 1) := by decide +kernel
theorem dX2_weigh_16 : decode cX2_weigh 16 = .ok (.getfield 15, 3) := by decide +kernel
theorem dX2_weigh_19 : decode cX2_weigh 19 = .ok (.invokevirtual 31, 3) := by decide +kernel
theorem dX2_weigh_22 : decode cX2_weigh 22 = .ok (.putfield 37, 3) := by decide +kernel
theorem dX2_weigh_25 : decode cX2_weigh 25 = .ok (.iconst 0, 1) := by decide +kernel
theorem dX2_weigh_26 : decode cX2_weigh 26 = .ok (.istore_n 1, 1) := by decide +kernel
theorem dX2_weigh_27 : decode cX2_weigh 27 = .ok (.iload_n 1, 1) := by decide +kernel
theorem dX2_weigh_28 : decode cX2_weigh 28 = .ok (.bipush 8, 2) := by decide +kernel
theorem dX2_weigh_30 : decode cX2_weigh 30 = .ok (.if_icmp .ge 16, 3) := by decide +kernel
theorem dX2_weigh_33 : decode cX2_weigh 33 = .ok (.aload_n 0, 1) := by decide +kernel
theorem dX2_weigh_34 : decode cX2_weigh 34 = .ok (.getfield 9, 3) := by decide +kernel
theorem dX2_weigh_37 : decode cX2_weigh 37 = .ok (.iload_n 1, 1) := by decide +kernel
theorem dX2_weigh_38 : decode cX2_weigh 38 = .ok (.iconst 0, 1) := by decide +kernel
theorem dX2_weigh_39 : decode cX2_weigh 39 = .ok (.iastore, 1) := by decide +kernel
theorem dX2_weigh_40 : decode cX2_weigh 40 = .ok (.iinc 1 1, 3) := by decide +kernel
theorem dX2_weigh_43 : decode cX2_weigh 43 = .ok (.goto (-16), 3) := by decide +kernel
theorem dX2_weigh_46 : decode cX2_weigh 46 = .ok (.iconst 0, 1) := by decide +kernel
theorem dX2_weigh_47 : decode cX2_weigh 47 = .ok (.istore_n 1, 1) := by decide +kernel
theorem dX2_weigh_48 : decode cX2_weigh 48 = .ok (.iload_n 1, 1) := by decide +kernel
theorem dX2_weigh_49 : decode cX2_weigh 49 = .ok (.aload_n 0, 1) := by decide +kernel
theorem dX2_weigh_50 : decode cX2_weigh 50 = .ok (.getfield 15, 3) := by decide +kernel
theorem dX2_weigh_53 : decode cX2_weigh 53 = .ok (.invokevirtual 31, 3) := by decide +kernel
theorem dX2_weigh_56 : decode cX2_weigh 56 = .ok (.if_icmp .gt 22, 3) := by decide +kernel
theorem dX2_weigh_59 : decode cX2_weigh 59 = .ok (.aload_n 0, 1) := by decide +kernel
theorem dX2_weigh_60 : decode cX2_weigh 60 = .ok (.iload_n 1, 1) := by decide +kernel
theorem dX2_weigh_61 : decode cX2_weigh 61 = .ok (.invokevirtual 40, 3) := by decide +kernel
theorem dX2_weigh_64 : decode cX2_weigh 64 = .ok (.ifCond .eq 8, 3) := by decide +kernel
theorem dX2_weigh_67 : decode cX2_weigh 67 = .ok (.aload_n 0, 1) := by decide +kernel
theorem dX2_weigh_68 : decode cX2_weigh 68 = .ok (.iload_n 1, 1) := by decide +kernel
theorem dX2_weigh_69 : decode cX2_weigh 69 = .ok (.invokevirtual 44, 3) := by decide +kernel
theorem dX2_weigh_72 : decode cX2_weigh 72 = .ok (.iinc 1 1, 3) := by decide +kernel
theorem dX2_weigh_75 : decode cX2_weigh 75 = .ok (.goto (-27), 3) := by decide +kernel
theorem dX2_weigh_78 : decode cX2_weigh 78 = .ok (.aload_n 0, 1) := by decide +kernel
theorem dX2_weigh_79 : decode cX2_weigh 79 = .ok (.getfield 27, 3) := by decide +kernel
theorem dX2_weigh_82 : decode cX2_weigh 82 = .ok (.ifCond .ne 8, 3) := by decide +kernel
theorem dX2_weigh_85 : decode cX2_weigh 85 = .ok (.aload_n 0, 1) := by decide +kernel
theorem dX2_weigh_86 : decode cX2_weigh 86 = .ok (.iconst 0, 1) := by decide +kernel
theorem dX2_weigh_87 : decode cX2_weigh 87 = .ok (.putfield 37, 3) := by decide +kernel
theorem dX2_weigh_90 : decode cX2_weigh 90 = .ok (.iconst 1, 1) := by decide +kernel
theorem dX2_weigh_91 : decode cX2_weigh 91 = .ok (.ireturn, 1) := by decide +kernel
theorem dX2_isTold_0 : decode cX2_isTold 0 = .ok (.aload_n 0, 1) := by decide +kernel
theorem dX2_isTold_1 : decode cX2_isTold 1 = .ok (.getfield 19, 3) := by decide +kernel
theorem dX2_isTold_4 : decode cX2_isTold 4 = .ok (.getfield 48, 3) := by decide +kernel
theorem dX2_isTold_7 : decode cX2_isTold 7 = .ok (.bipush 36, 2) := by decide +kernel
theorem dX2_isTold_9 : decode cX2_isTold 9 = .ok (.if_icmp .gt 15, 3) := by decide +kernel
theorem dX2_isTold_12 : decode cX2_isTold 12 = .ok (.aload_n 0, 1) := by decide +kernel
theorem dX2_isTold_13 : decode cX2_isTold 13 = .ok (.getfield 19, 3) := by decide +kernel
theorem dX2_isTold_16 : decode cX2_isTold 16 = .ok (.getfield 48, 3) := by decide +kernel
theorem dX2_isTold_19 : decode cX2_isTold 19 = .ok (.iconst 3, 1) := by decide +kernel
theorem dX2_isTold_20 : decode cX2_isTold 20 = .ok (.irem, 1) := by decide +kernel
theorem dX2_isTold_21 : decode cX2_isTold 21 = .ok (.ifCond .eq 5, 3) := by decide +kernel
theorem dX2_isTold_24 : decode cX2_isTold 24 = .ok (.iconst 0, 1) := by decide +kernel
theorem dX2_isTold_25 : decode cX2_isTold 25 = .ok (.ireturn, 1) := by decide +kernel
theorem dX2_isTold_26 : decode cX2_isTold 26 = .ok (.iconst 0, 1) := by decide +kernel
theorem dX2_isTold_27 : decode cX2_isTold 27 = .ok (.istore_n 1, 1) := by decide +kernel
theorem dX2_isTold_28 : decode cX2_isTold 28 = .ok (.iload_n 1, 1) := by decide +kernel
theorem dX2_isTold_29 : decode cX2_isTold 29 = .ok (.iconst 2, 1) := by decide +kernel
theorem dX2_isTold_30 : decode cX2_isTold 30 = .ok (.iadd, 1) := by decide +kernel
theorem dX2_isTold_31 : decode cX2_isTold 31 = .ok (.aload_n 0, 1) := by decide +kernel
theorem dX2_isTold_32 : decode cX2_isTold 32 = .ok (.getfield 19, 3) := by decide +kernel
theorem dX2_isTold_35 : decode cX2_isTold 35 = .ok (.getfield 48, 3) := by decide +kernel
theorem dX2_isTold_38 : decode cX2_isTold 38 = .ok (.if_icmp .ge 55, 3) := by decide +kernel
theorem dX2_isTold_41 : decode cX2_isTold 41 = .ok (.aload_n 0, 1) := by decide +kernel
theorem dX2_isTold_42 : decode cX2_isTold 42 = .ok (.getfield 19, 3) := by decide +kernel
theorem dX2_isTold_45 : decode cX2_isTold 45 = .ok (.getfield 53, 3) := by decide +kernel
theorem dX2_isTold_48 : decode cX2_isTold 48 = .ok (.iload_n 1, 1) := by decide +kernel
theorem dX2_isTold_49 : decode cX2_isTold 49 = .ok (.iaload, 1) := by decide +kernel
theorem dX2_isTold_50 : decode cX2_isTold 50 = .ok (.aload_n 0, 1) := by decide +kernel
theorem dX2_isTold_51 : decode cX2_isTold 51 = .ok (.getfield 19, 3) := by decide +kernel
theorem dX2_isTold_54 : decode cX2_isTold 54 = .ok (.getfield 53, 3) := by decide +kernel
theorem dX2_isTold_57 : decode cX2_isTold 57 = .ok (.iload_n 1, 1) := by decide +kernel
theorem dX2_isTold_58 : decode cX2_isTold 58 = .ok (.iconst 1, 1) := by decide +kernel
theorem dX2_isTold_59 : decode cX2_isTold 59 = .ok (.iadd, 1) := by decide +kernel
theorem dX2_isTold_60 : decode cX2_isTold 60 = .ok (.iaload, 1) := by decide +kernel
theorem dX2_isTold_61 : decode cX2_isTold 61 = .ok (.if_icmp .gt 24, 3) := by decide +kernel
theorem dX2_isTold_64 : decode cX2_isTold 64 = .ok (.aload_n 0, 1) := by decide +kernel
theorem dX2_isTold_65 : decode cX2_isTold 65 = .ok (.getfield 15, 3) := by decide +kernel
theorem dX2_isTold_68 : decode cX2_isTold 68 = .ok (.aload_n 0, 1) := by decide +kernel
theorem dX2_isTold_69 : decode cX2_isTold 69 = .ok (.getfield 19, 3) := by decide +kernel
theorem dX2_isTold_72 : decode cX2_isTold 72 = .ok (.getfield 53, 3) := by decide +kernel
theorem dX2_isTold_75 : decode cX2_isTold 75 = .ok (.iload_n 1, 1) := by decide +kernel
theorem dX2_isTold_76 : decode cX2_isTold 76 = .ok (.iconst 1, 1) := by decide +kernel
theorem dX2_isTold_77 : decode cX2_isTold 77 = .ok (.iadd, 1) := by decide +kernel
theorem dX2_isTold_78 : decode cX2_isTold 78 = .ok (.iaload, 1) := by decide +kernel
theorem dX2_isTold_79 : decode cX2_isTold 79 = .ok (.invokevirtual 56, 3) := by decide +kernel
theorem dX2_isTold_82 : decode cX2_isTold 82 = .ok (.ifCond .ne 5, 3) := by decide +kernel
theorem dX2_isTold_85 : decode cX2_isTold 85 = .ok (.iconst 0, 1) := by decide +kernel
theorem dX2_isTold_86 : decode cX2_isTold 86 = .ok (.ireturn, 1) := by decide +kernel
theorem dX2_isTold_87 : decode cX2_isTold 87 = .ok (.iinc 1 3, 3) := by decide +kernel
theorem dX2_isTold_90 : decode cX2_isTold 90 = .ok (.goto (-62), 3) := by decide +kernel
theorem dX2_isTold_93 : decode cX2_isTold 93 = .ok (.iconst 1, 1) := by decide +kernel
theorem dX2_isTold_94 : decode cX2_isTold 94 = .ok (.ireturn, 1) := by decide +kernel
theorem dX2_fits_0 : decode cX2_fits 0 = .ok (.iconst 0, 1) := by decide +kernel
theorem dX2_fits_1 : decode cX2_fits 1 = .ok (.istore_n 2, 1) := by decide +kernel
theorem dX2_fits_2 : decode cX2_fits 2 = .ok (.iload_n 2, 1) := by decide +kernel
theorem dX2_fits_3 : decode cX2_fits 3 = .ok (.iconst 2, 1) := by decide +kernel
theorem dX2_fits_4 : decode cX2_fits 4 = .ok (.iadd, 1) := by decide +kernel
theorem dX2_fits_5 : decode cX2_fits 5 = .ok (.aload_n 0, 1) := by decide +kernel
theorem dX2_fits_6 : decode cX2_fits 6 = .ok (.getfield 19, 3) := by decide +kernel
theorem dX2_fits_9 : decode cX2_fits 9 = .ok (.getfield 48, 3) := by decide +kernel
theorem dX2_fits_12 : decode cX2_fits 12 = .ok (.if_icmp .ge 57, 3) := by decide +kernel
theorem dX2_fits_15 : decode cX2_fits 15 = .ok (.iconst 2, 1) := by decide +kernel
theorem dX2_fits_16 : decode cX2_fits 16 = .ok (.aload_n 0, 1) := by decide +kernel
theorem dX2_fits_17 : decode cX2_fits 17 = .ok (.getfield 19, 3) := by decide +kernel
theorem dX2_fits_20 : decode cX2_fits 20 = .ok (.getfield 53, 3) := by decide +kernel
theorem dX2_fits_23 : decode cX2_fits 23 = .ok (.iload_n 2, 1) := by decide +kernel
theorem dX2_fits_24 : decode cX2_fits 24 = .ok (.iconst 1, 1) := by decide +kernel
theorem dX2_fits_25 : decode cX2_fits 25 = .ok (.iadd, 1) := by decide +kernel
theorem dX2_fits_26 : decode cX2_fits 26 = .ok (.iaload, 1) := by decide +kernel
theorem dX2_fits_27 : decode cX2_fits 27 = .ok (.ishl, 1) := by decide +kernel
theorem dX2_fits_28 : decode cX2_fits 28 = .ok (.iconst 1, 1) := by decide +kernel
theorem dX2_fits_29 : decode cX2_fits 29 = .ok (.aload_n 0, 1) := by decide +kernel
theorem dX2_fits_30 : decode cX2_fits 30 = .ok (.getfield 19, 3) := by decide +kernel
theorem dX2_fits_33 : decode cX2_fits 33 = .ok (.getfield 53, 3) := by decide +kernel
theorem dX2_fits_36 : decode cX2_fits 36 = .ok (.iload_n 2, 1) := by decide +kernel
theorem dX2_fits_37 : decode cX2_fits 37 = .ok (.iaload, 1) := by decide +kernel
theorem dX2_fits_38 : decode cX2_fits 38 = .ok (.ishl, 1) := by decide +kernel
theorem dX2_fits_39 : decode cX2_fits 39 = .ok (.isub, 1) := by decide +kernel
theorem dX2_fits_40 : decode cX2_fits 40 = .ok (.istore_n 3, 1) := by decide +kernel
theorem dX2_fits_41 : decode cX2_fits 41 = .ok (.iload_n 1, 1) := by decide +kernel
theorem dX2_fits_42 : decode cX2_fits 42 = .ok (.iload_n 3, 1) := by decide +kernel
theorem dX2_fits_43 : decode cX2_fits 43 = .ok (.iand, 1) := by decide +kernel
theorem dX2_fits_44 : decode cX2_fits 44 = .ok (.invokestatic 59, 3) := by decide +kernel
theorem dX2_fits_47 : decode cX2_fits 47 = .ok (.aload_n 0, 1) := by decide +kernel
theorem dX2_fits_48 : decode cX2_fits 48 = .ok (.getfield 19, 3) := by decide +kernel
theorem dX2_fits_51 : decode cX2_fits 51 = .ok (.getfield 53, 3) := by decide +kernel
theorem dX2_fits_54 : decode cX2_fits 54 = .ok (.iload_n 2, 1) := by decide +kernel
theorem dX2_fits_55 : decode cX2_fits 55 = .ok (.iconst 2, 1) := by decide +kernel
theorem dX2_fits_56 : decode cX2_fits 56 = .ok (.iadd, 1) := by decide +kernel
theorem dX2_fits_57 : decode cX2_fits 57 = .ok (.iaload, 1) := by decide +kernel
theorem dX2_fits_58 : decode cX2_fits 58 = .ok (.if_icmp .eq 5, 3) := by decide +kernel
theorem dX2_fits_61 : decode cX2_fits 61 = .ok (.iconst 0, 1) := by decide +kernel
theorem dX2_fits_62 : decode cX2_fits 62 = .ok (.ireturn, 1) := by decide +kernel
theorem dX2_fits_63 : decode cX2_fits 63 = .ok (.iinc 2 3, 3) := by decide +kernel
theorem dX2_fits_66 : decode cX2_fits 66 = .ok (.goto (-64), 3) := by decide +kernel
theorem dX2_fits_69 : decode cX2_fits 69 = .ok (.iconst 1, 1) := by decide +kernel
theorem dX2_fits_70 : decode cX2_fits 70 = .ok (.ireturn, 1) := by decide +kernel
theorem dX2_add_0 : decode cX2_add 0 = .ok (.aload_n 0, 1) := by decide +kernel
theorem dX2_add_1 : decode cX2_add 1 = .ok (.dup, 1) := by decide +kernel
theorem dX2_add_2 : decode cX2_add 2 = .ok (.getfield 27, 3) := by decide +kernel
theorem dX2_add_5 : decode cX2_add 5 = .ok (.iconst 1, 1) := by decide +kernel
theorem dX2_add_6 : decode cX2_add 6 = .ok (.iadd, 1) := by decide +kernel
theorem dX2_add_7 : decode cX2_add 7 = .ok (.putfield 27, 3) := by decide +kernel
theorem dX2_add_10 : decode cX2_add 10 = .ok (.aload_n 0, 1) := by decide +kernel
theorem dX2_add_11 : decode cX2_add 11 = .ok (.dup, 1) := by decide +kernel
theorem dX2_add_12 : decode cX2_add 12 = .ok (.getfield 37, 3) := by decide +kernel
theorem dX2_add_15 : decode cX2_add 15 = .ok (.iload_n 1, 1) := by decide +kernel
theorem dX2_add_16 : decode cX2_add 16 = .ok (.iand, 1) := by decide +kernel
theorem dX2_add_17 : decode cX2_add 17 = .ok (.putfield 37, 3) := by decide +kernel
theorem dX2_add_20 : decode cX2_add 20 = .ok (.iconst 0, 1) := by decide +kernel
theorem dX2_add_21 : decode cX2_add 21 = .ok (.istore_n 2, 1) := by decide +kernel
theorem dX2_add_22 : decode cX2_add 22 = .ok (.iload_n 2, 1) := by decide +kernel
theorem dX2_add_23 : decode cX2_add 23 = .ok (.aload_n 0, 1) := by decide +kernel
theorem dX2_add_24 : decode cX2_add 24 = .ok (.getfield 15, 3) := by decide +kernel
theorem dX2_add_27 : decode cX2_add 27 = .ok (.getfield 65, 3) := by decide +kernel
theorem dX2_add_30 : decode cX2_add 30 = .ok (.if_icmp .ge 27, 3) := by decide +kernel
theorem dX2_add_33 : decode cX2_add 33 = .ok (.iload_n 1, 1) := by decide +kernel
theorem dX2_add_34 : decode cX2_add 34 = .ok (.iconst 1, 1) := by decide +kernel
theorem dX2_add_35 : decode cX2_add 35 = .ok (.iload_n 2, 1) := by decide +kernel
theorem dX2_add_36 : decode cX2_add 36 = .ok (.ishl, 1) := by decide +kernel
theorem dX2_add_37 : decode cX2_add 37 = .ok (.iand, 1) := by decide +kernel
theorem dX2_add_38 : decode cX2_add 38 = .ok (.ifCond .eq 13, 3) := by decide +kernel
theorem dX2_add_41 : decode cX2_add 41 = .ok (.aload_n 0, 1) := by decide +kernel
theorem dX2_add_42 : decode cX2_add 42 = .ok (.getfield 9, 3) := by decide +kernel
theorem dX2_add_45 : decode cX2_add 45 = .ok (.iload_n 2, 1) := by decide +kernel
theorem dX2_add_46 : decode cX2_add 46 = .ok (.dup2, 1) := by decide +kernel
theorem dX2_add_47 : decode cX2_add 47 = .ok (.iaload, 1) := by decide +kernel
theorem dX2_add_48 : decode cX2_add 48 = .ok (.iconst 1, 1) := by decide +kernel
theorem dX2_add_49 : decode cX2_add 49 = .ok (.iadd, 1) := by decide +kernel
theorem dX2_add_50 : decode cX2_add 50 = .ok (.iastore, 1) := by decide +kernel
theorem dX2_add_51 : decode cX2_add 51 = .ok (.iinc 2 1, 3) := by decide +kernel
theorem dX2_add_54 : decode cX2_add 54 = .ok (.goto (-32), 3) := by decide +kernel
theorem dX2_add_57 : decode cX2_add 57 = .ok (.return_, 1) := by decide +kernel
theorem dX2_parting_0 : decode cX2_parting 0 = .ok (.aload_n 0, 1) := by decide +kernel
theorem dX2_parting_1 : decode cX2_parting 1 = .ok (.getfield 27, 3) := by decide +kernel
theorem dX2_parting_4 : decode cX2_parting 4 = .ok (.iconst 2, 1) := by decide +kernel
theorem dX2_parting_5 : decode cX2_parting 5 = .ok (.if_icmp .ge 5, 3) := by decide +kernel
theorem dX2_parting_8 : decode cX2_parting 8 = .ok (.iconst (-1), 1) := by decide +kernel
theorem dX2_parting_9 : decode cX2_parting 9 = .ok (.ireturn, 1) := by decide +kernel
theorem dX2_parting_10 : decode cX2_parting 10 = .ok (.aload_n 0, 1) := by decide +kernel
theorem dX2_parting_11 : decode cX2_parting 11 = .ok (.getfield 27, 3) := by decide +kernel
theorem dX2_parting_14 : decode cX2_parting 14 = .ok (.iconst 1, 1) := by decide +kernel
theorem dX2_parting_15 : decode cX2_parting 15 = .ok (.iadd, 1) := by decide +kernel
theorem dX2_parting_16 : decode cX2_parting 16 = .ok (.istore_n 1, 1) := by decide +kernel
theorem dX2_parting_17 : decode cX2_parting 17 = .ok (.iconst (-1), 1) := by decide +kernel
theorem dX2_parting_18 : decode cX2_parting 18 = .ok (.istore_n 2, 1) := by decide +kernel
theorem dX2_parting_19 : decode cX2_parting 19 = .ok (.iconst 0, 1) := by decide +kernel
theorem dX2_parting_20 : decode cX2_parting 20 = .ok (.istore_n 3, 1) := by decide +kernel
theorem dX2_parting_21 : decode cX2_parting 21 = .ok (.iload_n 3, 1) := by decide +kernel
theorem dX2_parting_22 : decode cX2_parting 22 = .ok (.aload_n 0, 1) := by decide +kernel
theorem dX2_parting_23 : decode cX2_parting 23 = .ok (.getfield 15, 3) := by decide +kernel
theorem dX2_parting_26 : decode cX2_parting 26 = .ok (.getfield 65, 3) := by decide +kernel
theorem dX2_parting_29 : decode cX2_parting 29 = .ok (.if_icmp .ge 42, 3) := by decide +kernel
theorem dX2_parting_32 : decode cX2_parting 32 = .ok (.aload_n 0, 1) := by decide +kernel
theorem dX2_parting_33 : decode cX2_parting 33 = .ok (.getfield 9, 3) := by decide +kernel
theorem dX2_parting_36 : decode cX2_parting 36 = .ok (.iload_n 3, 1) := by decide +kernel
theorem dX2_parting_37 : decode cX2_parting 37 = .ok (.iaload, 1) := by decide +kernel
theorem dX2_parting_38 : decode cX2_parting 38 = .ok (.aload_n 0, 1) := by decide +kernel
theorem dX2_parting_39 : decode cX2_parting 39 = .ok (.getfield 27, 3) := by decide +kernel
theorem dX2_parting_42 : decode cX2_parting 42 = .ok (.aload_n 0, 1) := by decide +kernel
theorem dX2_parting_43 : decode cX2_parting 43 = .ok (.getfield 9, 3) := by decide +kernel
theorem dX2_parting_46 : decode cX2_parting 46 = .ok (.iload_n 3, 1) := by decide +kernel
theorem dX2_parting_47 : decode cX2_parting 47 = .ok (.iaload, 1) := by decide +kernel
theorem dX2_parting_48 : decode cX2_parting 48 = .ok (.isub, 1) := by decide +kernel
theorem dX2_parting_49 : decode cX2_parting 49 = .ok (.invokestatic 68, 3) := by decide +kernel
theorem dX2_parting_52 : decode cX2_parting 52 = .ok (.istore 4, 2) := by decide +kernel
theorem dX2_parting_54 : decode cX2_parting 54 = .ok (.iload 4, 2) := by decide +kernel
theorem dX2_parting_56 : decode cX2_parting 56 = .ok (.iload_n 1, 1) := by decide +kernel
theorem dX2_parting_57 : decode cX2_parting 57 = .ok (.if_icmp .ge 8, 3) := by decide +kernel
theorem dX2_parting_60 : decode cX2_parting 60 = .ok (.iload 4, 2) := by decide +kernel
theorem dX2_parting_62 : decode cX2_parting 62 = .ok (.istore_n 1, 1) := by decide +kernel
theorem dX2_parting_63 : decode cX2_parting 63 = .ok (.iload_n 3, 1) := by decide +kernel
theorem dX2_parting_64 : decode cX2_parting 64 = .ok (.istore_n 2, 1) := by decide +kernel
theorem dX2_parting_65 : decode cX2_parting 65 = .ok (.iinc 3 1, 3) := by decide +kernel
theorem dX2_parting_68 : decode cX2_parting 68 = .ok (.goto (-47), 3) := by decide +kernel
theorem dX2_parting_71 : decode cX2_parting 71 = .ok (.iload_n 2, 1) := by decide +kernel
theorem dX2_parting_72 : decode cX2_parting 72 = .ok (.ireturn, 1) := by decide +kernel
theorem dX3_init_0 : decode cX3_init 0 = .ok (.aload_n 0, 1) := by decide +kernel
theorem dX3_init_1 : decode cX3_init 1 = .ok (.invokespecial 3, 3) := by decide +kernel
theorem dX3_init_4 : decode cX3_init 4 = .ok (.aload_n 0, 1) := by decide +kernel
theorem dX3_init_5 : decode cX3_init 5 = .ok (.aload_n 1, 1) := by decide +kernel
theorem dX3_init_6 : decode cX3_init 6 = .ok (.putfield 9, 3) := by decide +kernel
theorem dX3_init_9 : decode cX3_init 9 = .ok (.return_, 1) := by decide +kernel
theorem dX3_steps_0 : decode cX3_steps 0 = .ok (.aload_n 0, 1) := by decide +kernel
theorem dX3_steps_1 : decode cX3_steps 1 = .ok (.iload_n 1, 1) := by decide +kernel
theorem dX3_steps_2 : decode cX3_steps 2 = .ok (.iload_n 2, 1) := by decide +kernel
theorem dX3_steps_3 : decode cX3_steps 3 = .ok (.iconst 1, 1) := by decide +kernel
theorem dX3_steps_4 : decode cX3_steps 4 = .ok (.invokevirtual 15, 3) := by decide +kernel
theorem dX3_steps_7 : decode cX3_steps 7 = .ok (.istore_n 3, 1) := by decide +kernel
theorem dX3_steps_8 : decode cX3_steps 8 = .ok (.aload_n 0, 1) := by decide +kernel
theorem dX3_steps_9 : decode cX3_steps 9 = .ok (.iload_n 1, 1) := by decide +kernel
theorem dX3_steps_10 : decode cX3_steps 10 = .ok (.iload_n 2, 1) := by decide +kernel
theorem dX3_steps_11 : decode cX3_steps 11 = .ok (.iconst 5, 1) := by decide +kernel
theorem dX3_steps_12 : decode cX3_steps 12 = .ok (.invokevirtual 15, 3) := by decide +kernel
theorem dX3_steps_15 : decode cX3_steps 15 = .ok (.istore 4, 2) := by decide +kernel
theorem dX3_steps_17 : decode cX3_steps 17 = .ok (.iload_n 3, 1) := by decide +kernel
theorem dX3_steps_18 : decode cX3_steps 18 = .ok (.iconst (-1), 1) := by decide +kernel
theorem dX3_steps_19 : decode cX3_steps 19 = .ok (.if_icmp .eq 9, 3) := by decide +kernel
theorem dX3_steps_22 : decode cX3_steps 22 = .ok (.iload 4, 2) := by decide +kernel
theorem dX3_steps_24 : decode cX3_steps 24 = .ok (.iconst (-1), 1) := by decide +kernel
theorem dX3_steps_25 : decode cX3_steps 25 = .ok (.if_icmp .ne 10, 3) := by decide +kernel
theorem dX3_steps_28 : decode cX3_steps 28 = .ok (.iload_n 3, 1) := by decide +kernel
theorem dX3_steps_29 : decode cX3_steps 29 = .ok (.iload 4, 2) := by decide +kernel
theorem dX3_steps_31 : decode cX3_steps 31 = .ok (.invokestatic 19, 3) := by decide +kernel
theorem dX3_steps_34 : decode cX3_steps 34 = .ok (.ireturn, 1) := by decide +kernel
theorem dX3_steps_35 : decode cX3_steps 35 = .ok (.iload_n 3, 1) := by decide +kernel
theorem dX3_steps_36 : decode cX3_steps 36 = .ok (.iload 4, 2) := by decide +kernel
theorem dX3_steps_38 : decode cX3_steps 38 = .ok (.invokestatic 25, 3) := by decide +kernel
theorem dX3_steps_41 : decode cX3_steps 41 = .ok (.ireturn, 1) := by decide +kernel
theorem dX3_stepsRound_0 : decode cX3_stepsRound 0 = .ok (.iload_n 1, 1) := by decide +kernel
theorem dX3_stepsRound_1 : decode cX3_stepsRound 1 = .ok (.istore 4, 2) := by decide +kernel
theorem dX3_stepsRound_3 : decode cX3_stepsRound 3 = .ok (.iconst 0, 1) := by decide +kernel
theorem dX3_stepsRound_4 : decode cX3_stepsRound 4 = .ok (.istore 5, 2) := by decide +kernel
theorem dX3_stepsRound_6 : decode cX3_stepsRound 6 = .ok (.iload 5, 2) := by decide +kernel
theorem dX3_stepsRound_8 : decode cX3_stepsRound 8 = .ok (.bipush 6, 2) := by decide +kernel
theorem dX3_stepsRound_10 : decode cX3_stepsRound 10 = .ok (.if_icmp .ge 44, 3) := by decide +kernel
theorem dX3_stepsRound_13 : decode cX3_stepsRound 13 = .ok (.iload 4, 2) := by decide +kernel
theorem dX3_stepsRound_15 : decode cX3_stepsRound 15 = .ok (.iload_n 2, 1) := by decide +kernel
theorem dX3_stepsRound_16 : decode cX3_stepsRound 16 = .ok (.if_icmp .ne 6, 3) := by decide +kernel
theorem dX3_stepsRound_19 : decode cX3_stepsRound 19 = .ok (.iload 5, 2) := by decide +kernel
theorem dX3_stepsRound_21 : decode cX3_stepsRound 21 = .ok (.ireturn, 1) := by decide +kernel
theorem dX3_stepsRound_22 : decode cX3_stepsRound 22 = .ok (.iload 4, 2) := by decide +kernel
theorem dX3_stepsRound_24 : decode cX3_stepsRound 24 = .ok (.iload_n 3, 1) := by decide +kernel
theorem dX3_stepsRound_25 : decode cX3_stepsRound 25 = .ok (.iadd, 1) := by decide +kernel
theorem dX3_stepsRound_26 : decode cX3_stepsRound 26 = .ok (.bipush 6, 2) := by decide +kernel
theorem dX3_stepsRound_28 : decode cX3_stepsRound 28 = .ok (.irem, 1) := by decide +kernel
theorem dX3_stepsRound_29 : decode cX3_stepsRound 29 = .ok (.istore 4, 2) := by decide +kernel
theorem dX3_stepsRound_31 : decode cX3_stepsRound 31 = .ok (.aload_n 0, 1) := by decide +kernel
theorem dX3_stepsRound_32 : decode cX3_stepsRound 32 = .ok (.getfield 9, 3) := by decide +kernel
theorem dX3_stepsRound_35 : decode cX3_stepsRound 35 = .ok (.getfield 28, 3) := by decide +kernel
theorem dX3_stepsRound_38 : decode cX3_stepsRound 38 = .ok (.iconst 1, 1) := by decide +kernel
theorem dX3_stepsRound_39 : decode cX3_stepsRound 39 = .ok (.iload 4, 2) := by decide +kernel
theorem dX3_stepsRound_41 : decode cX3_stepsRound 41 = .ok (.ishl, 1) := by decide +kernel
theorem dX3_stepsRound_42 : decode cX3_stepsRound 42 = .ok (.iand, 1) := by decide +kernel
theorem dX3_stepsRound_43 : decode cX3_stepsRound 43 = .ok (.ifCond .eq 5, 3) := by decide +kernel
theorem dX3_stepsRound_46 : decode cX3_stepsRound 46 = .ok (.iconst (-1), 1) := by decide +kernel
theorem dX3_stepsRound_47 : decode cX3_stepsRound 47 = .ok (.ireturn, 1) := by decide +kernel
theorem dX3_stepsRound_48 : decode cX3_stepsRound 48 = .ok (.iinc 5 1, 3) := by decide +kernel
theorem dX3_stepsRound_51 : decode cX3_stepsRound 51 = .ok (.goto (-45), 3) := by decide +kernel
theorem dX3_stepsRound_54 : decode cX3_stepsRound 54 = .ok (.iconst (-1), 1) := by decide +kernel
theorem dX3_stepsRound_55 : decode cX3_stepsRound 55 = .ok (.ireturn, 1) := by decide +kernel
theorem dX3_meeting_0 : decode cX3_meeting 0 = .ok (.bipush 12, 2) := by decide +kernel
theorem dX3_meeting_2 : decode cX3_meeting 2 = .ok (.istore_n 3, 1) := by decide +kernel
theorem dX3_meeting_3 : decode cX3_meeting 3 = .ok (.iconst (-1), 1) := by decide +kernel
theorem dX3_meeting_4 : decode cX3_meeting 4 = .ok (.istore 4, 2) := by decide +kernel
theorem dX3_meeting_6 : decode cX3_meeting 6 = .ok (.iconst 0, 1) := by decide +kernel
theorem dX3_meeting_7 : decode cX3_meeting 7 = .ok (.istore 5, 2) := by decide +kernel
theorem dX3_meeting_9 : decode cX3_meeting 9 = .ok (.iload 5, 2) := by decide +kernel
theorem dX3_meeting_11 : decode cX3_meeting 11 = .ok (.bipush 6, 2) := by decide +kernel
theorem dX3_meeting_13 : decode cX3_meeting 13 = .ok (.if_icmp .ge 85, 3) := by decide +kernel
theorem dX3_meeting_16 : decode cX3_meeting 16 = .ok (.aload_n 0, 1) := by decide +kernel
theorem dX3_meeting_17 : decode cX3_meeting 17 = .ok (.iload_n 1, 1) := by decide +kernel
theorem dX3_meeting_18 : decode cX3_meeting 18 = .ok (.iload 5, 2) := by decide +kernel
theorem dX3_meeting_20 : decode cX3_meeting 20 = .ok (.invokevirtual 34, 3) := by decide +kernel
theorem dX3_meeting_23 : decode cX3_meeting 23 = .ok (.istore 6, 2) := by decide +kernel
theorem dX3_meeting_25 : decode cX3_meeting 25 = .ok (.aload_n 0, 1) := by decide +kernel
theorem dX3_meeting_26 : decode cX3_meeting 26 = .ok (.iload_n 2, 1) := by decide +kernel
theorem dX3_meeting_27 : decode cX3_meeting 27 = .ok (.iload 5, 2) := by decide +kernel
theorem dX3_meeting_29 : decode cX3_meeting 29 = .ok (.invokevirtual 34, 3) := by decide +kernel
theorem dX3_meeting_32 : decode cX3_meeting 32 = .ok (.istore 7, 2) := by decide +kernel
theorem dX3_meeting_34 : decode cX3_meeting 34 = .ok (.aload_n 0, 1) := by decide +kernel
theorem dX3_meeting_35 : decode cX3_meeting 35 = .ok (.getfield 9, 3) := by decide +kernel
theorem dX3_meeting_38 : decode cX3_meeting 38 = .ok (.getfield 28, 3) := by decide +kernel
theorem dX3_meeting_41 : decode cX3_meeting 41 = .ok (.iconst 1, 1) := by decide +kernel
theorem dX3_meeting_42 : decode cX3_meeting 42 = .ok (.iload 5, 2) := by decide +kernel
theorem dX3_meeting_44 : decode cX3_meeting 44 = .ok (.ishl, 1) := by decide +kernel
theorem dX3_meeting_45 : decode cX3_meeting 45 = .ok (.iand, 1) := by decide +kernel
theorem dX3_meeting_46 : decode cX3_meeting 46 = .ok (.ifCond .ne 7, 3) := by decide +kernel
theorem dX3_meeting_49 : decode cX3_meeting 49 = .ok (.iconst 1, 1) := by decide +kernel
theorem dX3_meeting_50 : decode cX3_meeting 50 = .ok (.goto 4, 3) := by decide +kernel
theorem dX3_meeting_53 : decode cX3_meeting 53 = .ok (.iconst 0, 1) := by decide +kernel
theorem dX3_meeting_54 : decode cX3_meeting 54 = .ok (.istore 8, 2) := by decide +kernel
theorem dX3_meeting_56 : decode cX3_meeting 56 = .ok (.iload 8, 2) := by decide +kernel
theorem dX3_meeting_58 : decode cX3_meeting 58 = .ok (.ifCond .eq 34, 3) := by decide +kernel
theorem dX3_meeting_61 : decode cX3_meeting 61 = .ok (.iload 6, 2) := by decide +kernel
theorem dX3_meeting_63 : decode cX3_meeting 63 = .ok (.iconst (-1), 1) := by decide +kernel
theorem dX3_meeting_64 : decode cX3_meeting 64 = .ok (.if_icmp .eq 28, 3) := by decide +kernel
theorem dX3_meeting_67 : decode cX3_meeting 67 = .ok (.iload 7, 2) := by decide +kernel
theorem dX3_meeting_69 : decode cX3_meeting 69 = .ok (.iconst (-1), 1) := by decide +kernel
theorem dX3_meeting_70 : decode cX3_meeting 70 = .ok (.if_icmp .eq 22, 3) := by decide +kernel
theorem dX3_meeting_73 : decode cX3_meeting 73 = .ok (.iload 6, 2) := by decide +kernel
theorem dX3_meeting_75 : decode cX3_meeting 75 = .ok (.iload 7, 2) := by decide +kernel
theorem dX3_meeting_77 : decode cX3_meeting 77 = .ok (.iadd, 1) := by decide +kernel
theorem dX3_meeting_78 : decode cX3_meeting 78 = .ok (.iload_n 3, 1) := by decide +kernel
theorem dX3_meeting_79 : decode cX3_meeting 79 = .ok (.if_icmp .ge 13, 3) := by decide +kernel
theorem dX3_meeting_82 : decode cX3_meeting 82 = .ok (.iload 6, 2) := by decide +kernel
theorem dX3_meeting_84 : decode cX3_meeting 84 = .ok (.iload 7, 2) := by decide +kernel
theorem dX3_meeting_86 : decode cX3_meeting 86 = .ok (.iadd, 1) := by decide +kernel
theorem dX3_meeting_87 : decode cX3_meeting 87 = .ok (.istore_n 3, 1) := by decide +kernel
theorem dX3_meeting_88 : decode cX3_meeting 88 = .ok (.iload 5, 2) := by decide +kernel
theorem dX3_meeting_90 : decode cX3_meeting 90 = .ok (.istore 4, 2) := by decide +kernel
theorem dX3_meeting_92 : decode cX3_meeting 92 = .ok (.iinc 5 1, 3) := by decide +kernel
theorem dX3_meeting_95 : decode cX3_meeting 95 = .ok (.goto (-86), 3) := by decide +kernel
theorem dX3_meeting_98 : decode cX3_meeting 98 = .ok (.iload 4, 2) := by decide +kernel
theorem dX3_meeting_100 : decode cX3_meeting 100 = .ok (.ireturn, 1) := by decide +kernel
theorem dX3_catching_0 : decode cX3_catching 0 = .ok (.iconst (-1), 1) := by decide +kernel
theorem dX3_catching_1 : decode cX3_catching 1 = .ok (.istore_n 2, 1) := by decide +kernel
theorem dX3_catching_2 : decode cX3_catching 2 = .ok (.iconst (-1), 1) := by decide +kernel
theorem dX3_catching_3 : decode cX3_catching 3 = .ok (.istore_n 3, 1) := by decide +kernel
theorem dX3_catching_4 : decode cX3_catching 4 = .ok (.iconst 0, 1) := by decide +kernel
theorem dX3_catching_5 : decode cX3_catching 5 = .ok (.istore 4, 2) := by decide +kernel
theorem dX3_catching_7 : decode cX3_catching 7 = .ok (.iload 4, 2) := by decide +kernel
theorem dX3_catching_9 : decode cX3_catching 9 = .ok (.bipush 64, 2) := by decide +kernel
theorem dX3_catching_11 : decode cX3_catching 11 = .ok (.if_icmp .ge 38, 3) := by decide +kernel
theorem dX3_catching_14 : decode cX3_catching 14 = .ok (.iload 4, 2) := by decide +kernel
theorem dX3_catching_16 : decode cX3_catching 16 = .ok (.invokestatic 37, 3) := by decide +kernel
theorem dX3_catching_19 : decode cX3_catching 19 = .ok (.iload_n 1, 1) := by decide +kernel
theorem dX3_catching_20 : decode cX3_catching 20 = .ok (.if_icmp .ne 23, 3) := by decide +kernel
theorem dX3_catching_23 : decode cX3_catching 23 = .ok (.aload_n 0, 1) := by decide +kernel
theorem dX3_catching_24 : decode cX3_catching 24 = .ok (.iload 4, 2) := by decide +kernel
theorem dX3_catching_26 : decode cX3_catching 26 = .ok (.invokevirtual 43, 3) := by decide +kernel
theorem dX3_catching_29 : decode cX3_catching 29 = .ok (.iload_n 3, 1) := by decide +kernel
theorem dX3_catching_30 : decode cX3_catching 30 = .ok (.if_icmp .le 13, 3) := by decide +kernel
theorem dX3_catching_33 : decode cX3_catching 33 = .ok (.aload_n 0, 1) := by decide +kernel
theorem dX3_catching_34 : decode cX3_catching 34 = .ok (.iload 4, 2) := by decide +kernel
theorem dX3_catching_36 : decode cX3_catching 36 = .ok (.invokevirtual 43, 3) := by decide +kernel
theorem dX3_catching_39 : decode cX3_catching 39 = .ok (.istore_n 3, 1) := by decide +kernel
theorem dX3_catching_40 : decode cX3_catching 40 = .ok (.iload 4, 2) := by decide +kernel
theorem dX3_catching_42 : decode cX3_catching 42 = .ok (.istore_n 2, 1) := by decide +kernel
theorem dX3_catching_43 : decode cX3_catching 43 = .ok (.iinc 4 1, 3) := by decide +kernel
theorem dX3_catching_46 : decode cX3_catching 46 = .ok (.goto (-39), 3) := by decide +kernel
theorem dX3_catching_49 : decode cX3_catching 49 = .ok (.iload_n 2, 1) := by decide +kernel
theorem dX3_catching_50 : decode cX3_catching 50 = .ok (.ireturn, 1) := by decide +kernel
theorem dX3_caught_0 : decode cX3_caught 0 = .ok (.iconst 0, 1) := by decide +kernel
theorem dX3_caught_1 : decode cX3_caught 1 = .ok (.istore_n 2, 1) := by decide +kernel
theorem dX3_caught_2 : decode cX3_caught 2 = .ok (.iconst 0, 1) := by decide +kernel
theorem dX3_caught_3 : decode cX3_caught 3 = .ok (.istore_n 3, 1) := by decide +kernel
theorem dX3_caught_4 : decode cX3_caught 4 = .ok (.iload_n 3, 1) := by decide +kernel
theorem dX3_caught_5 : decode cX3_caught 5 = .ok (.aload_n 0, 1) := by decide +kernel
theorem dX3_caught_6 : decode cX3_caught 6 = .ok (.getfield 9, 3) := by decide +kernel
theorem dX3_caught_9 : decode cX3_caught 9 = .ok (.getfield 46, 3) := by decide +kernel
theorem dX3_caught_12 : decode cX3_caught 12 = .ok (.if_icmp .ge 83, 3) := by decide +kernel
theorem dX3_caught_15 : decode cX3_caught 15 = .ok (.iload_n 3, 1) := by decide +kernel
theorem dX3_caught_16 : decode cX3_caught 16 = .ok (.iconst 1, 1) := by decide +kernel
theorem dX3_caught_17 : decode cX3_caught 17 = .ok (.iadd, 1) := by decide +kernel
theorem dX3_caught_18 : decode cX3_caught 18 = .ok (.istore 4, 2) := by decide +kernel
theorem dX3_caught_20 : decode cX3_caught 20 = .ok (.iload 4, 2) := by decide +kernel
theorem dX3_caught_22 : decode cX3_caught 22 = .ok (.aload_n 0, 1) := by decide +kernel
theorem dX3_caught_23 : decode cX3_caught 23 = .ok (.getfield 9, 3) := by decide +kernel
theorem dX3_caught_26 : decode cX3_caught 26 = .ok (.getfield 46, 3) := by decide +kernel
theorem dX3_caught_29 : decode cX3_caught 29 = .ok (.if_icmp .ge 60, 3) := by decide +kernel
theorem dX3_caught_32 : decode cX3_caught 32 = .ok (.aload_n 0, 1) := by decide +kernel
theorem dX3_caught_33 : decode cX3_caught 33 = .ok (.getfield 9, 3) := by decide +kernel
theorem dX3_caught_36 : decode cX3_caught 36 = .ok (.getfield 49, 3) := by decide +kernel
theorem dX3_caught_39 : decode cX3_caught 39 = .ok (.iload_n 3, 1) := by decide +kernel
theorem dX3_caught_40 : decode cX3_caught 40 = .ok (.iaload, 1) := by decide +kernel
theorem dX3_caught_41 : decode cX3_caught 41 = .ok (.istore 5, 2) := by decide +kernel
theorem dX3_caught_43 : decode cX3_caught 43 = .ok (.iload 5, 2) := by decide +kernel
theorem dX3_caught_45 : decode cX3_caught 45 = .ok (.aload_n 0, 1) := by decide +kernel
theorem dX3_caught_46 : decode cX3_caught 46 = .ok (.getfield 9, 3) := by decide +kernel
theorem dX3_caught_49 : decode cX3_caught 49 = .ok (.getfield 49, 3) := by decide +kernel
theorem dX3_caught_52 : decode cX3_caught 52 = .ok (.iload 4, 2) := by decide +kernel
theorem dX3_caught_54 : decode cX3_caught 54 = .ok (.iaload, 1) := by decide +kernel
theorem dX3_caught_55 : decode cX3_caught 55 = .ok (.if_icmp .ne 28, 3) := by decide +kernel
theorem dX3_caught_58 : decode cX3_caught 58 = .ok (.iload_n 1, 1) := by decide +kernel
theorem dX3_caught_59 : decode cX3_caught 59 = .ok (.iconst 1, 1) := by decide +kernel
theorem dX3_caught_60 : decode cX3_caught 60 = .ok (.iload 5, 2) := by decide +kernel
theorem dX3_caught_62 : decode cX3_caught 62 = .ok (.ishl, 1) := by decide +kernel
theorem dX3_caught_63 : decode cX3_caught 63 = .ok (.iand, 1) := by decide +kernel
theorem dX3_caught_64 : decode cX3_caught 64 = .ok (.ifCond .eq 19, 3) := by decide +kernel
theorem dX3_caught_67 : decode cX3_caught 67 = .ok (.aload_n 0, 1) := by decide +kernel
theorem dX3_caught_68 : decode cX3_caught 68 = .ok (.getfield 9, 3) := by decide +kernel
theorem dX3_caught_71 : decode cX3_caught 71 = .ok (.iload_n 3, 1) := by decide +kernel
theorem dX3_caught_72 : decode cX3_caught 72 = .ok (.iload 4, 2) := by decide +kernel
theorem dX3_caught_74 : decode cX3_caught 74 = .ok (.invokevirtual 53, 3) := by decide +kernel
theorem dX3_caught_77 : decode cX3_caught 77 = .ok (.ifCond .eq 6, 3) := by decide +kernel
theorem dX3_caught_80 : decode cX3_caught 80 = .ok (.iinc 2 1, 3) := by decide +kernel
theorem dX3_caught_83 : decode cX3_caught 83 = .ok (.iinc 4 1, 3) := by decide +kernel
theorem dX3_caught_86 : decode cX3_caught 86 = .ok (.goto (-66), 3) := by decide +kernel
theorem dX3_caught_89 : decode cX3_caught 89 = .ok (.iinc 3 1, 3) := by decide +kernel
theorem dX3_caught_92 : decode cX3_caught 92 = .ok (.goto (-88), 3) := by decide +kernel
theorem dX3_caught_95 : decode cX3_caught 95 = .ok (.iload_n 2, 1) := by decide +kernel
theorem dX3_caught_96 : decode cX3_caught 96 = .ok (.ireturn, 1) := by decide +kernel
theorem dX5_init_0 : decode cX5_init 0 = .ok (.aload_n 0, 1) := by decide +kernel
theorem dX5_init_1 : decode cX5_init 1 = .ok (.invokespecial 3, 3) := by decide +kernel
theorem dX5_init_4 : decode cX5_init 4 = .ok (.aload_n 0, 1) := by decide +kernel
theorem dX5_init_5 : decode cX5_init 5 = .ok (.aload_n 1, 1) := by decide +kernel
theorem dX5_init_6 : decode cX5_init 6 = .ok (.putfield 9, 3) := by decide +kernel
theorem dX5_init_9 : decode cX5_init 9 = .ok (.return_, 1) := by decide +kernel
theorem dX5_tells_0 : decode cX5_tells 0 = .ok (.aload_n 0, 1) := by decide +kernel
theorem dX5_tells_1 : decode cX5_tells 1 = .ok (.getfield 9, 3) := by decide +kernel
theorem dX5_tells_4 : decode cX5_tells 4 = .ok (.invokevirtual 15, 3) := by decide +kernel
theorem dX5_tells_7 : decode cX5_tells 7 = .ok (.aload_n 0, 1) := by decide +kernel
theorem dX5_tells_8 : decode cX5_tells 8 = .ok (.getfield 9, 3) := by decide +kernel
theorem dX5_tells_11 : decode cX5_tells 11 = .ok (.invokevirtual 20, 3) := by decide +kernel
theorem dX5_tells_14 : decode cX5_tells 14 = .ok (.ifCond .eq 5, 3) := by decide +kernel
theorem dX5_tells_17 : decode cX5_tells 17 = .ok (.iconst 1, 1) := by decide +kernel
theorem dX5_tells_18 : decode cX5_tells 18 = .ok (.ireturn, 1) := by decide +kernel
theorem dX5_tells_19 : decode cX5_tells 19 = .ok (.iconst 0, 1) := by decide +kernel
theorem dX5_tells_20 : decode cX5_tells 20 = .ok (.istore_n 2, 1) := by decide +kernel
theorem dX5_tells_21 : decode cX5_tells 21 = .ok (.iload_n 2, 1) := by decide +kernel
theorem dX5_tells_22 : decode cX5_tells 22 = .ok (.bipush 14, 2) := by decide +kernel
theorem dX5_tells_24 : decode cX5_tells 24 = .ok (.if_icmp .ge 45, 3) := by decide +kernel
theorem dX5_tells_27 : decode cX5_tells 27 = .ok (.aload_n 0, 1) := by decide +kernel
theorem dX5_tells_28 : decode cX5_tells 28 = .ok (.aload_n 1, 1) := by decide +kernel
theorem dX5_tells_29 : decode cX5_tells 29 = .ok (.invokevirtual 24, 3) := by decide +kernel
theorem dX5_tells_32 : decode cX5_tells 32 = .ok (.ifCond .ne 5, 3) := by decide +kernel
theorem dX5_tells_35 : decode cX5_tells 35 = .ok (.iconst 0, 1) := by decide +kernel
theorem dX5_tells_36 : decode cX5_tells 36 = .ok (.ireturn, 1) := by decide +kernel
theorem dX5_tells_37 : decode cX5_tells 37 = .ok (.aload_n 0, 1) := by decide +kernel
theorem dX5_tells_38 : decode cX5_tells 38 = .ok (.getfield 9, 3) := by decide +kernel
theorem dX5_tells_41 : decode cX5_tells 41 = .ok (.invokevirtual 20, 3) := by decide +kernel
theorem dX5_tells_44 : decode cX5_tells 44 = .ok (.ifCond .eq 5, 3) := by decide +kernel
theorem dX5_tells_47 : decode cX5_tells 47 = .ok (.iconst 1, 1) := by decide +kernel
theorem dX5_tells_48 : decode cX5_tells 48 = .ok (.ireturn, 1) := by decide +kernel
theorem dX5_tells_49 : decode cX5_tells 49 = .ok (.aload_n 0, 1) := by decide +kernel
theorem dX5_tells_50 : decode cX5_tells 50 = .ok (.getfield 9, 3) := by decide +kernel
theorem dX5_tells_53 : decode cX5_tells 53 = .ok (.bipush 59, 2) := by decide +kernel
theorem dX5_tells_55 : decode cX5_tells 55 = .ok (.invokevirtual 28, 3) := by decide +kernel
theorem dX5_tells_58 : decode cX5_tells 58 = .ok (.ifCond .ne 5, 3) := by decide +kernel
theorem dX5_tells_61 : decode cX5_tells 61 = .ok (.iconst 0, 1) := by decide +kernel
theorem dX5_tells_62 : decode cX5_tells 62 = .ok (.ireturn, 1) := by decide +kernel
theorem dX5_tells_63 : decode cX5_tells 63 = .ok (.iinc 2 1, 3) := by decide +kernel
theorem dX5_tells_66 : decode cX5_tells 66 = .ok (.goto (-45), 3) := by decide +kernel
theorem dX5_tells_69 : decode cX5_tells 69 = .ok (.iconst 0, 1) := by decide +kernel
theorem dX5_tells_70 : decode cX5_tells 70 = .ok (.ireturn, 1) := by decide +kernel
theorem dX5_tellsLine_0 : decode cX5_tellsLine 0 = .ok (.aload_n 0, 1) := by decide +kernel
theorem dX5_tellsLine_1 : decode cX5_tellsLine 1 = .ok (.getfield 9, 3) := by decide +kernel
theorem dX5_tellsLine_4 : decode cX5_tellsLine 4 = .ok (.ldc 32, 2) := by decide +kernel
theorem dX5_tellsLine_6 : decode cX5_tellsLine 6 = .ok (.invokevirtual 34, 3) := by decide +kernel
theorem dX5_tellsLine_9 : decode cX5_tellsLine 9 = .ok (.istore_n 2, 1) := by decide +kernel
theorem dX5_tellsLine_10 : decode cX5_tellsLine 10 = .ok (.iload_n 2, 1) := by decide +kernel
theorem dX5_tellsLine_11 : decode cX5_tellsLine 11 = .ok (.iconst (-1), 1) := by decide +kernel
theorem dX5_tellsLine_12 : decode cX5_tellsLine 12 = .ok (.if_icmp .eq 16, 3) := by decide +kernel
theorem dX5_tellsLine_15 : decode cX5_tellsLine 15 = .ok (.iload_n 2, 1) := by decide +kernel
theorem dX5_tellsLine_16 : decode cX5_tellsLine 16 = .ok (.ifCond .ne 14, 3) := by decide +kernel
theorem dX5_tellsLine_19 : decode cX5_tellsLine 19 = .ok (.aload_n 1, 1) := by decide +kernel
theorem dX5_tellsLine_20 : decode cX5_tellsLine 20 = .ok (.getfield 38, 3) := by decide +kernel
theorem dX5_tellsLine_23 : decode cX5_tellsLine 23 = .ok (.bipush 8, 2) := by decide +kernel
theorem dX5_tellsLine_25 : decode cX5_tellsLine 25 = .ok (.if_icmp .lt 5, 3) := by decide +kernel
theorem dX5_tellsLine_28 : decode cX5_tellsLine 28 = .ok (.iconst 0, 1) := by decide +kernel
theorem dX5_tellsLine_29 : decode cX5_tellsLine 29 = .ok (.ireturn, 1) := by decide +kernel
theorem dX5_tellsLine_30 : decode cX5_tellsLine 30 = .ok (.aload_n 0, 1) := by decide +kernel
theorem dX5_tellsLine_31 : decode cX5_tellsLine 31 = .ok (.getfield 9, 3) := by decide +kernel
theorem dX5_tellsLine_34 : decode cX5_tellsLine 34 = .ok (.invokevirtual 44, 3) := by decide +kernel
theorem dX5_tellsLine_37 : decode cX5_tellsLine 37 = .ok (.iload_n 2, 1) := by decide +kernel
theorem dX5_tellsLine_38 : decode cX5_tellsLine 38 = .ok (.tableswitch 123 0 6 #[42, 48, 54, 60, 66, 91, 117], 42) := by decide +kernel
theorem dX5_tellsLine_80 : decode cX5_tellsLine 80 = .ok (.aload_n 0, 1) := by decide +kernel
theorem dX5_tellsLine_81 : decode cX5_tellsLine 81 = .ok (.aload_n 1, 1) := by decide +kernel
theorem dX5_tellsLine_82 : decode cX5_tellsLine 82 = .ok (.invokevirtual 47, 3) := by decide +kernel
theorem dX5_tellsLine_85 : decode cX5_tellsLine 85 = .ok (.ireturn, 1) := by decide +kernel
theorem dX5_tellsLine_86 : decode cX5_tellsLine 86 = .ok (.aload_n 0, 1) := by decide +kernel
theorem dX5_tellsLine_87 : decode cX5_tellsLine 87 = .ok (.aload_n 1, 1) := by decide +kernel
theorem dX5_tellsLine_88 : decode cX5_tellsLine 88 = .ok (.invokevirtual 50, 3) := by decide +kernel
theorem dX5_tellsLine_91 : decode cX5_tellsLine 91 = .ok (.ireturn, 1) := by decide +kernel
theorem dX5_tellsLine_92 : decode cX5_tellsLine 92 = .ok (.aload_n 0, 1) := by decide +kernel
theorem dX5_tellsLine_93 : decode cX5_tellsLine 93 = .ok (.aload_n 1, 1) := by decide +kernel
theorem dX5_tellsLine_94 : decode cX5_tellsLine 94 = .ok (.invokevirtual 53, 3) := by decide +kernel
theorem dX5_tellsLine_97 : decode cX5_tellsLine 97 = .ok (.ireturn, 1) := by decide +kernel
theorem dX5_tellsLine_98 : decode cX5_tellsLine 98 = .ok (.aload_n 0, 1) := by decide +kernel
theorem dX5_tellsLine_99 : decode cX5_tellsLine 99 = .ok (.aload_n 1, 1) := by decide +kernel
theorem dX5_tellsLine_100 : decode cX5_tellsLine 100 = .ok (.invokevirtual 56, 3) := by decide +kernel
theorem dX5_tellsLine_103 : decode cX5_tellsLine 103 = .ok (.ireturn, 1) := by decide +kernel
theorem dX5_tellsLine_104 : decode cX5_tellsLine 104 = .ok (.aload_n 1, 1) := by decide +kernel
theorem dX5_tellsLine_105 : decode cX5_tellsLine 105 = .ok (.aload_n 0, 1) := by decide +kernel
theorem dX5_tellsLine_106 : decode cX5_tellsLine 106 = .ok (.iconst 1, 1) := by decide +kernel
theorem dX5_tellsLine_107 : decode cX5_tellsLine 107 = .ok (.bipush 9, 2) := by decide +kernel
theorem dX5_tellsLine_109 : decode cX5_tellsLine 109 = .ok (.invokevirtual 59, 3) := by decide +kernel
theorem dX5_tellsLine_112 : decode cX5_tellsLine 112 = .ok (.putfield 63, 3) := by decide +kernel
theorem dX5_tellsLine_115 : decode cX5_tellsLine 115 = .ok (.aload_n 1, 1) := by decide +kernel
theorem dX5_tellsLine_116 : decode cX5_tellsLine 116 = .ok (.getfield 63, 3) := by decide +kernel
theorem dX5_tellsLine_119 : decode cX5_tellsLine 119 = .ok (.iconst (-1), 1) := by decide +kernel
theorem dX5_tellsLine_120 : decode cX5_tellsLine 120 = .ok (.if_icmp .eq 7, 3) := by decide +kernel
theorem dX5_tellsLine_123 : decode cX5_tellsLine 123 = .ok (.iconst 1, 1) := by decide +kernel
theorem dX5_tellsLine_124 : decode cX5_tellsLine 124 = .ok (.goto 4, 3) := by decide +kernel
theorem dX5_tellsLine_127 : decode cX5_tellsLine 127 = .ok (.iconst 0, 1) := by decide +kernel
theorem dX5_tellsLine_128 : decode cX5_tellsLine 128 = .ok (.ireturn, 1) := by decide +kernel
theorem dX5_tellsLine_129 : decode cX5_tellsLine 129 = .ok (.aload_n 1, 1) := by decide +kernel
theorem dX5_tellsLine_130 : decode cX5_tellsLine 130 = .ok (.aload_n 0, 1) := by decide +kernel
theorem dX5_tellsLine_131 : decode cX5_tellsLine 131 = .ok (.iconst 1, 1) := by decide +kernel
theorem dX5_tellsLine_132 : decode cX5_tellsLine 132 = .ok (.sipush 400, 3) := by decide +kernel
theorem dX5_tellsLine_135 : decode cX5_tellsLine 135 = .ok (.invokevirtual 59, 3) := by decide +kernel
theorem dX5_tellsLine_138 : decode cX5_tellsLine 138 = .ok (.putfield 66, 3) := by decide +kernel
theorem dX5_tellsLine_141 : decode cX5_tellsLine 141 = .ok (.aload_n 1, 1) := by decide +kernel
theorem dX5_tellsLine_142 : decode cX5_tellsLine 142 = .ok (.getfield 66, 3) := by decide +kernel
theorem dX5_tellsLine_145 : decode cX5_tellsLine 145 = .ok (.iconst (-1), 1) := by decide +kernel
theorem dX5_tellsLine_146 : decode cX5_tellsLine 146 = .ok (.if_icmp .eq 7, 3) := by decide +kernel
theorem dX5_tellsLine_149 : decode cX5_tellsLine 149 = .ok (.iconst 1, 1) := by decide +kernel
theorem dX5_tellsLine_150 : decode cX5_tellsLine 150 = .ok (.goto 4, 3) := by decide +kernel
theorem dX5_tellsLine_153 : decode cX5_tellsLine 153 = .ok (.iconst 0, 1) := by decide +kernel
theorem dX5_tellsLine_154 : decode cX5_tellsLine 154 = .ok (.ireturn, 1) := by decide +kernel
theorem dX5_tellsLine_155 : decode cX5_tellsLine 155 = .ok (.aload_n 0, 1) := by decide +kernel
theorem dX5_tellsLine_156 : decode cX5_tellsLine 156 = .ok (.aload_n 1, 1) := by decide +kernel
theorem dX5_tellsLine_157 : decode cX5_tellsLine 157 = .ok (.invokevirtual 69, 3) := by decide +kernel
theorem dX5_tellsLine_160 : decode cX5_tellsLine 160 = .ok (.ireturn, 1) := by decide +kernel
theorem dX5_tellsLine_161 : decode cX5_tellsLine 161 = .ok (.aload_n 1, 1) := by decide +kernel
theorem dX5_tellsLine_162 : decode cX5_tellsLine 162 = .ok (.aload_n 0, 1) := by decide +kernel
theorem dX5_tellsLine_163 : decode cX5_tellsLine 163 = .ok (.iconst 0, 1) := by decide +kernel
theorem dX5_tellsLine_164 : decode cX5_tellsLine 164 = .ok (.sipush 999, 3) := by decide +kernel
theorem dX5_tellsLine_167 : decode cX5_tellsLine 167 = .ok (.invokevirtual 59, 3) := by decide +kernel
theorem dX5_tellsLine_170 : decode cX5_tellsLine 170 = .ok (.putfield 72, 3) := by decide +kernel
theorem dX5_tellsLine_173 : decode cX5_tellsLine 173 = .ok (.aload_n 1, 1) := by decide +kernel
theorem dX5_tellsLine_174 : decode cX5_tellsLine 174 = .ok (.getfield 72, 3) := by decide +kernel
theorem dX5_tellsLine_177 : decode cX5_tellsLine 177 = .ok (.iconst (-1), 1) := by decide +kernel
theorem dX5_tellsLine_178 : decode cX5_tellsLine 178 = .ok (.if_icmp .eq 7, 3) := by decide +kernel
theorem dX5_tellsLine_181 : decode cX5_tellsLine 181 = .ok (.iconst 1, 1) := by decide +kernel
theorem dX5_tellsLine_182 : decode cX5_tellsLine 182 = .ok (.goto 4, 3) := by decide +kernel
theorem dX5_tellsLine_185 : decode cX5_tellsLine 185 = .ok (.iconst 0, 1) := by decide +kernel
theorem dX5_tellsLine_186 : decode cX5_tellsLine 186 = .ok (.ireturn, 1) := by decide +kernel
theorem dX5_takeNumber_0 : decode cX5_takeNumber 0 = .ok (.aload_n 0, 1) := by decide +kernel
theorem dX5_takeNumber_1 : decode cX5_takeNumber 1 = .ok (.getfield 9, 3) := by decide +kernel
theorem dX5_takeNumber_4 : decode cX5_takeNumber 4 = .ok (.iload_n 1, 1) := by decide +kernel
theorem dX5_takeNumber_5 : decode cX5_takeNumber 5 = .ok (.iload_n 2, 1) := by decide +kernel
theorem dX5_takeNumber_6 : decode cX5_takeNumber 6 = .ok (.invokevirtual 75, 3) := by decide +kernel
theorem dX5_takeNumber_9 : decode cX5_takeNumber 9 = .ok (.istore_n 3, 1) := by decide +kernel
theorem dX5_takeNumber_10 : decode cX5_takeNumber 10 = .ok (.iload_n 3, 1) := by decide +kernel
theorem dX5_takeNumber_11 : decode cX5_takeNumber 11 = .ok (.iconst (-1), 1) := by decide +kernel
theorem dX5_takeNumber_12 : decode cX5_takeNumber 12 = .ok (.if_icmp .eq 10, 3) := by decide +kernel
theorem dX5_takeNumber_15 : decode cX5_takeNumber 15 = .ok (.aload_n 0, 1) := by decide +kernel
theorem dX5_takeNumber_16 : decode cX5_takeNumber 16 = .ok (.getfield 9, 3) := by decide +kernel
theorem dX5_takeNumber_19 : decode cX5_takeNumber 19 = .ok (.invokevirtual 44, 3) := by decide +kernel
theorem dX5_takeNumber_22 : decode cX5_takeNumber 22 = .ok (.iload_n 3, 1) := by decide +kernel
theorem dX5_takeNumber_23 : decode cX5_takeNumber 23 = .ok (.ireturn, 1) := by decide +kernel
theorem dX5_tellsPerson_0 : decode cX5_tellsPerson 0 = .ok (.aload_n 0, 1) := by decide +kernel
theorem dX5_tellsPerson_1 : decode cX5_tellsPerson 1 = .ok (.getfield 9, 3) := by decide +kernel
theorem dX5_tellsPerson_4 : decode cX5_tellsPerson 4 = .ok (.ldc 78, 2) := by decide +kernel
theorem dX5_tellsPerson_6 : decode cX5_tellsPerson 6 = .ok (.invokevirtual 80, 3) := by decide +kernel
theorem dX5_tellsPerson_9 : decode cX5_tellsPerson 9 = .ok (.ifCond .ne 5, 3) := by decide +kernel
theorem dX5_tellsPerson_12 : decode cX5_tellsPerson 12 = .ok (.iconst 0, 1) := by decide +kernel
theorem dX5_tellsPerson_13 : decode cX5_tellsPerson 13 = .ok (.ireturn, 1) := by decide +kernel
theorem dX5_tellsPerson_14 : decode cX5_tellsPerson 14 = .ok (.aload_n 0, 1) := by decide +kernel
theorem dX5_tellsPerson_15 : decode cX5_tellsPerson 15 = .ok (.iconst 0, 1) := by decide +kernel
theorem dX5_tellsPerson_16 : decode cX5_tellsPerson 16 = .ok (.iconst 5, 1) := by decide +kernel
theorem dX5_tellsPerson_17 : decode cX5_tellsPerson 17 = .ok (.invokevirtual 59, 3) := by decide +kernel
theorem dX5_tellsPerson_20 : decode cX5_tellsPerson 20 = .ok (.istore_n 2, 1) := by decide +kernel
theorem dX5_tellsPerson_21 : decode cX5_tellsPerson 21 = .ok (.iload_n 2, 1) := by decide +kernel
theorem dX5_tellsPerson_22 : decode cX5_tellsPerson 22 = .ok (.iconst (-1), 1) := by decide +kernel
theorem dX5_tellsPerson_23 : decode cX5_tellsPerson 23 = .ok (.if_icmp .ne 5, 3) := by decide +kernel
theorem dX5_tellsPerson_26 : decode cX5_tellsPerson 26 = .ok (.iconst 0, 1) := by decide +kernel
theorem dX5_tellsPerson_27 : decode cX5_tellsPerson 27 = .ok (.ireturn, 1) := by decide +kernel
theorem dX5_tellsPerson_28 : decode cX5_tellsPerson 28 = .ok (.aload_n 1, 1) := by decide +kernel
theorem dX5_tellsPerson_29 : decode cX5_tellsPerson 29 = .ok (.iload_n 2, 1) := by decide +kernel
theorem dX5_tellsPerson_30 : decode cX5_tellsPerson 30 = .ok (.invokevirtual 84, 3) := by decide +kernel
theorem dX5_tellsPerson_33 : decode cX5_tellsPerson 33 = .ok (.iconst 1, 1) := by decide +kernel
theorem dX5_tellsPerson_34 : decode cX5_tellsPerson 34 = .ok (.ireturn, 1) := by decide +kernel
theorem dX5_tellsLikes_0 : decode cX5_tellsLikes 0 = .ok (.aload_n 0, 1) := by decide +kernel
theorem dX5_tellsLikes_1 : decode cX5_tellsLikes 1 = .ok (.iconst 0, 1) := by decide +kernel
theorem dX5_tellsLikes_2 : decode cX5_tellsLikes 2 = .ok (.aload_n 1, 1) := by decide +kernel
theorem dX5_tellsLikes_3 : decode cX5_tellsLikes 3 = .ok (.getfield 38, 3) := by decide +kernel
theorem dX5_tellsLikes_6 : decode cX5_tellsLikes 6 = .ok (.iconst 1, 1) := by decide +kernel
theorem dX5_tellsLikes_7 : decode cX5_tellsLikes 7 = .ok (.isub, 1) := by decide +kernel
theorem dX5_tellsLikes_8 : decode cX5_tellsLikes 8 = .ok (.invokevirtual 59, 3) := by decide +kernel
theorem dX5_tellsLikes_11 : decode cX5_tellsLikes 11 = .ok (.istore_n 2, 1) := by decide +kernel
theorem dX5_tellsLikes_12 : decode cX5_tellsLikes 12 = .ok (.iload_n 2, 1) := by decide +kernel
theorem dX5_tellsLikes_13 : decode cX5_tellsLikes 13 = .ok (.iconst (-1), 1) := by decide +kernel
theorem dX5_tellsLikes_14 : decode cX5_tellsLikes 14 = .ok (.if_icmp .eq 17, 3) := by decide +kernel
theorem dX5_tellsLikes_17 : decode cX5_tellsLikes 17 = .ok (.aload_n 0, 1) := by decide +kernel
theorem dX5_tellsLikes_18 : decode cX5_tellsLikes 18 = .ok (.getfield 9, 3) := by decide +kernel
theorem dX5_tellsLikes_21 : decode cX5_tellsLikes 21 = .ok (.aload_n 1, 1) := by decide +kernel
theorem dX5_tellsLikes_22 : decode cX5_tellsLikes 22 = .ok (.getfield 38, 3) := by decide +kernel
theorem dX5_tellsLikes_25 : decode cX5_tellsLikes 25 = .ok (.invokevirtual 88, 3) := by decide +kernel
theorem dX5_tellsLikes_28 : decode cX5_tellsLikes 28 = .ok (.ifCond .ne 5, 3) := by decide +kernel
theorem dX5_tellsLikes_31 : decode cX5_tellsLikes 31 = .ok (.iconst 0, 1) := by decide +kernel
theorem dX5_tellsLikes_32 : decode cX5_tellsLikes 32 = .ok (.ireturn, 1) := by decide +kernel
theorem dX5_tellsLikes_33 : decode cX5_tellsLikes 33 = .ok (.iconst 0, 1) := by decide +kernel
theorem dX5_tellsLikes_34 : decode cX5_tellsLikes 34 = .ok (.istore_n 3, 1) := by decide +kernel
theorem dX5_tellsLikes_35 : decode cX5_tellsLikes 35 = .ok (.iload_n 3, 1) := by decide +kernel
theorem dX5_tellsLikes_36 : decode cX5_tellsLikes 36 = .ok (.aload_n 1, 1) := by decide +kernel
theorem dX5_tellsLikes_37 : decode cX5_tellsLikes 37 = .ok (.getfield 38, 3) := by decide +kernel
theorem dX5_tellsLikes_40 : decode cX5_tellsLikes 40 = .ok (.if_icmp .ge 45, 3) := by decide +kernel
theorem dX5_tellsLikes_43 : decode cX5_tellsLikes 43 = .ok (.iload_n 3, 1) := by decide +kernel
theorem dX5_tellsLikes_44 : decode cX5_tellsLikes 44 = .ok (.iload_n 2, 1) := by decide +kernel
theorem dX5_tellsLikes_45 : decode cX5_tellsLikes 45 = .ok (.if_icmp .eq 34, 3) := by decide +kernel
theorem dX5_tellsLikes_48 : decode cX5_tellsLikes 48 = .ok (.aload_n 1, 1) := by decide +kernel
theorem dX5_tellsLikes_49 : decode cX5_tellsLikes 49 = .ok (.getfield 92, 3) := by decide +kernel
theorem dX5_tellsLikes_52 : decode cX5_tellsLikes 52 = .ok (.iload_n 2, 1) := by decide +kernel
theorem dX5_tellsLikes_53 : decode cX5_tellsLikes 53 = .ok (.bipush 8, 2) := by decide +kernel
theorem dX5_tellsLikes_55 : decode cX5_tellsLikes 55 = .ok (.imul, 1) := by decide +kernel
theorem dX5_tellsLikes_56 : decode cX5_tellsLikes 56 = .ok (.iload_n 3, 1) := by decide +kernel
theorem dX5_tellsLikes_57 : decode cX5_tellsLikes 57 = .ok (.iadd, 1) := by decide +kernel
theorem dX5_tellsLikes_58 : decode cX5_tellsLikes 58 = .ok (.aload_n 0, 1) := by decide +kernel
theorem dX5_tellsLikes_59 : decode cX5_tellsLikes 59 = .ok (.getfield 9, 3) := by decide +kernel
theorem dX5_tellsLikes_62 : decode cX5_tellsLikes 62 = .ok (.getfield 96, 3) := by decide +kernel
theorem dX5_tellsLikes_65 : decode cX5_tellsLikes 65 = .ok (.aload_n 0, 1) := by decide +kernel
theorem dX5_tellsLikes_66 : decode cX5_tellsLikes 66 = .ok (.getfield 9, 3) := by decide +kernel
theorem dX5_tellsLikes_69 : decode cX5_tellsLikes 69 = .ok (.getfield 99, 3) := by decide +kernel
theorem dX5_tellsLikes_72 : decode cX5_tellsLikes 72 = .ok (.iload_n 3, 1) := by decide +kernel
theorem dX5_tellsLikes_73 : decode cX5_tellsLikes 73 = .ok (.iadd, 1) := by decide +kernel
theorem dX5_tellsLikes_74 : decode cX5_tellsLikes 74 = .ok (.iaload, 1) := by decide +kernel
theorem dX5_tellsLikes_75 : decode cX5_tellsLikes 75 = .ok (.bipush 48, 2) := by decide +kernel
theorem dX5_tellsLikes_77 : decode cX5_tellsLikes 77 = .ok (.isub, 1) := by decide +kernel
theorem dX5_tellsLikes_78 : decode cX5_tellsLikes 78 = .ok (.iastore, 1) := by decide +kernel
theorem dX5_tellsLikes_79 : decode cX5_tellsLikes 79 = .ok (.iinc 3 1, 3) := by decide +kernel
theorem dX5_tellsLikes_82 : decode cX5_tellsLikes 82 = .ok (.goto (-47), 3) := by decide +kernel
theorem dX5_tellsLikes_85 : decode cX5_tellsLikes 85 = .ok (.aload_n 0, 1) := by decide +kernel
theorem dX5_tellsLikes_86 : decode cX5_tellsLikes 86 = .ok (.getfield 9, 3) := by decide +kernel
theorem dX5_tellsLikes_89 : decode cX5_tellsLikes 89 = .ok (.invokevirtual 44, 3) := by decide +kernel
theorem dX5_tellsLikes_92 : decode cX5_tellsLikes 92 = .ok (.iconst 1, 1) := by decide +kernel
theorem dX5_tellsLikes_93 : decode cX5_tellsLikes 93 = .ok (.ireturn, 1) := by decide +kernel
theorem dX5_tellsWed_0 : decode cX5_tellsWed 0 = .ok (.aload_n 0, 1) := by decide +kernel
theorem dX5_tellsWed_1 : decode cX5_tellsWed 1 = .ok (.aload_n 1, 1) := by decide +kernel
theorem dX5_tellsWed_2 : decode cX5_tellsWed 2 = .ok (.iconst (-1), 1) := by decide +kernel
theorem dX5_tellsWed_3 : decode cX5_tellsWed 3 = .ok (.invokevirtual 102, 3) := by decide +kernel
theorem dX5_tellsWed_6 : decode cX5_tellsWed 6 = .ok (.istore_n 2, 1) := by decide +kernel
theorem dX5_tellsWed_7 : decode cX5_tellsWed 7 = .ok (.iload_n 2, 1) := by decide +kernel
theorem dX5_tellsWed_8 : decode cX5_tellsWed 8 = .ok (.iconst (-1), 1) := by decide +kernel
theorem dX5_tellsWed_9 : decode cX5_tellsWed 9 = .ok (.if_icmp .ne 5, 3) := by decide +kernel
theorem dX5_tellsWed_12 : decode cX5_tellsWed 12 = .ok (.iconst 0, 1) := by decide +kernel
theorem dX5_tellsWed_13 : decode cX5_tellsWed 13 = .ok (.ireturn, 1) := by decide +kernel
theorem dX5_tellsWed_14 : decode cX5_tellsWed 14 = .ok (.aload_n 0, 1) := by decide +kernel
theorem dX5_tellsWed_15 : decode cX5_tellsWed 15 = .ok (.aload_n 1, 1) := by decide +kernel
theorem dX5_tellsWed_16 : decode cX5_tellsWed 16 = .ok (.iload_n 2, 1) := by decide +kernel
theorem dX5_tellsWed_17 : decode cX5_tellsWed 17 = .ok (.invokevirtual 102, 3) := by decide +kernel
theorem dX5_tellsWed_20 : decode cX5_tellsWed 20 = .ok (.istore_n 3, 1) := by decide +kernel
theorem dX5_tellsWed_21 : decode cX5_tellsWed 21 = .ok (.iload_n 3, 1) := by decide +kernel
theorem dX5_tellsWed_22 : decode cX5_tellsWed 22 = .ok (.iconst (-1), 1) := by decide +kernel
theorem dX5_tellsWed_23 : decode cX5_tellsWed 23 = .ok (.if_icmp .ne 5, 3) := by decide +kernel
theorem dX5_tellsWed_26 : decode cX5_tellsWed 26 = .ok (.iconst 0, 1) := by decide +kernel
theorem dX5_tellsWed_27 : decode cX5_tellsWed 27 = .ok (.ireturn, 1) := by decide +kernel
theorem dX5_tellsWed_28 : decode cX5_tellsWed 28 = .ok (.aload_n 1, 1) := by decide +kernel
theorem dX5_tellsWed_29 : decode cX5_tellsWed 29 = .ok (.iload_n 2, 1) := by decide +kernel
theorem dX5_tellsWed_30 : decode cX5_tellsWed 30 = .ok (.iload_n 3, 1) := by decide +kernel
theorem dX5_tellsWed_31 : decode cX5_tellsWed 31 = .ok (.invokevirtual 106, 3) := by decide +kernel
theorem dX5_tellsWed_34 : decode cX5_tellsWed 34 = .ok (.iconst 1, 1) := by decide +kernel
theorem dX5_tellsWed_35 : decode cX5_tellsWed 35 = .ok (.ireturn, 1) := by decide +kernel
theorem dX5_takeSingle_0 : decode cX5_takeSingle 0 = .ok (.aload_n 0, 1) := by decide +kernel
theorem dX5_takeSingle_1 : decode cX5_takeSingle 1 = .ok (.getfield 9, 3) := by decide +kernel
theorem dX5_takeSingle_4 : decode cX5_takeSingle 4 = .ok (.iconst 0, 1) := by decide +kernel
theorem dX5_takeSingle_5 : decode cX5_takeSingle 5 = .ok (.aload_n 1, 1) := by decide +kernel
theorem dX5_takeSingle_6 : decode cX5_takeSingle 6 = .ok (.getfield 38, 3) := by decide +kernel
theorem dX5_takeSingle_9 : decode cX5_takeSingle 9 = .ok (.iconst 1, 1) := by decide +kernel
theorem dX5_takeSingle_10 : decode cX5_takeSingle 10 = .ok (.isub, 1) := by decide +kernel
theorem dX5_takeSingle_11 : decode cX5_takeSingle 11 = .ok (.invokevirtual 75, 3) := by decide +kernel
theorem dX5_takeSingle_14 : decode cX5_takeSingle 14 = .ok (.istore_n 3, 1) := by decide +kernel
theorem dX5_takeSingle_15 : decode cX5_takeSingle 15 = .ok (.iload_n 3, 1) := by decide +kernel
theorem dX5_takeSingle_16 : decode cX5_takeSingle 16 = .ok (.iconst (-1), 1) := by decide +kernel
theorem dX5_takeSingle_17 : decode cX5_takeSingle 17 = .ok (.if_icmp .eq 18, 3) := by decide +kernel
theorem dX5_takeSingle_20 : decode cX5_takeSingle 20 = .ok (.iload_n 3, 1) := by decide +kernel
theorem dX5_takeSingle_21 : decode cX5_takeSingle 21 = .ok (.iload_n 2, 1) := by decide +kernel
theorem dX5_takeSingle_22 : decode cX5_takeSingle 22 = .ok (.if_icmp .eq 13, 3) := by decide +kernel
theorem dX5_takeSingle_25 : decode cX5_takeSingle 25 = .ok (.aload_n 1, 1) := by decide +kernel
theorem dX5_takeSingle_26 : decode cX5_takeSingle 26 = .ok (.getfield 110, 3) := by decide +kernel
theorem dX5_takeSingle_29 : decode cX5_takeSingle 29 = .ok (.iload_n 3, 1) := by decide +kernel
theorem dX5_takeSingle_30 : decode cX5_takeSingle 30 = .ok (.iaload, 1) := by decide +kernel
theorem dX5_takeSingle_31 : decode cX5_takeSingle 31 = .ok (.iconst (-1), 1) := by decide +kernel
theorem dX5_takeSingle_32 : decode cX5_takeSingle 32 = .ok (.if_icmp .eq 5, 3) := by decide +kernel
theorem dX5_takeSingle_35 : decode cX5_takeSingle 35 = .ok (.iconst (-1), 1) := by decide +kernel
theorem dX5_takeSingle_36 : decode cX5_takeSingle 36 = .ok (.ireturn, 1) := by decide +kernel
theorem dX5_takeSingle_37 : decode cX5_takeSingle 37 = .ok (.aload_n 0, 1) := by decide +kernel
theorem dX5_takeSingle_38 : decode cX5_takeSingle 38 = .ok (.getfield 9, 3) := by decide +kernel
theorem dX5_takeSingle_41 : decode cX5_takeSingle 41 = .ok (.invokevirtual 44, 3) := by decide +kernel
theorem dX5_takeSingle_44 : decode cX5_takeSingle 44 = .ok (.iload_n 3, 1) := by decide +kernel
theorem dX5_takeSingle_45 : decode cX5_takeSingle 45 = .ok (.ireturn, 1) := by decide +kernel
theorem dX5_tellsFlour_0 : decode cX5_tellsFlour 0 = .ok (.aload_n 0, 1) := by decide +kernel
theorem dX5_tellsFlour_1 : decode cX5_tellsFlour 1 = .ok (.getfield 9, 3) := by decide +kernel
theorem dX5_tellsFlour_4 : decode cX5_tellsFlour 4 = .ok (.invokevirtual 113, 3) := by decide +kernel
theorem dX5_tellsFlour_7 : decode cX5_tellsFlour 7 = .ok (.ifCond .ne 5, 3) := by decide +kernel
theorem dX5_tellsFlour_10 : decode cX5_tellsFlour 10 = .ok (.iconst 0, 1) := by decide +kernel
theorem dX5_tellsFlour_11 : decode cX5_tellsFlour 11 = .ok (.ireturn, 1) := by decide +kernel
theorem dX5_tellsFlour_12 : decode cX5_tellsFlour 12 = .ok (.iconst 0, 1) := by decide +kernel
theorem dX5_tellsFlour_13 : decode cX5_tellsFlour 13 = .ok (.istore_n 2, 1) := by decide +kernel
theorem dX5_tellsFlour_14 : decode cX5_tellsFlour 14 = .ok (.aload_n 0, 1) := by decide +kernel
theorem dX5_tellsFlour_15 : decode cX5_tellsFlour 15 = .ok (.getfield 9, 3) := by decide +kernel
theorem dX5_tellsFlour_18 : decode cX5_tellsFlour 18 = .ok (.getfield 99, 3) := by decide +kernel
theorem dX5_tellsFlour_21 : decode cX5_tellsFlour 21 = .ok (.istore_n 3, 1) := by decide +kernel
theorem dX5_tellsFlour_22 : decode cX5_tellsFlour 22 = .ok (.iload_n 3, 1) := by decide +kernel
theorem dX5_tellsFlour_23 : decode cX5_tellsFlour 23 = .ok (.aload_n 0, 1) := by decide +kernel
theorem dX5_tellsFlour_24 : decode cX5_tellsFlour 24 = .ok (.getfield 9, 3) := by decide +kernel
theorem dX5_tellsFlour_27 : decode cX5_tellsFlour 27 = .ok (.getfield 116, 3) := by decide +kernel
theorem dX5_tellsFlour_30 : decode cX5_tellsFlour 30 = .ok (.if_icmp .ge 48, 3) := by decide +kernel
theorem dX5_tellsFlour_33 : decode cX5_tellsFlour 33 = .ok (.aload_n 0, 1) := by decide +kernel
theorem dX5_tellsFlour_34 : decode cX5_tellsFlour 34 = .ok (.getfield 9, 3) := by decide +kernel
theorem dX5_tellsFlour_37 : decode cX5_tellsFlour 37 = .ok (.getfield 96, 3) := by decide +kernel
theorem dX5_tellsFlour_40 : decode cX5_tellsFlour 40 = .ok (.iload_n 3, 1) := by decide +kernel
theorem dX5_tellsFlour_41 : decode cX5_tellsFlour 41 = .ok (.iaload, 1) := by decide +kernel
theorem dX5_tellsFlour_42 : decode cX5_tellsFlour 42 = .ok (.bipush 97, 2) := by decide +kernel
theorem dX5_tellsFlour_44 : decode cX5_tellsFlour 44 = .ok (.isub, 1) := by decide +kernel
theorem dX5_tellsFlour_45 : decode cX5_tellsFlour 45 = .ok (.istore 4, 2) := by decide +kernel
theorem dX5_tellsFlour_47 : decode cX5_tellsFlour 47 = .ok (.iload 4, 2) := by decide +kernel
theorem dX5_tellsFlour_49 : decode cX5_tellsFlour 49 = .ok (.bipush 6, 2) := by decide +kernel
theorem dX5_tellsFlour_51 : decode cX5_tellsFlour 51 = .ok (.if_icmp .ge 12, 3) := by decide +kernel
theorem dX5_tellsFlour_54 : decode cX5_tellsFlour 54 = .ok (.iload_n 2, 1) := by decide +kernel
theorem dX5_tellsFlour_55 : decode cX5_tellsFlour 55 = .ok (.iconst 1, 1) := by decide +kernel
theorem dX5_tellsFlour_56 : decode cX5_tellsFlour 56 = .ok (.iload 4, 2) := by decide +kernel
theorem dX5_tellsFlour_58 : decode cX5_tellsFlour 58 = .ok (.ishl, 1) := by decide +kernel
theorem dX5_tellsFlour_59 : decode cX5_tellsFlour 59 = .ok (.iand, 1) := by decide +kernel
theorem dX5_tellsFlour_60 : decode cX5_tellsFlour 60 = .ok (.ifCond .eq 5, 3) := by decide +kernel
theorem dX5_tellsFlour_63 : decode cX5_tellsFlour 63 = .ok (.iconst 0, 1) := by decide +kernel
theorem dX5_tellsFlour_64 : decode cX5_tellsFlour 64 = .ok (.ireturn, 1) := by decide +kernel
theorem dX5_tellsFlour_65 : decode cX5_tellsFlour 65 = .ok (.iload_n 2, 1) := by decide +kernel
theorem dX5_tellsFlour_66 : decode cX5_tellsFlour 66 = .ok (.iconst 1, 1) := by decide +kernel
theorem dX5_tellsFlour_67 : decode cX5_tellsFlour 67 = .ok (.iload 4, 2) := by decide +kernel
theorem dX5_tellsFlour_69 : decode cX5_tellsFlour 69 = .ok (.ishl, 1) := by decide +kernel
theorem dX5_tellsFlour_70 : decode cX5_tellsFlour 70 = .ok (.ior, 1) := by decide +kernel
theorem dX5_tellsFlour_71 : decode cX5_tellsFlour 71 = .ok (.istore_n 2, 1) := by decide +kernel
theorem dX5_tellsFlour_72 : decode cX5_tellsFlour 72 = .ok (.iinc 3 1, 3) := by decide +kernel
theorem dX5_tellsFlour_75 : decode cX5_tellsFlour 75 = .ok (.goto (-53), 3) := by decide +kernel
theorem dX5_tellsFlour_78 : decode cX5_tellsFlour 78 = .ok (.aload_n 1, 1) := by decide +kernel
theorem dX5_tellsFlour_79 : decode cX5_tellsFlour 79 = .ok (.iload_n 2, 1) := by decide +kernel
theorem dX5_tellsFlour_80 : decode cX5_tellsFlour 80 = .ok (.putfield 119, 3) := by decide +kernel
theorem dX5_tellsFlour_83 : decode cX5_tellsFlour 83 = .ok (.aload_n 0, 1) := by decide +kernel
theorem dX5_tellsFlour_84 : decode cX5_tellsFlour 84 = .ok (.getfield 9, 3) := by decide +kernel
theorem dX5_tellsFlour_87 : decode cX5_tellsFlour 87 = .ok (.invokevirtual 44, 3) := by decide +kernel
theorem dX5_tellsFlour_90 : decode cX5_tellsFlour 90 = .ok (.iconst 1, 1) := by decide +kernel
theorem dX5_tellsFlour_91 : decode cX5_tellsFlour 91 = .ok (.ireturn, 1) := by decide +kernel
theorem dX5_tellsBond_0 : decode cX5_tellsBond 0 = .ok (.aload_n 0, 1) := by decide +kernel
theorem dX5_tellsBond_1 : decode cX5_tellsBond 1 = .ok (.iconst 0, 1) := by decide +kernel
theorem dX5_tellsBond_2 : decode cX5_tellsBond 2 = .ok (.aload_n 1, 1) := by decide +kernel
theorem dX5_tellsBond_3 : decode cX5_tellsBond 3 = .ok (.getfield 38, 3) := by decide +kernel
theorem dX5_tellsBond_6 : decode cX5_tellsBond 6 = .ok (.iconst 1, 1) := by decide +kernel
theorem dX5_tellsBond_7 : decode cX5_tellsBond 7 = .ok (.isub, 1) := by decide +kernel
theorem dX5_tellsBond_8 : decode cX5_tellsBond 8 = .ok (.invokevirtual 59, 3) := by decide +kernel
theorem dX5_tellsBond_11 : decode cX5_tellsBond 11 = .ok (.istore_n 2, 1) := by decide +kernel
theorem dX5_tellsBond_12 : decode cX5_tellsBond 12 = .ok (.iload_n 2, 1) := by decide +kernel
theorem dX5_tellsBond_13 : decode cX5_tellsBond 13 = .ok (.iconst (-1), 1) := by decide +kernel
theorem dX5_tellsBond_14 : decode cX5_tellsBond 14 = .ok (.if_icmp .ne 5, 3) := by decide +kernel
theorem dX5_tellsBond_17 : decode cX5_tellsBond 17 = .ok (.iconst 0, 1) := by decide +kernel
theorem dX5_tellsBond_18 : decode cX5_tellsBond 18 = .ok (.ireturn, 1) := by decide +kernel
theorem dX5_tellsBond_19 : decode cX5_tellsBond 19 = .ok (.aload_n 0, 1) := by decide +kernel
theorem dX5_tellsBond_20 : decode cX5_tellsBond 20 = .ok (.getfield 9, 3) := by decide +kernel
theorem dX5_tellsBond_23 : decode cX5_tellsBond 23 = .ok (.iconst 0, 1) := by decide +kernel
theorem dX5_tellsBond_24 : decode cX5_tellsBond 24 = .ok (.aload_n 1, 1) := by decide +kernel
theorem dX5_tellsBond_25 : decode cX5_tellsBond 25 = .ok (.getfield 38, 3) := by decide +kernel
theorem dX5_tellsBond_28 : decode cX5_tellsBond 28 = .ok (.iconst 1, 1) := by decide +kernel
theorem dX5_tellsBond_29 : decode cX5_tellsBond 29 = .ok (.isub, 1) := by decide +kernel
theorem dX5_tellsBond_30 : decode cX5_tellsBond 30 = .ok (.invokevirtual 75, 3) := by decide +kernel
theorem dX5_tellsBond_33 : decode cX5_tellsBond 33 = .ok (.istore_n 3, 1) := by decide +kernel
theorem dX5_tellsBond_34 : decode cX5_tellsBond 34 = .ok (.iload_n 3, 1) := by decide +kernel
theorem dX5_tellsBond_35 : decode cX5_tellsBond 35 = .ok (.iconst (-1), 1) := by decide +kernel
theorem dX5_tellsBond_36 : decode cX5_tellsBond 36 = .ok (.if_icmp .eq 8, 3) := by decide +kernel
theorem dX5_tellsBond_39 : decode cX5_tellsBond 39 = .ok (.iload_n 3, 1) := by decide +kernel
theorem dX5_tellsBond_40 : decode cX5_tellsBond 40 = .ok (.iload_n 2, 1) := by decide +kernel
theorem dX5_tellsBond_41 : decode cX5_tellsBond 41 = .ok (.if_icmp .ne 5, 3) := by decide +kernel
theorem dX5_tellsBond_44 : decode cX5_tellsBond 44 = .ok (.iconst 0, 1) := by decide +kernel
theorem dX5_tellsBond_45 : decode cX5_tellsBond 45 = .ok (.ireturn, 1) := by decide +kernel
theorem dX5_tellsBond_46 : decode cX5_tellsBond 46 = .ok (.aload_n 0, 1) := by decide +kernel
theorem dX5_tellsBond_47 : decode cX5_tellsBond 47 = .ok (.getfield 9, 3) := by decide +kernel
theorem dX5_tellsBond_50 : decode cX5_tellsBond 50 = .ok (.invokevirtual 44, 3) := by decide +kernel
theorem dX5_tellsBond_53 : decode cX5_tellsBond 53 = .ok (.aload_n 0, 1) := by decide +kernel
theorem dX5_tellsBond_54 : decode cX5_tellsBond 54 = .ok (.iconst 1, 1) := by decide +kernel
theorem dX5_tellsBond_55 : decode cX5_tellsBond 55 = .ok (.bipush 9, 2) := by decide +kernel
theorem dX5_tellsBond_57 : decode cX5_tellsBond 57 = .ok (.invokevirtual 59, 3) := by decide +kernel
theorem dX5_tellsBond_60 : decode cX5_tellsBond 60 = .ok (.istore 4, 2) := by decide +kernel
theorem dX5_tellsBond_62 : decode cX5_tellsBond 62 = .ok (.iload 4, 2) := by decide +kernel
theorem dX5_tellsBond_64 : decode cX5_tellsBond 64 = .ok (.iconst (-1), 1) := by decide +kernel
theorem dX5_tellsBond_65 : decode cX5_tellsBond 65 = .ok (.if_icmp .eq 15, 3) := by decide +kernel
theorem dX5_tellsBond_68 : decode cX5_tellsBond 68 = .ok (.aload_n 0, 1) := by decide +kernel
theorem dX5_tellsBond_69 : decode cX5_tellsBond 69 = .ok (.getfield 9, 3) := by decide +kernel
theorem dX5_tellsBond_72 : decode cX5_tellsBond 72 = .ok (.ldc 122, 2) := by decide +kernel
theorem dX5_tellsBond_74 : decode cX5_tellsBond 74 = .ok (.invokevirtual 80, 3) := by decide +kernel
theorem dX5_tellsBond_77 : decode cX5_tellsBond 77 = .ok (.ifCond .ne 5, 3) := by decide +kernel
theorem dX5_tellsBond_80 : decode cX5_tellsBond 80 = .ok (.iconst 0, 1) := by decide +kernel
theorem dX5_tellsBond_81 : decode cX5_tellsBond 81 = .ok (.ireturn, 1) := by decide +kernel
theorem dX5_tellsBond_82 : decode cX5_tellsBond 82 = .ok (.aload_n 0, 1) := by decide +kernel
theorem dX5_tellsBond_83 : decode cX5_tellsBond 83 = .ok (.iconst 1, 1) := by decide +kernel
theorem dX5_tellsBond_84 : decode cX5_tellsBond 84 = .ok (.sipush 999, 3) := by decide +kernel
theorem dX5_tellsBond_87 : decode cX5_tellsBond 87 = .ok (.invokevirtual 59, 3) := by decide +kernel
theorem dX5_tellsBond_90 : decode cX5_tellsBond 90 = .ok (.istore 5, 2) := by decide +kernel
theorem dX5_tellsBond_92 : decode cX5_tellsBond 92 = .ok (.iload 5, 2) := by decide +kernel
theorem dX5_tellsBond_94 : decode cX5_tellsBond 94 = .ok (.iconst (-1), 1) := by decide +kernel
theorem dX5_tellsBond_95 : decode cX5_tellsBond 95 = .ok (.if_icmp .ne 5, 3) := by decide +kernel
theorem dX5_tellsBond_98 : decode cX5_tellsBond 98 = .ok (.iconst 0, 1) := by decide +kernel
theorem dX5_tellsBond_99 : decode cX5_tellsBond 99 = .ok (.ireturn, 1) := by decide +kernel
theorem dX5_tellsBond_100 : decode cX5_tellsBond 100 = .ok (.aload_n 1, 1) := by decide +kernel
theorem dX5_tellsBond_101 : decode cX5_tellsBond 101 = .ok (.iload_n 2, 1) := by decide +kernel
theorem dX5_tellsBond_102 : decode cX5_tellsBond 102 = .ok (.iload_n 3, 1) := by decide +kernel
theorem dX5_tellsBond_103 : decode cX5_tellsBond 103 = .ok (.iload 4, 2) := by decide +kernel
theorem dX5_tellsBond_105 : decode cX5_tellsBond 105 = .ok (.iload 5, 2) := by decide +kernel
theorem dX5_tellsBond_107 : decode cX5_tellsBond 107 = .ok (.invokevirtual 124, 3) := by decide +kernel
theorem dX5_tellsBond_110 : decode cX5_tellsBond 110 = .ok (.iconst 1, 1) := by decide +kernel
theorem dX5_tellsBond_111 : decode cX5_tellsBond 111 = .ok (.ireturn, 1) := by decide +kernel
theorem dX6_init_0 : decode cX6_init 0 = .ok (.aload_n 0, 1) := by decide +kernel
theorem dX6_init_1 : decode cX6_init 1 = .ok (.invokespecial 3, 3) := by decide +kernel
theorem dX6_init_4 : decode cX6_init 4 = .ok (.aload_n 0, 1) := by decide +kernel
theorem dX6_init_5 : decode cX6_init 5 = .ok (.iconst (-1), 1) := by decide +kernel
theorem dX6_init_6 : decode cX6_init 6 = .ok (.putfield 9, 3) := by decide +kernel
theorem dX6_init_9 : decode cX6_init 9 = .ok (.aload_n 0, 1) := by decide +kernel
theorem dX6_init_10 : decode cX6_init 10 = .ok (.bipush 12, 2) := by decide +kernel
theorem dX6_init_12 : decode cX6_init 12 = .ok (.newarray .int, 2) := by decide +kernel
theorem dX6_init_14 : decode cX6_init 14 = .ok (.putfield 15, 3) := by decide +kernel
theorem dX6_init_17 : decode cX6_init 17 = .ok (.aload_n 0, 1) := by decide +kernel
theorem dX6_init_18 : decode cX6_init 18 = .ok (.bipush 12, 2) := by decide +kernel
theorem dX6_init_20 : decode cX6_init 20 = .ok (.newarray .int, 2) := by decide +kernel
theorem dX6_init_22 : decode cX6_init 22 = .ok (.putfield 19, 3) := by decide +kernel
theorem dX6_init_25 : decode cX6_init 25 = .ok (.aload_n 0, 1) := by decide +kernel
theorem dX6_init_26 : decode cX6_init 26 = .ok (.bipush 12, 2) := by decide +kernel
theorem dX6_init_28 : decode cX6_init 28 = .ok (.newarray .int, 2) := by decide +kernel
theorem dX6_init_30 : decode cX6_init 30 = .ok (.putfield 22, 3) := by decide +kernel
theorem dX6_init_33 : decode cX6_init 33 = .ok (.aload_n 0, 1) := by decide +kernel
theorem dX6_init_34 : decode cX6_init 34 = .ok (.sipush 400, 3) := by decide +kernel
theorem dX6_init_37 : decode cX6_init 37 = .ok (.newarray .int, 2) := by decide +kernel
theorem dX6_init_39 : decode cX6_init 39 = .ok (.putfield 25, 3) := by decide +kernel
theorem dX6_init_42 : decode cX6_init 42 = .ok (.aload_n 0, 1) := by decide +kernel
theorem dX6_init_43 : decode cX6_init 43 = .ok (.bipush 8, 2) := by decide +kernel
theorem dX6_init_45 : decode cX6_init 45 = .ok (.newarray .int, 2) := by decide +kernel
theorem dX6_init_47 : decode cX6_init 47 = .ok (.putfield 28, 3) := by decide +kernel
theorem dX6_init_50 : decode cX6_init 50 = .ok (.aload_n 0, 1) := by decide +kernel
theorem dX6_init_51 : decode cX6_init 51 = .ok (.bipush 32, 2) := by decide +kernel
theorem dX6_init_53 : decode cX6_init 53 = .ok (.newarray .int, 2) := by decide +kernel
theorem dX6_init_55 : decode cX6_init 55 = .ok (.putfield 31, 3) := by decide +kernel
theorem dX6_init_58 : decode cX6_init 58 = .ok (.return_, 1) := by decide +kernel
theorem dX6_become_0 : decode cX6_become 0 = .ok (.aload_n 0, 1) := by decide +kernel
theorem dX6_become_1 : decode cX6_become 1 = .ok (.aload_n 1, 1) := by decide +kernel
theorem dX6_become_2 : decode cX6_become 2 = .ok (.getfield 9, 3) := by decide +kernel
theorem dX6_become_5 : decode cX6_become 5 = .ok (.putfield 9, 3) := by decide +kernel
theorem dX6_become_8 : decode cX6_become 8 = .ok (.aload_n 0, 1) := by decide +kernel
theorem dX6_become_9 : decode cX6_become 9 = .ok (.aload_n 1, 1) := by decide +kernel
theorem dX6_become_10 : decode cX6_become 10 = .ok (.getfield 34, 3) := by decide +kernel
theorem dX6_become_13 : decode cX6_become 13 = .ok (.putfield 34, 3) := by decide +kernel
theorem dX6_become_16 : decode cX6_become 16 = .ok (.aload_n 1, 1) := by decide +kernel
theorem dX6_become_17 : decode cX6_become 17 = .ok (.getfield 15, 3) := by decide +kernel
theorem dX6_become_20 : decode cX6_become 20 = .ok (.iconst 0, 1) := by decide +kernel
theorem dX6_become_21 : decode cX6_become 21 = .ok (.aload_n 0, 1) := by decide +kernel
theorem dX6_become_22 : decode cX6_become 22 = .ok (.getfield 15, 3) := by decide +kernel
theorem dX6_become_25 : decode cX6_become 25 = .ok (.iconst 0, 1) := by decide +kernel
theorem dX6_become_26 : decode cX6_become 26 = .ok (.aload_n 0, 1) := by decide +kernel
theorem dX6_become_27 : decode cX6_become 27 = .ok (.getfield 15, 3) := by decide +kernel
theorem dX6_become_30 : decode cX6_become 30 = .ok (.arraylength, 1) := by decide +kernel
theorem dX6_become_31 : decode cX6_become 31 = .ok (.invokestatic 37, 3) := by decide +kernel
theorem dX6_become_34 : decode cX6_become 34 = .ok (.aload_n 1, 1) := by decide +kernel
theorem dX6_become_35 : decode cX6_become 35 = .ok (.getfield 19, 3) := by decide +kernel
theorem dX6_become_38 : decode cX6_become 38 = .ok (.iconst 0, 1) := by decide +kernel
theorem dX6_become_39 : decode cX6_become 39 = .ok (.aload_n 0, 1) := by decide +kernel
theorem dX6_become_40 : decode cX6_become 40 = .ok (.getfield 19, 3) := by decide +kernel
theorem dX6_become_43 : decode cX6_become 43 = .ok (.iconst 0, 1) := by decide +kernel
theorem dX6_become_44 : decode cX6_become 44 = .ok (.aload_n 0, 1) := by decide +kernel
theorem dX6_become_45 : decode cX6_become 45 = .ok (.getfield 19, 3) := by decide +kernel
theorem dX6_become_48 : decode cX6_become 48 = .ok (.arraylength, 1) := by decide +kernel
theorem dX6_become_49 : decode cX6_become 49 = .ok (.invokestatic 37, 3) := by decide +kernel
theorem dX6_become_52 : decode cX6_become 52 = .ok (.aload_n 1, 1) := by decide +kernel
theorem dX6_become_53 : decode cX6_become 53 = .ok (.getfield 22, 3) := by decide +kernel
theorem dX6_become_56 : decode cX6_become 56 = .ok (.iconst 0, 1) := by decide +kernel
theorem dX6_become_57 : decode cX6_become 57 = .ok (.aload_n 0, 1) := by decide +kernel
theorem dX6_become_58 : decode cX6_become 58 = .ok (.getfield 22, 3) := by decide +kernel
theorem dX6_become_61 : decode cX6_become 61 = .ok (.iconst 0, 1) := by decide +kernel
theorem dX6_become_62 : decode cX6_become 62 = .ok (.aload_n 0, 1) := by decide +kernel
theorem dX6_become_63 : decode cX6_become 63 = .ok (.getfield 22, 3) := by decide +kernel
theorem dX6_become_66 : decode cX6_become 66 = .ok (.arraylength, 1) := by decide +kernel
theorem dX6_become_67 : decode cX6_become 67 = .ok (.invokestatic 37, 3) := by decide +kernel
theorem dX6_become_70 : decode cX6_become 70 = .ok (.aload_n 1, 1) := by decide +kernel
theorem dX6_become_71 : decode cX6_become 71 = .ok (.getfield 25, 3) := by decide +kernel
theorem dX6_become_74 : decode cX6_become 74 = .ok (.iconst 0, 1) := by decide +kernel
theorem dX6_become_75 : decode cX6_become 75 = .ok (.aload_n 0, 1) := by decide +kernel
theorem dX6_become_76 : decode cX6_become 76 = .ok (.getfield 25, 3) := by decide +kernel
theorem dX6_become_79 : decode cX6_become 79 = .ok (.iconst 0, 1) := by decide +kernel
theorem dX6_become_80 : decode cX6_become 80 = .ok (.aload_n 0, 1) := by decide +kernel
theorem dX6_become_81 : decode cX6_become 81 = .ok (.getfield 25, 3) := by decide +kernel
theorem dX6_become_84 : decode cX6_become 84 = .ok (.arraylength, 1) := by decide +kernel
theorem dX6_become_85 : decode cX6_become 85 = .ok (.invokestatic 37, 3) := by decide +kernel
theorem dX6_become_88 : decode cX6_become 88 = .ok (.return_, 1) := by decide +kernel
theorem dX6_begin_0 : decode cX6_begin 0 = .ok (.aload_n 0, 1) := by decide +kernel
theorem dX6_begin_1 : decode cX6_begin 1 = .ok (.iconst 0, 1) := by decide +kernel
theorem dX6_begin_2 : decode cX6_begin 2 = .ok (.putfield 9, 3) := by decide +kernel
theorem dX6_begin_5 : decode cX6_begin 5 = .ok (.aload_n 0, 1) := by decide +kernel
theorem dX6_begin_6 : decode cX6_begin 6 = .ok (.iconst 0, 1) := by decide +kernel
theorem dX6_begin_7 : decode cX6_begin 7 = .ok (.putfield 34, 3) := by decide +kernel
theorem dX6_begin_10 : decode cX6_begin 10 = .ok (.return_, 1) := by decide +kernel
theorem dX6_addStep_0 : decode cX6_addStep 0 = .ok (.aload_n 0, 1) := by decide +kernel
theorem dX6_addStep_1 : decode cX6_addStep 1 = .ok (.getfield 34, 3) := by decide +kernel
theorem dX6_addStep_4 : decode cX6_addStep 4 = .ok (.aload_n 0, 1) := by decide +kernel
theorem dX6_addStep_5 : decode cX6_addStep 5 = .ok (.getfield 25, 3) := by decide +kernel
theorem dX6_addStep_8 : decode cX6_addStep 8 = .ok (.arraylength, 1) := by decide +kernel
theorem dX6_addStep_9 : decode cX6_addStep 9 = .ok (.if_icmp .ge 23, 3) := by decide +kernel
theorem dX6_addStep_12 : decode cX6_addStep 12 = .ok (.aload_n 0, 1) := by decide +kernel
theorem dX6_addStep_13 : decode cX6_addStep 13 = .ok (.getfield 25, 3) := by decide +kernel
theorem dX6_addStep_16 : decode cX6_addStep 16 = .ok (.aload_n 0, 1) := by decide +kernel
theorem dX6_addStep_17 : decode cX6_addStep 17 = .ok (.getfield 34, 3) := by decide +kernel
theorem dX6_addStep_20 : decode cX6_addStep 20 = .ok (.iload_n 1, 1) := by decide +kernel
theorem dX6_addStep_21 : decode cX6_addStep 21 = .ok (.iastore, 1) := by decide +kernel
theorem dX6_addStep_22 : decode cX6_addStep 22 = .ok (.aload_n 0, 1) := by decide +kernel
theorem dX6_addStep_23 : decode cX6_addStep 23 = .ok (.dup, 1) := by decide +kernel
theorem dX6_addStep_24 : decode cX6_addStep 24 = .ok (.getfield 34, 3) := by decide +kernel
theorem dX6_addStep_27 : decode cX6_addStep 27 = .ok (.iconst 1, 1) := by decide +kernel
theorem dX6_addStep_28 : decode cX6_addStep 28 = .ok (.iadd, 1) := by decide +kernel
theorem dX6_addStep_29 : decode cX6_addStep 29 = .ok (.putfield 34, 3) := by decide +kernel
theorem dX6_addStep_32 : decode cX6_addStep 32 = .ok (.return_, 1) := by decide +kernel
theorem dX6_addLine_0 : decode cX6_addLine 0 = .ok (.aload_n 0, 1) := by decide +kernel
theorem dX6_addLine_1 : decode cX6_addLine 1 = .ok (.getfield 9, 3) := by decide +kernel
theorem dX6_addLine_4 : decode cX6_addLine 4 = .ok (.ifCond .lt 55, 3) := by decide +kernel
theorem dX6_addLine_7 : decode cX6_addLine 7 = .ok (.aload_n 0, 1) := by decide +kernel
theorem dX6_addLine_8 : decode cX6_addLine 8 = .ok (.getfield 9, 3) := by decide +kernel
theorem dX6_addLine_11 : decode cX6_addLine 11 = .ok (.bipush 12, 2) := by decide +kernel
theorem dX6_addLine_13 : decode cX6_addLine 13 = .ok (.if_icmp .ge 46, 3) := by decide +kernel
theorem dX6_addLine_16 : decode cX6_addLine 16 = .ok (.aload_n 0, 1) := by decide +kernel
theorem dX6_addLine_17 : decode cX6_addLine 17 = .ok (.getfield 15, 3) := by decide +kernel
theorem dX6_addLine_20 : decode cX6_addLine 20 = .ok (.aload_n 0, 1) := by decide +kernel
theorem dX6_addLine_21 : decode cX6_addLine 21 = .ok (.getfield 9, 3) := by decide +kernel
theorem dX6_addLine_24 : decode cX6_addLine 24 = .ok (.iload_n 1, 1) := by decide +kernel
theorem dX6_addLine_25 : decode cX6_addLine 25 = .ok (.iastore, 1) := by decide +kernel
theorem dX6_addLine_26 : decode cX6_addLine 26 = .ok (.aload_n 0, 1) := by decide +kernel
theorem dX6_addLine_27 : decode cX6_addLine 27 = .ok (.getfield 19, 3) := by decide +kernel
theorem dX6_addLine_30 : decode cX6_addLine 30 = .ok (.aload_n 0, 1) := by decide +kernel
theorem dX6_addLine_31 : decode cX6_addLine 31 = .ok (.getfield 9, 3) := by decide +kernel
theorem dX6_addLine_34 : decode cX6_addLine 34 = .ok (.iload_n 2, 1) := by decide +kernel
theorem dX6_addLine_35 : decode cX6_addLine 35 = .ok (.iastore, 1) := by decide +kernel
theorem dX6_addLine_36 : decode cX6_addLine 36 = .ok (.aload_n 0, 1) := by decide +kernel
theorem dX6_addLine_37 : decode cX6_addLine 37 = .ok (.getfield 22, 3) := by decide +kernel
theorem dX6_addLine_40 : decode cX6_addLine 40 = .ok (.aload_n 0, 1) := by decide +kernel
theorem dX6_addLine_41 : decode cX6_addLine 41 = .ok (.getfield 9, 3) := by decide +kernel
theorem dX6_addLine_44 : decode cX6_addLine 44 = .ok (.aload_n 0, 1) := by decide +kernel
theorem dX6_addLine_45 : decode cX6_addLine 45 = .ok (.getfield 34, 3) := by decide +kernel
theorem dX6_addLine_48 : decode cX6_addLine 48 = .ok (.iastore, 1) := by decide +kernel
theorem dX6_addLine_49 : decode cX6_addLine 49 = .ok (.aload_n 0, 1) := by decide +kernel
theorem dX6_addLine_50 : decode cX6_addLine 50 = .ok (.dup, 1) := by decide +kernel
theorem dX6_addLine_51 : decode cX6_addLine 51 = .ok (.getfield 9, 3) := by decide +kernel
theorem dX6_addLine_54 : decode cX6_addLine 54 = .ok (.iconst 1, 1) := by decide +kernel
theorem dX6_addLine_55 : decode cX6_addLine 55 = .ok (.iadd, 1) := by decide +kernel
theorem dX6_addLine_56 : decode cX6_addLine 56 = .ok (.putfield 9, 3) := by decide +kernel
theorem dX6_addLine_59 : decode cX6_addLine 59 = .ok (.return_, 1) := by decide +kernel
theorem dX6_bindsBy_0 : decode cX6_bindsBy 0 = .ok (.aload_n 0, 1) := by decide +kernel
theorem dX6_bindsBy_1 : decode cX6_bindsBy 1 = .ok (.aload_n 1, 1) := by decide +kernel
theorem dX6_bindsBy_2 : decode cX6_bindsBy 2 = .ok (.iload_n 2, 1) := by decide +kernel
theorem dX6_bindsBy_3 : decode cX6_bindsBy 3 = .ok (.iload_n 3, 1) := by decide +kernel
theorem dX6_bindsBy_4 : decode cX6_bindsBy 4 = .ok (.iload 4, 2) := by decide +kernel
theorem dX6_bindsBy_6 : decode cX6_bindsBy 6 = .ok (.iload 5, 2) := by decide +kernel
theorem dX6_bindsBy_8 : decode cX6_bindsBy 8 = .ok (.invokevirtual 43, 3) := by decide +kernel
theorem dX6_bindsBy_11 : decode cX6_bindsBy 11 = .ok (.bipush 9, 2) := by decide +kernel
theorem dX6_bindsBy_13 : decode cX6_bindsBy 13 = .ok (.aload_n 1, 1) := by decide +kernel
theorem dX6_bindsBy_14 : decode cX6_bindsBy 14 = .ok (.getfield 47, 3) := by decide +kernel
theorem dX6_bindsBy_17 : decode cX6_bindsBy 17 = .ok (.aload_n 0, 1) := by decide +kernel
theorem dX6_bindsBy_18 : decode cX6_bindsBy 18 = .ok (.iconst 0, 1) := by decide +kernel
theorem dX6_bindsBy_19 : decode cX6_bindsBy 19 = .ok (.invokevirtual 52, 3) := by decide +kernel
theorem dX6_bindsBy_22 : decode cX6_bindsBy 22 = .ok (.iadd, 1) := by decide +kernel
theorem dX6_bindsBy_23 : decode cX6_bindsBy 23 = .ok (.invokestatic 56, 3) := by decide +kernel
theorem dX6_bindsBy_26 : decode cX6_bindsBy 26 = .ok (.ireturn, 1) := by decide +kernel
theorem dX6_lastsFor_0 : decode cX6_lastsFor 0 = .ok (.aload_n 0, 1) := by decide +kernel
theorem dX6_lastsFor_1 : decode cX6_lastsFor 1 = .ok (.aload_n 1, 1) := by decide +kernel
theorem dX6_lastsFor_2 : decode cX6_lastsFor 2 = .ok (.iload_n 2, 1) := by decide +kernel
theorem dX6_lastsFor_3 : decode cX6_lastsFor 3 = .ok (.iload_n 3, 1) := by decide +kernel
theorem dX6_lastsFor_4 : decode cX6_lastsFor 4 = .ok (.iload 4, 2) := by decide +kernel
theorem dX6_lastsFor_6 : decode cX6_lastsFor 6 = .ok (.iload 5, 2) := by decide +kernel
theorem dX6_lastsFor_8 : decode cX6_lastsFor 8 = .ok (.invokevirtual 43, 3) := by decide +kernel
theorem dX6_lastsFor_11 : decode cX6_lastsFor 11 = .ok (.aload_n 1, 1) := by decide +kernel
theorem dX6_lastsFor_12 : decode cX6_lastsFor 12 = .ok (.getfield 62, 3) := by decide +kernel
theorem dX6_lastsFor_15 : decode cX6_lastsFor 15 = .ok (.aload_n 0, 1) := by decide +kernel
theorem dX6_lastsFor_16 : decode cX6_lastsFor 16 = .ok (.iconst 1, 1) := by decide +kernel
theorem dX6_lastsFor_17 : decode cX6_lastsFor 17 = .ok (.invokevirtual 52, 3) := by decide +kernel
theorem dX6_lastsFor_20 : decode cX6_lastsFor 20 = .ok (.iadd, 1) := by decide +kernel
theorem dX6_lastsFor_21 : decode cX6_lastsFor 21 = .ok (.ireturn, 1) := by decide +kernel
theorem dX6_suspectsBy_0 : decode cX6_suspectsBy 0 = .ok (.aload_n 0, 1) := by decide +kernel
theorem dX6_suspectsBy_1 : decode cX6_suspectsBy 1 = .ok (.getfield 9, 3) := by decide +kernel
theorem dX6_suspectsBy_4 : decode cX6_suspectsBy 4 = .ok (.iconst (-1), 1) := by decide +kernel
theorem dX6_suspectsBy_5 : decode cX6_suspectsBy 5 = .ok (.if_icmp .ne 5, 3) := by decide +kernel
theorem dX6_suspectsBy_8 : decode cX6_suspectsBy 8 = .ok (.iconst 5, 1) := by decide +kernel
theorem dX6_suspectsBy_9 : decode cX6_suspectsBy 9 = .ok (.ireturn, 1) := by decide +kernel
theorem dX6_suspectsBy_10 : decode cX6_suspectsBy 10 = .ok (.aload_n 0, 1) := by decide +kernel
theorem dX6_suspectsBy_11 : decode cX6_suspectsBy 11 = .ok (.aload_n 1, 1) := by decide +kernel
theorem dX6_suspectsBy_12 : decode cX6_suspectsBy 12 = .ok (.iload_n 2, 1) := by decide +kernel
theorem dX6_suspectsBy_13 : decode cX6_suspectsBy 13 = .ok (.iload_n 3, 1) := by decide +kernel
theorem dX6_suspectsBy_14 : decode cX6_suspectsBy 14 = .ok (.iconst 0, 1) := by decide +kernel
theorem dX6_suspectsBy_15 : decode cX6_suspectsBy 15 = .ok (.iconst 0, 1) := by decide +kernel
theorem dX6_suspectsBy_16 : decode cX6_suspectsBy 16 = .ok (.invokevirtual 43, 3) := by decide +kernel
theorem dX6_suspectsBy_19 : decode cX6_suspectsBy 19 = .ok (.aload_n 0, 1) := by decide +kernel
theorem dX6_suspectsBy_20 : decode cX6_suspectsBy 20 = .ok (.iconst 2, 1) := by decide +kernel
theorem dX6_suspectsBy_21 : decode cX6_suspectsBy 21 = .ok (.invokevirtual 52, 3) := by decide +kernel
theorem dX6_suspectsBy_24 : decode cX6_suspectsBy 24 = .ok (.ireturn, 1) := by decide +kernel
theorem dX6_consider_0 : decode cX6_consider 0 = .ok (.aload_n 0, 1) := by decide +kernel
theorem dX6_consider_1 : decode cX6_consider 1 = .ok (.getfield 28, 3) := by decide +kernel
theorem dX6_consider_4 : decode cX6_consider 4 = .ok (.iconst 0, 1) := by decide +kernel
theorem dX6_consider_5 : decode cX6_consider 5 = .ok (.iload_n 2, 1) := by decide +kernel
theorem dX6_consider_6 : decode cX6_consider 6 = .ok (.iastore, 1) := by decide +kernel
theorem dX6_consider_7 : decode cX6_consider 7 = .ok (.aload_n 0, 1) := by decide +kernel
theorem dX6_consider_8 : decode cX6_consider 8 = .ok (.getfield 28, 3) := by decide +kernel
theorem dX6_consider_11 : decode cX6_consider 11 = .ok (.iconst 1, 1) := by decide +kernel
theorem dX6_consider_12 : decode cX6_consider 12 = .ok (.iload_n 3, 1) := by decide +kernel
theorem dX6_consider_13 : decode cX6_consider 13 = .ok (.iastore, 1) := by decide +kernel
theorem dX6_consider_14 : decode cX6_consider 14 = .ok (.aload_n 0, 1) := by decide +kernel
theorem dX6_consider_15 : decode cX6_consider 15 = .ok (.getfield 28, 3) := by decide +kernel
theorem dX6_consider_18 : decode cX6_consider 18 = .ok (.iconst 2, 1) := by decide +kernel
theorem dX6_consider_19 : decode cX6_consider 19 = .ok (.iload 4, 2) := by decide +kernel
theorem dX6_consider_21 : decode cX6_consider 21 = .ok (.iastore, 1) := by decide +kernel
theorem dX6_consider_22 : decode cX6_consider 22 = .ok (.aload_n 0, 1) := by decide +kernel
theorem dX6_consider_23 : decode cX6_consider 23 = .ok (.getfield 28, 3) := by decide +kernel
theorem dX6_consider_26 : decode cX6_consider 26 = .ok (.iconst 3, 1) := by decide +kernel
theorem dX6_consider_27 : decode cX6_consider 27 = .ok (.iload 5, 2) := by decide +kernel
theorem dX6_consider_29 : decode cX6_consider 29 = .ok (.iastore, 1) := by decide +kernel
theorem dX6_consider_30 : decode cX6_consider 30 = .ok (.aload_n 0, 1) := by decide +kernel
theorem dX6_consider_31 : decode cX6_consider 31 = .ok (.getfield 28, 3) := by decide +kernel
theorem dX6_consider_34 : decode cX6_consider 34 = .ok (.iconst 4, 1) := by decide +kernel
theorem dX6_consider_35 : decode cX6_consider 35 = .ok (.aload_n 1, 1) := by decide +kernel
theorem dX6_consider_36 : decode cX6_consider 36 = .ok (.iload_n 2, 1) := by decide +kernel
theorem dX6_consider_37 : decode cX6_consider 37 = .ok (.iload_n 3, 1) := by decide +kernel
theorem dX6_consider_38 : decode cX6_consider 38 = .ok (.invokevirtual 65, 3) := by decide +kernel
theorem dX6_consider_41 : decode cX6_consider 41 = .ok (.aload_n 1, 1) := by decide +kernel
theorem dX6_consider_42 : decode cX6_consider 42 = .ok (.iload_n 3, 1) := by decide +kernel
theorem dX6_consider_43 : decode cX6_consider 43 = .ok (.iload_n 2, 1) := by decide +kernel
theorem dX6_consider_44 : decode cX6_consider 44 = .ok (.invokevirtual 65, 3) := by decide +kernel
theorem dX6_consider_47 : decode cX6_consider 47 = .ok (.iadd, 1) := by decide +kernel
theorem dX6_consider_48 : decode cX6_consider 48 = .ok (.iastore, 1) := by decide +kernel
theorem dX6_consider_49 : decode cX6_consider 49 = .ok (.aload_n 0, 1) := by decide +kernel
theorem dX6_consider_50 : decode cX6_consider 50 = .ok (.getfield 28, 3) := by decide +kernel
theorem dX6_consider_53 : decode cX6_consider 53 = .ok (.iconst 5, 1) := by decide +kernel
theorem dX6_consider_54 : decode cX6_consider 54 = .ok (.aload_n 1, 1) := by decide +kernel
theorem dX6_consider_55 : decode cX6_consider 55 = .ok (.getfield 68, 3) := by decide +kernel
theorem dX6_consider_58 : decode cX6_consider 58 = .ok (.iastore, 1) := by decide +kernel
theorem dX6_consider_59 : decode cX6_consider 59 = .ok (.aload_n 0, 1) := by decide +kernel
theorem dX6_consider_60 : decode cX6_consider 60 = .ok (.getfield 28, 3) := by decide +kernel
theorem dX6_consider_63 : decode cX6_consider 63 = .ok (.bipush 6, 2) := by decide +kernel
theorem dX6_consider_65 : decode cX6_consider 65 = .ok (.aload_n 1, 1) := by decide +kernel
theorem dX6_consider_66 : decode cX6_consider 66 = .ok (.getfield 71, 3) := by decide +kernel
theorem dX6_consider_69 : decode cX6_consider 69 = .ok (.iload_n 2, 1) := by decide +kernel
theorem dX6_consider_70 : decode cX6_consider 70 = .ok (.iaload, 1) := by decide +kernel
theorem dX6_consider_71 : decode cX6_consider 71 = .ok (.iload_n 3, 1) := by decide +kernel
theorem dX6_consider_72 : decode cX6_consider 72 = .ok (.if_icmp .ne 7, 3) := by decide +kernel
theorem dX6_consider_75 : decode cX6_consider 75 = .ok (.iconst 1, 1) := by decide +kernel
theorem dX6_consider_76 : decode cX6_consider 76 = .ok (.goto 4, 3) := by decide +kernel
theorem dX6_consider_79 : decode cX6_consider 79 = .ok (.iconst 0, 1) := by decide +kernel
theorem dX6_consider_80 : decode cX6_consider 80 = .ok (.iastore, 1) := by decide +kernel
theorem dX6_consider_81 : decode cX6_consider 81 = .ok (.aload_n 0, 1) := by decide +kernel
theorem dX6_consider_82 : decode cX6_consider 82 = .ok (.getfield 28, 3) := by decide +kernel
theorem dX6_consider_85 : decode cX6_consider 85 = .ok (.bipush 7, 2) := by decide +kernel
theorem dX6_consider_87 : decode cX6_consider 87 = .ok (.aload_n 1, 1) := by decide +kernel
theorem dX6_consider_88 : decode cX6_consider 88 = .ok (.iload_n 2, 1) := by decide +kernel
theorem dX6_consider_89 : decode cX6_consider 89 = .ok (.iload_n 3, 1) := by decide +kernel
theorem dX6_consider_90 : decode cX6_consider 90 = .ok (.invokevirtual 74, 3) := by decide +kernel
theorem dX6_consider_93 : decode cX6_consider 93 = .ok (.ifCond .eq 7, 3) := by decide +kernel
theorem dX6_consider_96 : decode cX6_consider 96 = .ok (.iconst 1, 1) := by decide +kernel
theorem dX6_consider_97 : decode cX6_consider 97 = .ok (.goto 4, 3) := by decide +kernel
theorem dX6_consider_100 : decode cX6_consider 100 = .ok (.iconst 0, 1) := by decide +kernel
theorem dX6_consider_101 : decode cX6_consider 101 = .ok (.iastore, 1) := by decide +kernel
theorem dX6_consider_102 : decode cX6_consider 102 = .ok (.return_, 1) := by decide +kernel
theorem dX6_sum_0 : decode cX6_sum 0 = .ok (.iconst 0, 1) := by decide +kernel
theorem dX6_sum_1 : decode cX6_sum 1 = .ok (.istore_n 2, 1) := by decide +kernel
theorem dX6_sum_2 : decode cX6_sum 2 = .ok (.iconst 0, 1) := by decide +kernel
theorem dX6_sum_3 : decode cX6_sum 3 = .ok (.istore_n 3, 1) := by decide +kernel
theorem dX6_sum_4 : decode cX6_sum 4 = .ok (.iload_n 3, 1) := by decide +kernel
theorem dX6_sum_5 : decode cX6_sum 5 = .ok (.aload_n 0, 1) := by decide +kernel
theorem dX6_sum_6 : decode cX6_sum 6 = .ok (.getfield 9, 3) := by decide +kernel
theorem dX6_sum_9 : decode cX6_sum 9 = .ok (.if_icmp .ge 36, 3) := by decide +kernel
theorem dX6_sum_12 : decode cX6_sum 12 = .ok (.aload_n 0, 1) := by decide +kernel
theorem dX6_sum_13 : decode cX6_sum 13 = .ok (.getfield 15, 3) := by decide +kernel
theorem dX6_sum_16 : decode cX6_sum 16 = .ok (.iload_n 3, 1) := by decide +kernel
theorem dX6_sum_17 : decode cX6_sum 17 = .ok (.iaload, 1) := by decide +kernel
theorem dX6_sum_18 : decode cX6_sum 18 = .ok (.iload_n 1, 1) := by decide +kernel
theorem dX6_sum_19 : decode cX6_sum 19 = .ok (.if_icmp .ne 20, 3) := by decide +kernel
theorem dX6_sum_22 : decode cX6_sum 22 = .ok (.aload_n 0, 1) := by decide +kernel
theorem dX6_sum_23 : decode cX6_sum 23 = .ok (.iload_n 3, 1) := by decide +kernel
theorem dX6_sum_24 : decode cX6_sum 24 = .ok (.invokevirtual 78, 3) := by decide +kernel
theorem dX6_sum_27 : decode cX6_sum 27 = .ok (.ifCond .eq 12, 3) := by decide +kernel
theorem dX6_sum_30 : decode cX6_sum 30 = .ok (.iload_n 2, 1) := by decide +kernel
theorem dX6_sum_31 : decode cX6_sum 31 = .ok (.aload_n 0, 1) := by decide +kernel
theorem dX6_sum_32 : decode cX6_sum 32 = .ok (.getfield 19, 3) := by decide +kernel
theorem dX6_sum_35 : decode cX6_sum 35 = .ok (.iload_n 3, 1) := by decide +kernel
theorem dX6_sum_36 : decode cX6_sum 36 = .ok (.iaload, 1) := by decide +kernel
theorem dX6_sum_37 : decode cX6_sum 37 = .ok (.iadd, 1) := by decide +kernel
theorem dX6_sum_38 : decode cX6_sum 38 = .ok (.istore_n 2, 1) := by decide +kernel
theorem dX6_sum_39 : decode cX6_sum 39 = .ok (.iinc 3 1, 3) := by decide +kernel
theorem dX6_sum_42 : decode cX6_sum 42 = .ok (.goto (-38), 3) := by decide +kernel
theorem dX6_sum_45 : decode cX6_sum 45 = .ok (.iload_n 2, 1) := by decide +kernel
theorem dX6_sum_46 : decode cX6_sum 46 = .ok (.ireturn, 1) := by decide +kernel
theorem dX6_isTrue_0 : decode cX6_isTrue 0 = .ok (.iconst 0, 1) := by decide +kernel
theorem dX6_isTrue_1 : decode cX6_isTrue 1 = .ok (.istore_n 2, 1) := by decide +kernel
theorem dX6_isTrue_2 : decode cX6_isTrue 2 = .ok (.iload_n 1, 1) := by decide +kernel
theorem dX6_isTrue_3 : decode cX6_isTrue 3 = .ok (.ifCond .ne 7, 3) := by decide +kernel
theorem dX6_isTrue_6 : decode cX6_isTrue 6 = .ok (.iconst 0, 1) := by decide +kernel
theorem dX6_isTrue_7 : decode cX6_isTrue 7 = .ok (.goto 11, 3) := by decide +kernel
theorem dX6_isTrue_10 : decode cX6_isTrue 10 = .ok (.aload_n 0, 1) := by decide +kernel
theorem dX6_isTrue_11 : decode cX6_isTrue 11 = .ok (.getfield 22, 3) := by decide +kernel
theorem dX6_isTrue_14 : decode cX6_isTrue 14 = .ok (.iload_n 1, 1) := by decide +kernel
theorem dX6_isTrue_15 : decode cX6_isTrue 15 = .ok (.iconst 1, 1) := by decide +kernel
theorem dX6_isTrue_16 : decode cX6_isTrue 16 = .ok (.isub, 1) := by decide +kernel
theorem dX6_isTrue_17 : decode cX6_isTrue 17 = .ok (.iaload, 1) := by decide +kernel
theorem dX6_isTrue_18 : decode cX6_isTrue 18 = .ok (.istore_n 3, 1) := by decide +kernel
theorem dX6_isTrue_19 : decode cX6_isTrue 19 = .ok (.iload_n 3, 1) := by decide +kernel
theorem dX6_isTrue_20 : decode cX6_isTrue 20 = .ok (.aload_n 0, 1) := by decide +kernel
theorem dX6_isTrue_21 : decode cX6_isTrue 21 = .ok (.getfield 22, 3) := by decide +kernel
theorem dX6_isTrue_24 : decode cX6_isTrue 24 = .ok (.iload_n 1, 1) := by decide +kernel
theorem dX6_isTrue_25 : decode cX6_isTrue 25 = .ok (.iaload, 1) := by decide +kernel
theorem dX6_isTrue_26 : decode cX6_isTrue 26 = .ok (.if_icmp .ge 138, 3) := by decide +kernel
theorem dX6_isTrue_29 : decode cX6_isTrue 29 = .ok (.aload_n 0, 1) := by decide +kernel
theorem dX6_isTrue_30 : decode cX6_isTrue 30 = .ok (.getfield 25, 3) := by decide +kernel
theorem dX6_isTrue_33 : decode cX6_isTrue 33 = .ok (.iload_n 3, 1) := by decide +kernel
theorem dX6_isTrue_34 : decode cX6_isTrue 34 = .ok (.iaload, 1) := by decide +kernel
theorem dX6_isTrue_35 : decode cX6_isTrue 35 = .ok (.istore 4, 2) := by decide +kernel
theorem dX6_isTrue_37 : decode cX6_isTrue 37 = .ok (.iload 4, 2) := by decide +kernel
theorem dX6_isTrue_39 : decode cX6_isTrue 39 = .ok (.sipush 2000, 3) := by decide +kernel
theorem dX6_isTrue_42 : decode cX6_isTrue 42 = .ok (.if_icmp .ge 48, 3) := by decide +kernel
theorem dX6_isTrue_45 : decode cX6_isTrue 45 = .ok (.iload_n 2, 1) := by decide +kernel
theorem dX6_isTrue_46 : decode cX6_isTrue 46 = .ok (.aload_n 0, 1) := by decide +kernel
theorem dX6_isTrue_47 : decode cX6_isTrue 47 = .ok (.getfield 31, 3) := by decide +kernel
theorem dX6_isTrue_50 : decode cX6_isTrue 50 = .ok (.arraylength, 1) := by decide +kernel
theorem dX6_isTrue_51 : decode cX6_isTrue 51 = .ok (.if_icmp .ge 107, 3) := by decide +kernel
theorem dX6_isTrue_54 : decode cX6_isTrue 54 = .ok (.aload_n 0, 1) := by decide +kernel
theorem dX6_isTrue_55 : decode cX6_isTrue 55 = .ok (.getfield 31, 3) := by decide +kernel
theorem dX6_isTrue_58 : decode cX6_isTrue 58 = .ok (.iload_n 2, 1) := by decide +kernel
theorem dX6_isTrue_59 : decode cX6_isTrue 59 = .ok (.iload 4, 2) := by decide +kernel
theorem dX6_isTrue_61 : decode cX6_isTrue 61 = .ok (.sipush 1000, 3) := by decide +kernel
theorem dX6_isTrue_64 : decode cX6_isTrue 64 = .ok (.if_icmp .ge 8, 3) := by decide +kernel
theorem dX6_isTrue_67 : decode cX6_isTrue 67 = .ok (.iload 4, 2) := by decide +kernel
theorem dX6_isTrue_69 : decode cX6_isTrue 69 = .ok (.goto 14, 3) := by decide +kernel
theorem dX6_isTrue_72 : decode cX6_isTrue 72 = .ok (.aload_n 0, 1) := by decide +kernel
theorem dX6_isTrue_73 : decode cX6_isTrue 73 = .ok (.getfield 28, 3) := by decide +kernel
theorem dX6_isTrue_76 : decode cX6_isTrue 76 = .ok (.iload 4, 2) := by decide +kernel
theorem dX6_isTrue_78 : decode cX6_isTrue 78 = .ok (.sipush 1000, 3) := by decide +kernel
theorem dX6_isTrue_81 : decode cX6_isTrue 81 = .ok (.isub, 1) := by decide +kernel
theorem dX6_isTrue_82 : decode cX6_isTrue 82 = .ok (.iaload, 1) := by decide +kernel
theorem dX6_isTrue_83 : decode cX6_isTrue 83 = .ok (.iastore, 1) := by decide +kernel
theorem dX6_isTrue_84 : decode cX6_isTrue 84 = .ok (.iinc 2 1, 3) := by decide +kernel
theorem dX6_isTrue_87 : decode cX6_isTrue 87 = .ok (.goto 71, 3) := by decide +kernel
theorem dX6_isTrue_90 : decode cX6_isTrue 90 = .ok (.iload 4, 2) := by decide +kernel
theorem dX6_isTrue_92 : decode cX6_isTrue 92 = .ok (.sipush 2000, 3) := by decide +kernel
theorem dX6_isTrue_95 : decode cX6_isTrue 95 = .ok (.if_icmp .ne 28, 3) := by decide +kernel
theorem dX6_isTrue_98 : decode cX6_isTrue 98 = .ok (.iload_n 2, 1) := by decide +kernel
theorem dX6_isTrue_99 : decode cX6_isTrue 99 = .ok (.ifCond .le 59, 3) := by decide +kernel
theorem dX6_isTrue_102 : decode cX6_isTrue 102 = .ok (.aload_n 0, 1) := by decide +kernel
theorem dX6_isTrue_103 : decode cX6_isTrue 103 = .ok (.getfield 31, 3) := by decide +kernel
theorem dX6_isTrue_106 : decode cX6_isTrue 106 = .ok (.iload_n 2, 1) := by decide +kernel
theorem dX6_isTrue_107 : decode cX6_isTrue 107 = .ok (.iconst 1, 1) := by decide +kernel
theorem dX6_isTrue_108 : decode cX6_isTrue 108 = .ok (.isub, 1) := by decide +kernel
theorem dX6_isTrue_109 : decode cX6_isTrue 109 = .ok (.iconst 1, 1) := by decide +kernel
theorem dX6_isTrue_110 : decode cX6_isTrue 110 = .ok (.aload_n 0, 1) := by decide +kernel
theorem dX6_isTrue_111 : decode cX6_isTrue 111 = .ok (.getfield 31, 3) := by decide +kernel
theorem dX6_isTrue_114 : decode cX6_isTrue 114 = .ok (.iload_n 2, 1) := by decide +kernel
theorem dX6_isTrue_115 : decode cX6_isTrue 115 = .ok (.iconst 1, 1) := by decide +kernel
theorem dX6_isTrue_116 : decode cX6_isTrue 116 = .ok (.isub, 1) := by decide +kernel
theorem dX6_isTrue_117 : decode cX6_isTrue 117 = .ok (.iaload, 1) := by decide +kernel
theorem dX6_isTrue_118 : decode cX6_isTrue 118 = .ok (.isub, 1) := by decide +kernel
theorem dX6_isTrue_119 : decode cX6_isTrue 119 = .ok (.iastore, 1) := by decide +kernel
theorem dX6_isTrue_120 : decode cX6_isTrue 120 = .ok (.goto 38, 3) := by decide +kernel
theorem dX6_isTrue_123 : decode cX6_isTrue 123 = .ok (.iload_n 2, 1) := by decide +kernel
theorem dX6_isTrue_124 : decode cX6_isTrue 124 = .ok (.iconst 1, 1) := by decide +kernel
theorem dX6_isTrue_125 : decode cX6_isTrue 125 = .ok (.if_icmp .le 33, 3) := by decide +kernel
theorem dX6_isTrue_128 : decode cX6_isTrue 128 = .ok (.iinc 2 (-1), 3) := by decide +kernel
theorem dX6_isTrue_131 : decode cX6_isTrue 131 = .ok (.aload_n 0, 1) := by decide +kernel
theorem dX6_isTrue_132 : decode cX6_isTrue 132 = .ok (.getfield 31, 3) := by decide +kernel
theorem dX6_isTrue_135 : decode cX6_isTrue 135 = .ok (.iload_n 2, 1) := by decide +kernel
theorem dX6_isTrue_136 : decode cX6_isTrue 136 = .ok (.iconst 1, 1) := by decide +kernel
theorem dX6_isTrue_137 : decode cX6_isTrue 137 = .ok (.isub, 1) := by decide +kernel
theorem dX6_isTrue_138 : decode cX6_isTrue 138 = .ok (.iload 4, 2) := by decide +kernel
theorem dX6_isTrue_140 : decode cX6_isTrue 140 = .ok (.aload_n 0, 1) := by decide +kernel
theorem dX6_isTrue_141 : decode cX6_isTrue 141 = .ok (.getfield 31, 3) := by decide +kernel
theorem dX6_isTrue_144 : decode cX6_isTrue 144 = .ok (.iload_n 2, 1) := by decide +kernel
theorem dX6_isTrue_145 : decode cX6_isTrue 145 = .ok (.iconst 1, 1) := by decide +kernel
theorem dX6_isTrue_146 : decode cX6_isTrue 146 = .ok (.isub, 1) := by decide +kernel
theorem dX6_isTrue_147 : decode cX6_isTrue 147 = .ok (.iaload, 1) := by decide +kernel
theorem dX6_isTrue_148 : decode cX6_isTrue 148 = .ok (.aload_n 0, 1) := by decide +kernel
theorem dX6_isTrue_149 : decode cX6_isTrue 149 = .ok (.getfield 31, 3) := by decide +kernel
theorem dX6_isTrue_152 : decode cX6_isTrue 152 = .ok (.iload_n 2, 1) := by decide +kernel
theorem dX6_isTrue_153 : decode cX6_isTrue 153 = .ok (.iaload, 1) := by decide +kernel
theorem dX6_isTrue_154 : decode cX6_isTrue 154 = .ok (.invokestatic 82, 3) := by decide +kernel
theorem dX6_isTrue_157 : decode cX6_isTrue 157 = .ok (.iastore, 1) := by decide +kernel
theorem dX6_isTrue_158 : decode cX6_isTrue 158 = .ok (.iinc 3 1, 3) := by decide +kernel
theorem dX6_isTrue_161 : decode cX6_isTrue 161 = .ok (.goto (-142), 3) := by decide +kernel
theorem dX6_isTrue_164 : decode cX6_isTrue 164 = .ok (.iload_n 2, 1) := by decide +kernel
theorem dX6_isTrue_165 : decode cX6_isTrue 165 = .ok (.ifCond .eq 12, 3) := by decide +kernel
theorem dX6_isTrue_168 : decode cX6_isTrue 168 = .ok (.aload_n 0, 1) := by decide +kernel
theorem dX6_isTrue_169 : decode cX6_isTrue 169 = .ok (.getfield 31, 3) := by decide +kernel
theorem dX6_isTrue_172 : decode cX6_isTrue 172 = .ok (.iconst 0, 1) := by decide +kernel
theorem dX6_isTrue_173 : decode cX6_isTrue 173 = .ok (.iaload, 1) := by decide +kernel
theorem dX6_isTrue_174 : decode cX6_isTrue 174 = .ok (.ifCond .eq 7, 3) := by decide +kernel
theorem dX6_isTrue_177 : decode cX6_isTrue 177 = .ok (.iconst 1, 1) := by decide +kernel
theorem dX6_isTrue_178 : decode cX6_isTrue 178 = .ok (.goto 4, 3) := by decide +kernel
theorem dX6_isTrue_181 : decode cX6_isTrue 181 = .ok (.iconst 0, 1) := by decide +kernel
theorem dX6_isTrue_182 : decode cX6_isTrue 182 = .ok (.ireturn, 1) := by decide +kernel
theorem dX6_joined_0 : decode cX6_joined 0 = .ok (.iload_n 0, 1) := by decide +kernel
theorem dX6_joined_1 : decode cX6_joined 1 = .ok (.tableswitch 54 2001 2004 #[31, 35, 39, 43], 31) := by decide +kernel
theorem dX6_joined_32 : decode cX6_joined 32 = .ok (.iload_n 1, 1) := by decide +kernel
theorem dX6_joined_33 : decode cX6_joined 33 = .ok (.iload_n 2, 1) := by decide +kernel
theorem dX6_joined_34 : decode cX6_joined 34 = .ok (.iand, 1) := by decide +kernel
theorem dX6_joined_35 : decode cX6_joined 35 = .ok (.ireturn, 1) := by decide +kernel
theorem dX6_joined_36 : decode cX6_joined 36 = .ok (.iload_n 1, 1) := by decide +kernel
theorem dX6_joined_37 : decode cX6_joined 37 = .ok (.iload_n 2, 1) := by decide +kernel
theorem dX6_joined_38 : decode cX6_joined 38 = .ok (.ior, 1) := by decide +kernel
theorem dX6_joined_39 : decode cX6_joined 39 = .ok (.ireturn, 1) := by decide +kernel
theorem dX6_joined_40 : decode cX6_joined 40 = .ok (.iload_n 1, 1) := by decide +kernel
theorem dX6_joined_41 : decode cX6_joined 41 = .ok (.iload_n 2, 1) := by decide +kernel
theorem dX6_joined_42 : decode cX6_joined 42 = .ok (.iadd, 1) := by decide +kernel
theorem dX6_joined_43 : decode cX6_joined 43 = .ok (.ireturn, 1) := by decide +kernel
theorem dX6_joined_44 : decode cX6_joined 44 = .ok (.iload_n 1, 1) := by decide +kernel
theorem dX6_joined_45 : decode cX6_joined 45 = .ok (.iload_n 2, 1) := by decide +kernel
theorem dX6_joined_46 : decode cX6_joined 46 = .ok (.if_icmp .ge 7, 3) := by decide +kernel
theorem dX6_joined_49 : decode cX6_joined 49 = .ok (.iconst 1, 1) := by decide +kernel
theorem dX6_joined_50 : decode cX6_joined 50 = .ok (.goto 4, 3) := by decide +kernel
theorem dX6_joined_53 : decode cX6_joined 53 = .ok (.iconst 0, 1) := by decide +kernel
theorem dX6_joined_54 : decode cX6_joined 54 = .ok (.ireturn, 1) := by decide +kernel
theorem dX6_joined_55 : decode cX6_joined 55 = .ok (.iload_n 1, 1) := by decide +kernel
theorem dX6_joined_56 : decode cX6_joined 56 = .ok (.iload_n 2, 1) := by decide +kernel
theorem dX6_joined_57 : decode cX6_joined 57 = .ok (.if_icmp .le 7, 3) := by decide +kernel
theorem dX6_joined_60 : decode cX6_joined 60 = .ok (.iconst 1, 1) := by decide +kernel
theorem dX6_joined_61 : decode cX6_joined 61 = .ok (.goto 4, 3) := by decide +kernel
theorem dX6_joined_64 : decode cX6_joined 64 = .ok (.iconst 0, 1) := by decide +kernel
theorem dX6_joined_65 : decode cX6_joined 65 = .ok (.ireturn, 1) := by decide +kernel
theorem dX7_init_0 : decode cX7_init 0 = .ok (.aload_n 0, 1) := by decide +kernel
theorem dX7_init_1 : decode cX7_init 1 = .ok (.invokespecial 3, 3) := by decide +kernel
theorem dX7_init_4 : decode cX7_init 4 = .ok (.aload_n 0, 1) := by decide +kernel
theorem dX7_init_5 : decode cX7_init 5 = .ok (.aload_n 1, 1) := by decide +kernel
theorem dX7_init_6 : decode cX7_init 6 = .ok (.putfield 9, 3) := by decide +kernel
theorem dX7_init_9 : decode cX7_init 9 = .ok (.return_, 1) := by decide +kernel
theorem dX7_tells_0 : decode cX7_tells 0 = .ok (.aload_n 1, 1) := by decide +kernel
theorem dX7_tells_1 : decode cX7_tells 1 = .ok (.invokevirtual 15, 3) := by decide +kernel
theorem dX7_tells_4 : decode cX7_tells 4 = .ok (.aload_n 0, 1) := by decide +kernel
theorem dX7_tells_5 : decode cX7_tells 5 = .ok (.getfield 9, 3) := by decide +kernel
theorem dX7_tells_8 : decode cX7_tells 8 = .ok (.invokevirtual 20, 3) := by decide +kernel
theorem dX7_tells_11 : decode cX7_tells 11 = .ok (.aload_n 0, 1) := by decide +kernel
theorem dX7_tells_12 : decode cX7_tells 12 = .ok (.getfield 9, 3) := by decide +kernel
theorem dX7_tells_15 : decode cX7_tells 15 = .ok (.invokevirtual 23, 3) := by decide +kernel
theorem dX7_tells_18 : decode cX7_tells 18 = .ok (.ifCond .eq 5, 3) := by decide +kernel
theorem dX7_tells_21 : decode cX7_tells 21 = .ok (.iconst 1, 1) := by decide +kernel
theorem dX7_tells_22 : decode cX7_tells 22 = .ok (.ireturn, 1) := by decide +kernel
theorem dX7_tells_23 : decode cX7_tells 23 = .ok (.iconst 0, 1) := by decide +kernel
theorem dX7_tells_24 : decode cX7_tells 24 = .ok (.istore_n 2, 1) := by decide +kernel
theorem dX7_tells_25 : decode cX7_tells 25 = .ok (.iload_n 2, 1) := by decide +kernel
theorem dX7_tells_26 : decode cX7_tells 26 = .ok (.bipush 12, 2) := by decide +kernel
theorem dX7_tells_28 : decode cX7_tells 28 = .ok (.if_icmp .ge 45, 3) := by decide +kernel
theorem dX7_tells_31 : decode cX7_tells 31 = .ok (.aload_n 0, 1) := by decide +kernel
theorem dX7_tells_32 : decode cX7_tells 32 = .ok (.aload_n 1, 1) := by decide +kernel
theorem dX7_tells_33 : decode cX7_tells 33 = .ok (.invokevirtual 27, 3) := by decide +kernel
theorem dX7_tells_36 : decode cX7_tells 36 = .ok (.ifCond .ne 5, 3) := by decide +kernel
theorem dX7_tells_39 : decode cX7_tells 39 = .ok (.iconst 0, 1) := by decide +kernel
theorem dX7_tells_40 : decode cX7_tells 40 = .ok (.ireturn, 1) := by decide +kernel
theorem dX7_tells_41 : decode cX7_tells 41 = .ok (.aload_n 0, 1) := by decide +kernel
theorem dX7_tells_42 : decode cX7_tells 42 = .ok (.getfield 9, 3) := by decide +kernel
theorem dX7_tells_45 : decode cX7_tells 45 = .ok (.invokevirtual 23, 3) := by decide +kernel
theorem dX7_tells_48 : decode cX7_tells 48 = .ok (.ifCond .eq 5, 3) := by decide +kernel
theorem dX7_tells_51 : decode cX7_tells 51 = .ok (.iconst 1, 1) := by decide +kernel
theorem dX7_tells_52 : decode cX7_tells 52 = .ok (.ireturn, 1) := by decide +kernel
theorem dX7_tells_53 : decode cX7_tells 53 = .ok (.aload_n 0, 1) := by decide +kernel
theorem dX7_tells_54 : decode cX7_tells 54 = .ok (.getfield 9, 3) := by decide +kernel
theorem dX7_tells_57 : decode cX7_tells 57 = .ok (.bipush 59, 2) := by decide +kernel
theorem dX7_tells_59 : decode cX7_tells 59 = .ok (.invokevirtual 31, 3) := by decide +kernel
theorem dX7_tells_62 : decode cX7_tells 62 = .ok (.ifCond .ne 5, 3) := by decide +kernel
theorem dX7_tells_65 : decode cX7_tells 65 = .ok (.iconst 0, 1) := by decide +kernel
theorem dX7_tells_66 : decode cX7_tells 66 = .ok (.ireturn, 1) := by decide +kernel
theorem dX7_tells_67 : decode cX7_tells 67 = .ok (.iinc 2 1, 3) := by decide +kernel
theorem dX7_tells_70 : decode cX7_tells 70 = .ok (.goto (-45), 3) := by decide +kernel
theorem dX7_tells_73 : decode cX7_tells 73 = .ok (.iconst 0, 1) := by decide +kernel
theorem dX7_tells_74 : decode cX7_tells 74 = .ok (.ireturn, 1) := by decide +kernel
theorem dX7_tellsLine_0 : decode cX7_tellsLine 0 = .ok (.aload_n 0, 1) := by decide +kernel
theorem dX7_tellsLine_1 : decode cX7_tellsLine 1 = .ok (.getfield 9, 3) := by decide +kernel
theorem dX7_tellsLine_4 : decode cX7_tellsLine 4 = .ok (.ldc 35, 2) := by decide +kernel
theorem dX7_tellsLine_6 : decode cX7_tellsLine 6 = .ok (.invokevirtual 37, 3) := by decide +kernel
theorem dX7_tellsLine_9 : decode cX7_tellsLine 9 = .ok (.istore_n 2, 1) := by decide +kernel
theorem dX7_tellsLine_10 : decode cX7_tellsLine 10 = .ok (.iload_n 2, 1) := by decide +kernel
theorem dX7_tellsLine_11 : decode cX7_tellsLine 11 = .ok (.iconst (-1), 1) := by decide +kernel
theorem dX7_tellsLine_12 : decode cX7_tellsLine 12 = .ok (.if_icmp .ne 5, 3) := by decide +kernel
theorem dX7_tellsLine_15 : decode cX7_tellsLine 15 = .ok (.iconst 0, 1) := by decide +kernel
theorem dX7_tellsLine_16 : decode cX7_tellsLine 16 = .ok (.ireturn, 1) := by decide +kernel
theorem dX7_tellsLine_17 : decode cX7_tellsLine 17 = .ok (.aload_n 0, 1) := by decide +kernel
theorem dX7_tellsLine_18 : decode cX7_tellsLine 18 = .ok (.getfield 9, 3) := by decide +kernel
theorem dX7_tellsLine_21 : decode cX7_tellsLine 21 = .ok (.invokevirtual 41, 3) := by decide +kernel
theorem dX7_tellsLine_24 : decode cX7_tellsLine 24 = .ok (.aload_n 0, 1) := by decide +kernel
theorem dX7_tellsLine_25 : decode cX7_tellsLine 25 = .ok (.getfield 9, 3) := by decide +kernel
theorem dX7_tellsLine_28 : decode cX7_tellsLine 28 = .ok (.iconst 0, 1) := by decide +kernel
theorem dX7_tellsLine_29 : decode cX7_tellsLine 29 = .ok (.bipush 99, 2) := by decide +kernel
theorem dX7_tellsLine_31 : decode cX7_tellsLine 31 = .ok (.invokevirtual 44, 3) := by decide +kernel
theorem dX7_tellsLine_34 : decode cX7_tellsLine 34 = .ok (.istore_n 3, 1) := by decide +kernel
theorem dX7_tellsLine_35 : decode cX7_tellsLine 35 = .ok (.iload_n 3, 1) := by decide +kernel
theorem dX7_tellsLine_36 : decode cX7_tellsLine 36 = .ok (.iconst (-1), 1) := by decide +kernel
theorem dX7_tellsLine_37 : decode cX7_tellsLine 37 = .ok (.if_icmp .ne 5, 3) := by decide +kernel
theorem dX7_tellsLine_40 : decode cX7_tellsLine 40 = .ok (.iconst 0, 1) := by decide +kernel
theorem dX7_tellsLine_41 : decode cX7_tellsLine 41 = .ok (.ireturn, 1) := by decide +kernel
theorem dX7_tellsLine_42 : decode cX7_tellsLine 42 = .ok (.aload_n 0, 1) := by decide +kernel
theorem dX7_tellsLine_43 : decode cX7_tellsLine 43 = .ok (.getfield 9, 3) := by decide +kernel
theorem dX7_tellsLine_46 : decode cX7_tellsLine 46 = .ok (.invokevirtual 41, 3) := by decide +kernel
theorem dX7_tellsLine_49 : decode cX7_tellsLine 49 = .ok (.aload_n 0, 1) := by decide +kernel
theorem dX7_tellsLine_50 : decode cX7_tellsLine 50 = .ok (.getfield 9, 3) := by decide +kernel
theorem dX7_tellsLine_53 : decode cX7_tellsLine 53 = .ok (.ldc 48, 2) := by decide +kernel
theorem dX7_tellsLine_55 : decode cX7_tellsLine 55 = .ok (.invokevirtual 50, 3) := by decide +kernel
theorem dX7_tellsLine_58 : decode cX7_tellsLine 58 = .ok (.ifCond .eq 14, 3) := by decide +kernel
theorem dX7_tellsLine_61 : decode cX7_tellsLine 61 = .ok (.aload_n 0, 1) := by decide +kernel
theorem dX7_tellsLine_62 : decode cX7_tellsLine 62 = .ok (.aload_n 1, 1) := by decide +kernel
theorem dX7_tellsLine_63 : decode cX7_tellsLine 63 = .ok (.iconst 0, 1) := by decide +kernel
theorem dX7_tellsLine_64 : decode cX7_tellsLine 64 = .ok (.invokevirtual 54, 3) := by decide +kernel
theorem dX7_tellsLine_67 : decode cX7_tellsLine 67 = .ok (.ifCond .ne 5, 3) := by decide +kernel
theorem dX7_tellsLine_70 : decode cX7_tellsLine 70 = .ok (.iconst 0, 1) := by decide +kernel
theorem dX7_tellsLine_71 : decode cX7_tellsLine 71 = .ok (.ireturn, 1) := by decide +kernel
theorem dX7_tellsLine_72 : decode cX7_tellsLine 72 = .ok (.aload_n 1, 1) := by decide +kernel
theorem dX7_tellsLine_73 : decode cX7_tellsLine 73 = .ok (.iload_n 2, 1) := by decide +kernel
theorem dX7_tellsLine_74 : decode cX7_tellsLine 74 = .ok (.iload_n 3, 1) := by decide +kernel
theorem dX7_tellsLine_75 : decode cX7_tellsLine 75 = .ok (.invokevirtual 58, 3) := by decide +kernel
theorem dX7_tellsLine_78 : decode cX7_tellsLine 78 = .ok (.iconst 1, 1) := by decide +kernel
theorem dX7_tellsLine_79 : decode cX7_tellsLine 79 = .ok (.ireturn, 1) := by decide +kernel
theorem dX7_tellsCondition_0 : decode cX7_tellsCondition 0 = .ok (.iconst 0, 1) := by decide +kernel
theorem dX7_tellsCondition_1 : decode cX7_tellsCondition 1 = .ok (.istore_n 3, 1) := by decide +kernel
theorem dX7_tellsCondition_2 : decode cX7_tellsCondition 2 = .ok (.iconst 0, 1) := by decide +kernel
theorem dX7_tellsCondition_3 : decode cX7_tellsCondition 3 = .ok (.istore 4, 2) := by decide +kernel
theorem dX7_tellsCondition_5 : decode cX7_tellsCondition 5 = .ok (.iconst 0, 1) := by decide +kernel
theorem dX7_tellsCondition_6 : decode cX7_tellsCondition 6 = .ok (.istore 5, 2) := by decide +kernel
theorem dX7_tellsCondition_8 : decode cX7_tellsCondition 8 = .ok (.iload 5, 2) := by decide +kernel
theorem dX7_tellsCondition_10 : decode cX7_tellsCondition 10 = .ok (.sipush 400, 3) := by decide +kernel
theorem dX7_tellsCondition_13 : decode cX7_tellsCondition 13 = .ok (.if_icmp .ge 78, 3) := by decide +kernel
theorem dX7_tellsCondition_16 : decode cX7_tellsCondition 16 = .ok (.aload_n 0, 1) := by decide +kernel
theorem dX7_tellsCondition_17 : decode cX7_tellsCondition 17 = .ok (.aload_n 1, 1) := by decide +kernel
theorem dX7_tellsCondition_18 : decode cX7_tellsCondition 18 = .ok (.iload_n 2, 1) := by decide +kernel
theorem dX7_tellsCondition_19 : decode cX7_tellsCondition 19 = .ok (.invokevirtual 62, 3) := by decide +kernel
theorem dX7_tellsCondition_22 : decode cX7_tellsCondition 22 = .ok (.ifCond .ne 5, 3) := by decide +kernel
theorem dX7_tellsCondition_25 : decode cX7_tellsCondition 25 = .ok (.iconst 0, 1) := by decide +kernel
theorem dX7_tellsCondition_26 : decode cX7_tellsCondition 26 = .ok (.ireturn, 1) := by decide +kernel
theorem dX7_tellsCondition_27 : decode cX7_tellsCondition 27 = .ok (.iload 4, 2) := by decide +kernel
theorem dX7_tellsCondition_29 : decode cX7_tellsCondition 29 = .ok (.ifCond .eq 10, 3) := by decide +kernel
theorem dX7_tellsCondition_32 : decode cX7_tellsCondition 32 = .ok (.aload_n 1, 1) := by decide +kernel
theorem dX7_tellsCondition_33 : decode cX7_tellsCondition 33 = .ok (.sipush 2001, 3) := by decide +kernel
theorem dX7_tellsCondition_36 : decode cX7_tellsCondition 36 = .ok (.invokevirtual 65, 3) := by decide +kernel
theorem dX7_tellsCondition_39 : decode cX7_tellsCondition 39 = .ok (.aload_n 0, 1) := by decide +kernel
theorem dX7_tellsCondition_40 : decode cX7_tellsCondition 40 = .ok (.getfield 9, 3) := by decide +kernel
theorem dX7_tellsCondition_43 : decode cX7_tellsCondition 43 = .ok (.ldc 69, 2) := by decide +kernel
theorem dX7_tellsCondition_45 : decode cX7_tellsCondition 45 = .ok (.invokevirtual 50, 3) := by decide +kernel
theorem dX7_tellsCondition_48 : decode cX7_tellsCondition 48 = .ok (.istore 4, 2) := by decide +kernel
theorem dX7_tellsCondition_50 : decode cX7_tellsCondition 50 = .ok (.iload 4, 2) := by decide +kernel
theorem dX7_tellsCondition_52 : decode cX7_tellsCondition 52 = .ok (.ifCond .eq 6, 3) := by decide +kernel
theorem dX7_tellsCondition_55 : decode cX7_tellsCondition 55 = .ok (.goto 30, 3) := by decide +kernel
theorem dX7_tellsCondition_58 : decode cX7_tellsCondition 58 = .ok (.iload_n 3, 1) := by decide +kernel
theorem dX7_tellsCondition_59 : decode cX7_tellsCondition 59 = .ok (.ifCond .eq 10, 3) := by decide +kernel
theorem dX7_tellsCondition_62 : decode cX7_tellsCondition 62 = .ok (.aload_n 1, 1) := by decide +kernel
theorem dX7_tellsCondition_63 : decode cX7_tellsCondition 63 = .ok (.sipush 2002, 3) := by decide +kernel
theorem dX7_tellsCondition_66 : decode cX7_tellsCondition 66 = .ok (.invokevirtual 65, 3) := by decide +kernel
theorem dX7_tellsCondition_69 : decode cX7_tellsCondition 69 = .ok (.aload_n 0, 1) := by decide +kernel
theorem dX7_tellsCondition_70 : decode cX7_tellsCondition 70 = .ok (.getfield 9, 3) := by decide +kernel
theorem dX7_tellsCondition_73 : decode cX7_tellsCondition 73 = .ok (.ldc 71, 2) := by decide +kernel
theorem dX7_tellsCondition_75 : decode cX7_tellsCondition 75 = .ok (.invokevirtual 50, 3) := by decide +kernel
theorem dX7_tellsCondition_78 : decode cX7_tellsCondition 78 = .ok (.istore_n 3, 1) := by decide +kernel
theorem dX7_tellsCondition_79 : decode cX7_tellsCondition 79 = .ok (.iload_n 3, 1) := by decide +kernel
theorem dX7_tellsCondition_80 : decode cX7_tellsCondition 80 = .ok (.ifCond .ne 5, 3) := by decide +kernel
theorem dX7_tellsCondition_83 : decode cX7_tellsCondition 83 = .ok (.iconst 1, 1) := by decide +kernel
theorem dX7_tellsCondition_84 : decode cX7_tellsCondition 84 = .ok (.ireturn, 1) := by decide +kernel
theorem dX7_tellsCondition_85 : decode cX7_tellsCondition 85 = .ok (.iinc 5 1, 3) := by decide +kernel
theorem dX7_tellsCondition_88 : decode cX7_tellsCondition 88 = .ok (.goto (-80), 3) := by decide +kernel
theorem dX7_tellsCondition_91 : decode cX7_tellsCondition 91 = .ok (.iconst 0, 1) := by decide +kernel
theorem dX7_tellsCondition_92 : decode cX7_tellsCondition 92 = .ok (.ireturn, 1) := by decide +kernel
theorem dX7_tellsAtom_0 : decode cX7_tellsAtom 0 = .ok (.aload_n 0, 1) := by decide +kernel
theorem dX7_tellsAtom_1 : decode cX7_tellsAtom 1 = .ok (.getfield 9, 3) := by decide +kernel
theorem dX7_tellsAtom_4 : decode cX7_tellsAtom 4 = .ok (.ldc 73, 2) := by decide +kernel
theorem dX7_tellsAtom_6 : decode cX7_tellsAtom 6 = .ok (.invokevirtual 37, 3) := by decide +kernel
theorem dX7_tellsAtom_9 : decode cX7_tellsAtom 9 = .ok (.ifCond .ne 7, 3) := by decide +kernel
theorem dX7_tellsAtom_12 : decode cX7_tellsAtom 12 = .ok (.iconst 1, 1) := by decide +kernel
theorem dX7_tellsAtom_13 : decode cX7_tellsAtom 13 = .ok (.goto 4, 3) := by decide +kernel
theorem dX7_tellsAtom_16 : decode cX7_tellsAtom 16 = .ok (.iconst 0, 1) := by decide +kernel
theorem dX7_tellsAtom_17 : decode cX7_tellsAtom 17 = .ok (.istore_n 3, 1) := by decide +kernel
theorem dX7_tellsAtom_18 : decode cX7_tellsAtom 18 = .ok (.iload_n 3, 1) := by decide +kernel
theorem dX7_tellsAtom_19 : decode cX7_tellsAtom 19 = .ok (.ifCond .ne 15, 3) := by decide +kernel
theorem dX7_tellsAtom_22 : decode cX7_tellsAtom 22 = .ok (.aload_n 0, 1) := by decide +kernel
theorem dX7_tellsAtom_23 : decode cX7_tellsAtom 23 = .ok (.getfield 9, 3) := by decide +kernel
theorem dX7_tellsAtom_26 : decode cX7_tellsAtom 26 = .ok (.bipush 40, 2) := by decide +kernel
theorem dX7_tellsAtom_28 : decode cX7_tellsAtom 28 = .ok (.invokevirtual 75, 3) := by decide +kernel
theorem dX7_tellsAtom_31 : decode cX7_tellsAtom 31 = .ok (.ifCond .eq 71, 3) := by decide +kernel
theorem dX7_tellsAtom_34 : decode cX7_tellsAtom 34 = .ok (.iload_n 2, 1) := by decide +kernel
theorem dX7_tellsAtom_35 : decode cX7_tellsAtom 35 = .ok (.bipush 6, 2) := by decide +kernel
theorem dX7_tellsAtom_37 : decode cX7_tellsAtom 37 = .ok (.if_icmp .lt 5, 3) := by decide +kernel
theorem dX7_tellsAtom_40 : decode cX7_tellsAtom 40 = .ok (.iconst 0, 1) := by decide +kernel
theorem dX7_tellsAtom_41 : decode cX7_tellsAtom 41 = .ok (.ireturn, 1) := by decide +kernel
theorem dX7_tellsAtom_42 : decode cX7_tellsAtom 42 = .ok (.aload_n 0, 1) := by decide +kernel
theorem dX7_tellsAtom_43 : decode cX7_tellsAtom 43 = .ok (.getfield 9, 3) := by decide +kernel
theorem dX7_tellsAtom_46 : decode cX7_tellsAtom 46 = .ok (.invokevirtual 41, 3) := by decide +kernel
theorem dX7_tellsAtom_49 : decode cX7_tellsAtom 49 = .ok (.iload_n 3, 1) := by decide +kernel
theorem dX7_tellsAtom_50 : decode cX7_tellsAtom 50 = .ok (.ifCond .ne 32, 3) := by decide +kernel
theorem dX7_tellsAtom_53 : decode cX7_tellsAtom 53 = .ok (.aload_n 0, 1) := by decide +kernel
theorem dX7_tellsAtom_54 : decode cX7_tellsAtom 54 = .ok (.aload_n 1, 1) := by decide +kernel
theorem dX7_tellsAtom_55 : decode cX7_tellsAtom 55 = .ok (.iload_n 2, 1) := by decide +kernel
theorem dX7_tellsAtom_56 : decode cX7_tellsAtom 56 = .ok (.iconst 1, 1) := by decide +kernel
theorem dX7_tellsAtom_57 : decode cX7_tellsAtom 57 = .ok (.iadd, 1) := by decide +kernel
theorem dX7_tellsAtom_58 : decode cX7_tellsAtom 58 = .ok (.invokevirtual 54, 3) := by decide +kernel
theorem dX7_tellsAtom_61 : decode cX7_tellsAtom 61 = .ok (.ifCond .eq 19, 3) := by decide +kernel
theorem dX7_tellsAtom_64 : decode cX7_tellsAtom 64 = .ok (.aload_n 0, 1) := by decide +kernel
theorem dX7_tellsAtom_65 : decode cX7_tellsAtom 65 = .ok (.getfield 9, 3) := by decide +kernel
theorem dX7_tellsAtom_68 : decode cX7_tellsAtom 68 = .ok (.bipush 41, 2) := by decide +kernel
theorem dX7_tellsAtom_70 : decode cX7_tellsAtom 70 = .ok (.invokevirtual 31, 3) := by decide +kernel
theorem dX7_tellsAtom_73 : decode cX7_tellsAtom 73 = .ok (.ifCond .eq 7, 3) := by decide +kernel
theorem dX7_tellsAtom_76 : decode cX7_tellsAtom 76 = .ok (.iconst 1, 1) := by decide +kernel
theorem dX7_tellsAtom_77 : decode cX7_tellsAtom 77 = .ok (.goto 4, 3) := by decide +kernel
theorem dX7_tellsAtom_80 : decode cX7_tellsAtom 80 = .ok (.iconst 0, 1) := by decide +kernel
theorem dX7_tellsAtom_81 : decode cX7_tellsAtom 81 = .ok (.ireturn, 1) := by decide +kernel
theorem dX7_tellsAtom_82 : decode cX7_tellsAtom 82 = .ok (.aload_n 0, 1) := by decide +kernel
theorem dX7_tellsAtom_83 : decode cX7_tellsAtom 83 = .ok (.aload_n 1, 1) := by decide +kernel
theorem dX7_tellsAtom_84 : decode cX7_tellsAtom 84 = .ok (.iload_n 2, 1) := by decide +kernel
theorem dX7_tellsAtom_85 : decode cX7_tellsAtom 85 = .ok (.iconst 1, 1) := by decide +kernel
theorem dX7_tellsAtom_86 : decode cX7_tellsAtom 86 = .ok (.iadd, 1) := by decide +kernel
theorem dX7_tellsAtom_87 : decode cX7_tellsAtom 87 = .ok (.invokevirtual 62, 3) := by decide +kernel
theorem dX7_tellsAtom_90 : decode cX7_tellsAtom 90 = .ok (.istore 4, 2) := by decide +kernel
theorem dX7_tellsAtom_92 : decode cX7_tellsAtom 92 = .ok (.aload_n 1, 1) := by decide +kernel
theorem dX7_tellsAtom_93 : decode cX7_tellsAtom 93 = .ok (.sipush 2000, 3) := by decide +kernel
theorem dX7_tellsAtom_96 : decode cX7_tellsAtom 96 = .ok (.invokevirtual 65, 3) := by decide +kernel
theorem dX7_tellsAtom_99 : decode cX7_tellsAtom 99 = .ok (.iload 4, 2) := by decide +kernel
theorem dX7_tellsAtom_101 : decode cX7_tellsAtom 101 = .ok (.ireturn, 1) := by decide +kernel
theorem dX7_tellsAtom_102 : decode cX7_tellsAtom 102 = .ok (.aload_n 0, 1) := by decide +kernel
theorem dX7_tellsAtom_103 : decode cX7_tellsAtom 103 = .ok (.getfield 9, 3) := by decide +kernel
theorem dX7_tellsAtom_106 : decode cX7_tellsAtom 106 = .ok (.ldc 78, 2) := by decide +kernel
theorem dX7_tellsAtom_108 : decode cX7_tellsAtom 108 = .ok (.invokevirtual 37, 3) := by decide +kernel
theorem dX7_tellsAtom_111 : decode cX7_tellsAtom 111 = .ok (.istore 4, 2) := by decide +kernel
theorem dX7_tellsAtom_113 : decode cX7_tellsAtom 113 = .ok (.iload 4, 2) := by decide +kernel
theorem dX7_tellsAtom_115 : decode cX7_tellsAtom 115 = .ok (.iconst (-1), 1) := by decide +kernel
theorem dX7_tellsAtom_116 : decode cX7_tellsAtom 116 = .ok (.if_icmp .eq 22, 3) := by decide +kernel
theorem dX7_tellsAtom_119 : decode cX7_tellsAtom 119 = .ok (.aload_n 1, 1) := by decide +kernel
theorem dX7_tellsAtom_120 : decode cX7_tellsAtom 120 = .ok (.sipush 1006, 3) := by decide +kernel
theorem dX7_tellsAtom_123 : decode cX7_tellsAtom 123 = .ok (.iload 4, 2) := by decide +kernel
theorem dX7_tellsAtom_125 : decode cX7_tellsAtom 125 = .ok (.iadd, 1) := by decide +kernel
theorem dX7_tellsAtom_126 : decode cX7_tellsAtom 126 = .ok (.invokevirtual 65, 3) := by decide +kernel
theorem dX7_tellsAtom_129 : decode cX7_tellsAtom 129 = .ok (.aload_n 0, 1) := by decide +kernel
theorem dX7_tellsAtom_130 : decode cX7_tellsAtom 130 = .ok (.getfield 9, 3) := by decide +kernel
theorem dX7_tellsAtom_133 : decode cX7_tellsAtom 133 = .ok (.invokevirtual 41, 3) := by decide +kernel
theorem dX7_tellsAtom_136 : decode cX7_tellsAtom 136 = .ok (.iconst 1, 1) := by decide +kernel
theorem dX7_tellsAtom_137 : decode cX7_tellsAtom 137 = .ok (.ireturn, 1) := by decide +kernel
theorem dX7_tellsAtom_138 : decode cX7_tellsAtom 138 = .ok (.aload_n 0, 1) := by decide +kernel
theorem dX7_tellsAtom_139 : decode cX7_tellsAtom 139 = .ok (.aload_n 1, 1) := by decide +kernel
theorem dX7_tellsAtom_140 : decode cX7_tellsAtom 140 = .ok (.invokevirtual 80, 3) := by decide +kernel
theorem dX7_tellsAtom_143 : decode cX7_tellsAtom 143 = .ok (.ifCond .ne 5, 3) := by decide +kernel
theorem dX7_tellsAtom_146 : decode cX7_tellsAtom 146 = .ok (.iconst 0, 1) := by decide +kernel
theorem dX7_tellsAtom_147 : decode cX7_tellsAtom 147 = .ok (.ireturn, 1) := by decide +kernel
theorem dX7_tellsAtom_148 : decode cX7_tellsAtom 148 = .ok (.aload_n 0, 1) := by decide +kernel
theorem dX7_tellsAtom_149 : decode cX7_tellsAtom 149 = .ok (.getfield 9, 3) := by decide +kernel
theorem dX7_tellsAtom_152 : decode cX7_tellsAtom 152 = .ok (.bipush 60, 2) := by decide +kernel
theorem dX7_tellsAtom_154 : decode cX7_tellsAtom 154 = .ok (.invokevirtual 75, 3) := by decide +kernel
theorem dX7_tellsAtom_157 : decode cX7_tellsAtom 157 = .ok (.ifCond .eq 9, 3) := by decide +kernel
theorem dX7_tellsAtom_160 : decode cX7_tellsAtom 160 = .ok (.sipush 2004, 3) := by decide +kernel
theorem dX7_tellsAtom_163 : decode cX7_tellsAtom 163 = .ok (.goto 22, 3) := by decide +kernel
theorem dX7_tellsAtom_166 : decode cX7_tellsAtom 166 = .ok (.aload_n 0, 1) := by decide +kernel
theorem dX7_tellsAtom_167 : decode cX7_tellsAtom 167 = .ok (.getfield 9, 3) := by decide +kernel
theorem dX7_tellsAtom_170 : decode cX7_tellsAtom 170 = .ok (.bipush 62, 2) := by decide +kernel
theorem dX7_tellsAtom_172 : decode cX7_tellsAtom 172 = .ok (.invokevirtual 75, 3) := by decide +kernel
theorem dX7_tellsAtom_175 : decode cX7_tellsAtom 175 = .ok (.ifCond .eq 9, 3) := by decide +kernel
theorem dX7_tellsAtom_178 : decode cX7_tellsAtom 178 = .ok (.sipush 2005, 3) := by decide +kernel
theorem dX7_tellsAtom_181 : decode cX7_tellsAtom 181 = .ok (.goto 4, 3) := by decide +kernel
theorem dX7_tellsAtom_184 : decode cX7_tellsAtom 184 = .ok (.iconst (-1), 1) := by decide +kernel
theorem dX7_tellsAtom_185 : decode cX7_tellsAtom 185 = .ok (.istore 5, 2) := by decide +kernel
theorem dX7_tellsAtom_187 : decode cX7_tellsAtom 187 = .ok (.iload 5, 2) := by decide +kernel
theorem dX7_tellsAtom_189 : decode cX7_tellsAtom 189 = .ok (.iconst (-1), 1) := by decide +kernel
theorem dX7_tellsAtom_190 : decode cX7_tellsAtom 190 = .ok (.if_icmp .ne 5, 3) := by decide +kernel
theorem dX7_tellsAtom_193 : decode cX7_tellsAtom 193 = .ok (.iconst 0, 1) := by decide +kernel
theorem dX7_tellsAtom_194 : decode cX7_tellsAtom 194 = .ok (.ireturn, 1) := by decide +kernel
theorem dX7_tellsAtom_195 : decode cX7_tellsAtom 195 = .ok (.aload_n 0, 1) := by decide +kernel
theorem dX7_tellsAtom_196 : decode cX7_tellsAtom 196 = .ok (.getfield 9, 3) := by decide +kernel
theorem dX7_tellsAtom_199 : decode cX7_tellsAtom 199 = .ok (.invokevirtual 41, 3) := by decide +kernel
theorem dX7_tellsAtom_202 : decode cX7_tellsAtom 202 = .ok (.aload_n 0, 1) := by decide +kernel
theorem dX7_tellsAtom_203 : decode cX7_tellsAtom 203 = .ok (.aload_n 1, 1) := by decide +kernel
theorem dX7_tellsAtom_204 : decode cX7_tellsAtom 204 = .ok (.invokevirtual 80, 3) := by decide +kernel
theorem dX7_tellsAtom_207 : decode cX7_tellsAtom 207 = .ok (.istore 6, 2) := by decide +kernel
theorem dX7_tellsAtom_209 : decode cX7_tellsAtom 209 = .ok (.aload_n 1, 1) := by decide +kernel
theorem dX7_tellsAtom_210 : decode cX7_tellsAtom 210 = .ok (.iload 5, 2) := by decide +kernel
theorem dX7_tellsAtom_212 : decode cX7_tellsAtom 212 = .ok (.invokevirtual 65, 3) := by decide +kernel
theorem dX7_tellsAtom_215 : decode cX7_tellsAtom 215 = .ok (.iload 6, 2) := by decide +kernel
theorem dX7_tellsAtom_217 : decode cX7_tellsAtom 217 = .ok (.ireturn, 1) := by decide +kernel
theorem dX7_tellsSum_0 : decode cX7_tellsSum 0 = .ok (.iconst 0, 1) := by decide +kernel
theorem dX7_tellsSum_1 : decode cX7_tellsSum 1 = .ok (.istore_n 2, 1) := by decide +kernel
theorem dX7_tellsSum_2 : decode cX7_tellsSum 2 = .ok (.iload_n 2, 1) := by decide +kernel
theorem dX7_tellsSum_3 : decode cX7_tellsSum 3 = .ok (.sipush 400, 3) := by decide +kernel
theorem dX7_tellsSum_6 : decode cX7_tellsSum 6 = .ok (.if_icmp .ge 103, 3) := by decide +kernel
theorem dX7_tellsSum_9 : decode cX7_tellsSum 9 = .ok (.aload_n 0, 1) := by decide +kernel
theorem dX7_tellsSum_10 : decode cX7_tellsSum 10 = .ok (.getfield 9, 3) := by decide +kernel
theorem dX7_tellsSum_13 : decode cX7_tellsSum 13 = .ok (.iconst 0, 1) := by decide +kernel
theorem dX7_tellsSum_14 : decode cX7_tellsSum 14 = .ok (.sipush 999, 3) := by decide +kernel
theorem dX7_tellsSum_17 : decode cX7_tellsSum 17 = .ok (.invokevirtual 44, 3) := by decide +kernel
theorem dX7_tellsSum_20 : decode cX7_tellsSum 20 = .ok (.istore_n 3, 1) := by decide +kernel
theorem dX7_tellsSum_21 : decode cX7_tellsSum 21 = .ok (.aload_n 0, 1) := by decide +kernel
theorem dX7_tellsSum_22 : decode cX7_tellsSum 22 = .ok (.getfield 9, 3) := by decide +kernel
theorem dX7_tellsSum_25 : decode cX7_tellsSum 25 = .ok (.ldc 83, 2) := by decide +kernel
theorem dX7_tellsSum_27 : decode cX7_tellsSum 27 = .ok (.invokevirtual 37, 3) := by decide +kernel
theorem dX7_tellsSum_30 : decode cX7_tellsSum 30 = .ok (.istore 4, 2) := by decide +kernel
theorem dX7_tellsSum_32 : decode cX7_tellsSum 32 = .ok (.iload_n 3, 1) := by decide +kernel
theorem dX7_tellsSum_33 : decode cX7_tellsSum 33 = .ok (.iconst (-1), 1) := by decide +kernel
theorem dX7_tellsSum_34 : decode cX7_tellsSum 34 = .ok (.if_icmp .ne 11, 3) := by decide +kernel
theorem dX7_tellsSum_37 : decode cX7_tellsSum 37 = .ok (.iload 4, 2) := by decide +kernel
theorem dX7_tellsSum_39 : decode cX7_tellsSum 39 = .ok (.iconst (-1), 1) := by decide +kernel
theorem dX7_tellsSum_40 : decode cX7_tellsSum 40 = .ok (.if_icmp .ne 5, 3) := by decide +kernel
theorem dX7_tellsSum_43 : decode cX7_tellsSum 43 = .ok (.iconst 0, 1) := by decide +kernel
theorem dX7_tellsSum_44 : decode cX7_tellsSum 44 = .ok (.ireturn, 1) := by decide +kernel
theorem dX7_tellsSum_45 : decode cX7_tellsSum 45 = .ok (.aload_n 1, 1) := by decide +kernel
theorem dX7_tellsSum_46 : decode cX7_tellsSum 46 = .ok (.iload_n 3, 1) := by decide +kernel
theorem dX7_tellsSum_47 : decode cX7_tellsSum 47 = .ok (.iconst (-1), 1) := by decide +kernel
theorem dX7_tellsSum_48 : decode cX7_tellsSum 48 = .ok (.if_icmp .eq 7, 3) := by decide +kernel
theorem dX7_tellsSum_51 : decode cX7_tellsSum 51 = .ok (.iload_n 3, 1) := by decide +kernel
theorem dX7_tellsSum_52 : decode cX7_tellsSum 52 = .ok (.goto 9, 3) := by decide +kernel
theorem dX7_tellsSum_55 : decode cX7_tellsSum 55 = .ok (.sipush 1000, 3) := by decide +kernel
theorem dX7_tellsSum_58 : decode cX7_tellsSum 58 = .ok (.iload 4, 2) := by decide +kernel
theorem dX7_tellsSum_60 : decode cX7_tellsSum 60 = .ok (.iadd, 1) := by decide +kernel
theorem dX7_tellsSum_61 : decode cX7_tellsSum 61 = .ok (.invokevirtual 65, 3) := by decide +kernel
theorem dX7_tellsSum_64 : decode cX7_tellsSum 64 = .ok (.aload_n 0, 1) := by decide +kernel
theorem dX7_tellsSum_65 : decode cX7_tellsSum 65 = .ok (.getfield 9, 3) := by decide +kernel
theorem dX7_tellsSum_68 : decode cX7_tellsSum 68 = .ok (.invokevirtual 41, 3) := by decide +kernel
theorem dX7_tellsSum_71 : decode cX7_tellsSum 71 = .ok (.iload_n 2, 1) := by decide +kernel
theorem dX7_tellsSum_72 : decode cX7_tellsSum 72 = .ok (.ifCond .le 10, 3) := by decide +kernel
theorem dX7_tellsSum_75 : decode cX7_tellsSum 75 = .ok (.aload_n 1, 1) := by decide +kernel
theorem dX7_tellsSum_76 : decode cX7_tellsSum 76 = .ok (.sipush 2003, 3) := by decide +kernel
theorem dX7_tellsSum_79 : decode cX7_tellsSum 79 = .ok (.invokevirtual 65, 3) := by decide +kernel
theorem dX7_tellsSum_82 : decode cX7_tellsSum 82 = .ok (.aload_n 0, 1) := by decide +kernel
theorem dX7_tellsSum_83 : decode cX7_tellsSum 83 = .ok (.getfield 9, 3) := by decide +kernel
theorem dX7_tellsSum_86 : decode cX7_tellsSum 86 = .ok (.bipush 43, 2) := by decide +kernel
theorem dX7_tellsSum_88 : decode cX7_tellsSum 88 = .ok (.invokevirtual 75, 3) := by decide +kernel
theorem dX7_tellsSum_91 : decode cX7_tellsSum 91 = .ok (.ifCond .ne 5, 3) := by decide +kernel
theorem dX7_tellsSum_94 : decode cX7_tellsSum 94 = .ok (.iconst 1, 1) := by decide +kernel
theorem dX7_tellsSum_95 : decode cX7_tellsSum 95 = .ok (.ireturn, 1) := by decide +kernel
theorem dX7_tellsSum_96 : decode cX7_tellsSum 96 = .ok (.aload_n 0, 1) := by decide +kernel
theorem dX7_tellsSum_97 : decode cX7_tellsSum 97 = .ok (.getfield 9, 3) := by decide +kernel
theorem dX7_tellsSum_100 : decode cX7_tellsSum 100 = .ok (.invokevirtual 41, 3) := by decide +kernel
theorem dX7_tellsSum_103 : decode cX7_tellsSum 103 = .ok (.iinc 2 1, 3) := by decide +kernel
theorem dX7_tellsSum_106 : decode cX7_tellsSum 106 = .ok (.goto (-104), 3) := by decide +kernel
theorem dX7_tellsSum_109 : decode cX7_tellsSum 109 = .ok (.iconst 0, 1) := by decide +kernel
theorem dX7_tellsSum_110 : decode cX7_tellsSum 110 = .ok (.ireturn, 1) := by decide +kernel
theorem dX8_init_0 : decode cX8_init 0 = .ok (.aload_n 0, 1) := by decide +kernel
theorem dX8_init_1 : decode cX8_init 1 = .ok (.invokespecial 3, 3) := by decide +kernel
theorem dX8_init_4 : decode cX8_init 4 = .ok (.aload_n 0, 1) := by decide +kernel
theorem dX8_init_5 : decode cX8_init 5 = .ok (.bipush 8, 2) := by decide +kernel
theorem dX8_init_7 : decode cX8_init 7 = .ok (.newarray .int, 2) := by decide +kernel
theorem dX8_init_9 : decode cX8_init 9 = .ok (.putfield 9, 3) := by decide +kernel
theorem dX8_init_12 : decode cX8_init 12 = .ok (.aload_n 0, 1) := by decide +kernel
theorem dX8_init_13 : decode cX8_init 13 = .ok (.bipush 8, 2) := by decide +kernel
theorem dX8_init_15 : decode cX8_init 15 = .ok (.newarray .int, 2) := by decide +kernel
theorem dX8_init_17 : decode cX8_init 17 = .ok (.putfield 15, 3) := by decide +kernel
theorem dX8_init_20 : decode cX8_init 20 = .ok (.aload_n 0, 1) := by decide +kernel
theorem dX8_init_21 : decode cX8_init 21 = .ok (.aload_n 1, 1) := by decide +kernel
theorem dX8_init_22 : decode cX8_init 22 = .ok (.putfield 18, 3) := by decide +kernel
theorem dX8_init_25 : decode cX8_init 25 = .ok (.return_, 1) := by decide +kernel
theorem dX8_gladder_0 : decode cX8_gladder 0 = .ok (.aload_n 0, 1) := by decide +kernel
theorem dX8_gladder_1 : decode cX8_gladder 1 = .ok (.getfield 18, 3) := by decide +kernel
theorem dX8_gladder_4 : decode cX8_gladder 4 = .ok (.iload_n 1, 1) := by decide +kernel
theorem dX8_gladder_5 : decode cX8_gladder 5 = .ok (.invokevirtual 22, 3) := by decide +kernel
theorem dX8_gladder_8 : decode cX8_gladder 8 = .ok (.istore_n 2, 1) := by decide +kernel
theorem dX8_gladder_9 : decode cX8_gladder 9 = .ok (.iload_n 2, 1) := by decide +kernel
theorem dX8_gladder_10 : decode cX8_gladder 10 = .ok (.iconst (-1), 1) := by decide +kernel
theorem dX8_gladder_11 : decode cX8_gladder 11 = .ok (.if_icmp .ne 7, 3) := by decide +kernel
theorem dX8_gladder_14 : decode cX8_gladder 14 = .ok (.iconst 0, 1) := by decide +kernel
theorem dX8_gladder_15 : decode cX8_gladder 15 = .ok (.goto 12, 3) := by decide +kernel
theorem dX8_gladder_18 : decode cX8_gladder 18 = .ok (.aload_n 0, 1) := by decide +kernel
theorem dX8_gladder_19 : decode cX8_gladder 19 = .ok (.getfield 18, 3) := by decide +kernel
theorem dX8_gladder_22 : decode cX8_gladder 22 = .ok (.iload_n 1, 1) := by decide +kernel
theorem dX8_gladder_23 : decode cX8_gladder 23 = .ok (.iload_n 2, 1) := by decide +kernel
theorem dX8_gladder_24 : decode cX8_gladder 24 = .ok (.invokevirtual 28, 3) := by decide +kernel
theorem dX8_gladder_27 : decode cX8_gladder 27 = .ok (.istore_n 3, 1) := by decide +kernel
theorem dX8_gladder_28 : decode cX8_gladder 28 = .ok (.iconst 0, 1) := by decide +kernel
theorem dX8_gladder_29 : decode cX8_gladder 29 = .ok (.istore 4, 2) := by decide +kernel
theorem dX8_gladder_31 : decode cX8_gladder 31 = .ok (.iconst 0, 1) := by decide +kernel
theorem dX8_gladder_32 : decode cX8_gladder 32 = .ok (.istore 5, 2) := by decide +kernel
theorem dX8_gladder_34 : decode cX8_gladder 34 = .ok (.iload 5, 2) := by decide +kernel
theorem dX8_gladder_36 : decode cX8_gladder 36 = .ok (.aload_n 0, 1) := by decide +kernel
theorem dX8_gladder_37 : decode cX8_gladder 37 = .ok (.getfield 18, 3) := by decide +kernel
theorem dX8_gladder_40 : decode cX8_gladder 40 = .ok (.getfield 32, 3) := by decide +kernel
theorem dX8_gladder_43 : decode cX8_gladder 43 = .ok (.if_icmp .ge 38, 3) := by decide +kernel
theorem dX8_gladder_46 : decode cX8_gladder 46 = .ok (.iload 5, 2) := by decide +kernel
theorem dX8_gladder_48 : decode cX8_gladder 48 = .ok (.iload_n 1, 1) := by decide +kernel
theorem dX8_gladder_49 : decode cX8_gladder 49 = .ok (.if_icmp .eq 26, 3) := by decide +kernel
theorem dX8_gladder_52 : decode cX8_gladder 52 = .ok (.aload_n 0, 1) := by decide +kernel
theorem dX8_gladder_53 : decode cX8_gladder 53 = .ok (.getfield 18, 3) := by decide +kernel
theorem dX8_gladder_56 : decode cX8_gladder 56 = .ok (.iload_n 1, 1) := by decide +kernel
theorem dX8_gladder_57 : decode cX8_gladder 57 = .ok (.iload 5, 2) := by decide +kernel
theorem dX8_gladder_59 : decode cX8_gladder 59 = .ok (.invokevirtual 28, 3) := by decide +kernel
theorem dX8_gladder_62 : decode cX8_gladder 62 = .ok (.iload_n 3, 1) := by decide +kernel
theorem dX8_gladder_63 : decode cX8_gladder 63 = .ok (.if_icmp .le 12, 3) := by decide +kernel
theorem dX8_gladder_66 : decode cX8_gladder 66 = .ok (.iload 4, 2) := by decide +kernel
theorem dX8_gladder_68 : decode cX8_gladder 68 = .ok (.iconst 1, 1) := by decide +kernel
theorem dX8_gladder_69 : decode cX8_gladder 69 = .ok (.iload 5, 2) := by decide +kernel
theorem dX8_gladder_71 : decode cX8_gladder 71 = .ok (.ishl, 1) := by decide +kernel
theorem dX8_gladder_72 : decode cX8_gladder 72 = .ok (.ior, 1) := by decide +kernel
theorem dX8_gladder_73 : decode cX8_gladder 73 = .ok (.istore 4, 2) := by decide +kernel
theorem dX8_gladder_75 : decode cX8_gladder 75 = .ok (.iinc 5 1, 3) := by decide +kernel
theorem dX8_gladder_78 : decode cX8_gladder 78 = .ok (.goto (-44), 3) := by decide +kernel
theorem dX8_gladder_81 : decode cX8_gladder 81 = .ok (.iload 4, 2) := by decide +kernel
theorem dX8_gladder_83 : decode cX8_gladder 83 = .ok (.ireturn, 1) := by decide +kernel
theorem dX8_areLovers_0 : decode cX8_areLovers 0 = .ok (.aload_n 0, 1) := by decide +kernel
theorem dX8_areLovers_1 : decode cX8_areLovers 1 = .ok (.iload_n 1, 1) := by decide +kernel
theorem dX8_areLovers_2 : decode cX8_areLovers 2 = .ok (.invokevirtual 36, 3) := by decide +kernel
theorem dX8_areLovers_5 : decode cX8_areLovers 5 = .ok (.iconst 1, 1) := by decide +kernel
theorem dX8_areLovers_6 : decode cX8_areLovers 6 = .ok (.iload_n 2, 1) := by decide +kernel
theorem dX8_areLovers_7 : decode cX8_areLovers 7 = .ok (.ishl, 1) := by decide +kernel
theorem dX8_areLovers_8 : decode cX8_areLovers 8 = .ok (.iand, 1) := by decide +kernel
theorem dX8_areLovers_9 : decode cX8_areLovers 9 = .ok (.ifCond .eq 19, 3) := by decide +kernel
theorem dX8_areLovers_12 : decode cX8_areLovers 12 = .ok (.aload_n 0, 1) := by decide +kernel
theorem dX8_areLovers_13 : decode cX8_areLovers 13 = .ok (.iload_n 2, 1) := by decide +kernel
theorem dX8_areLovers_14 : decode cX8_areLovers 14 = .ok (.invokevirtual 36, 3) := by decide +kernel
theorem dX8_areLovers_17 : decode cX8_areLovers 17 = .ok (.iconst 1, 1) := by decide +kernel
theorem dX8_areLovers_18 : decode cX8_areLovers 18 = .ok (.iload_n 1, 1) := by decide +kernel
theorem dX8_areLovers_19 : decode cX8_areLovers 19 = .ok (.ishl, 1) := by decide +kernel
theorem dX8_areLovers_20 : decode cX8_areLovers 20 = .ok (.iand, 1) := by decide +kernel
theorem dX8_areLovers_21 : decode cX8_areLovers 21 = .ok (.ifCond .eq 7, 3) := by decide +kernel
theorem dX8_areLovers_24 : decode cX8_areLovers 24 = .ok (.iconst 1, 1) := by decide +kernel
theorem dX8_areLovers_25 : decode cX8_areLovers 25 = .ok (.goto 4, 3) := by decide +kernel
theorem dX8_areLovers_28 : decode cX8_areLovers 28 = .ok (.iconst 0, 1) := by decide +kernel
theorem dX8_areLovers_29 : decode cX8_areLovers 29 = .ok (.ireturn, 1) := by decide +kernel
theorem dX8_manyLovers_0 : decode cX8_manyLovers 0 = .ok (.iconst 0, 1) := by decide +kernel
theorem dX8_manyLovers_1 : decode cX8_manyLovers 1 = .ok (.istore_n 1, 1) := by decide +kernel
theorem dX8_manyLovers_2 : decode cX8_manyLovers 2 = .ok (.iconst 0, 1) := by decide +kernel
theorem dX8_manyLovers_3 : decode cX8_manyLovers 3 = .ok (.istore_n 2, 1) := by decide +kernel
theorem dX8_manyLovers_4 : decode cX8_manyLovers 4 = .ok (.iload_n 2, 1) := by decide +kernel
theorem dX8_manyLovers_5 : decode cX8_manyLovers 5 = .ok (.aload_n 0, 1) := by decide +kernel
theorem dX8_manyLovers_6 : decode cX8_manyLovers 6 = .ok (.getfield 18, 3) := by decide +kernel
theorem dX8_manyLovers_9 : decode cX8_manyLovers 9 = .ok (.getfield 32, 3) := by decide +kernel
theorem dX8_manyLovers_12 : decode cX8_manyLovers 12 = .ok (.if_icmp .ge 42, 3) := by decide +kernel
theorem dX8_manyLovers_15 : decode cX8_manyLovers 15 = .ok (.iload_n 2, 1) := by decide +kernel
theorem dX8_manyLovers_16 : decode cX8_manyLovers 16 = .ok (.iconst 1, 1) := by decide +kernel
theorem dX8_manyLovers_17 : decode cX8_manyLovers 17 = .ok (.iadd, 1) := by decide +kernel
theorem dX8_manyLovers_18 : decode cX8_manyLovers 18 = .ok (.istore_n 3, 1) := by decide +kernel
theorem dX8_manyLovers_19 : decode cX8_manyLovers 19 = .ok (.iload_n 3, 1) := by decide +kernel
theorem dX8_manyLovers_20 : decode cX8_manyLovers 20 = .ok (.aload_n 0, 1) := by decide +kernel
theorem dX8_manyLovers_21 : decode cX8_manyLovers 21 = .ok (.getfield 18, 3) := by decide +kernel
theorem dX8_manyLovers_24 : decode cX8_manyLovers 24 = .ok (.getfield 32, 3) := by decide +kernel
theorem dX8_manyLovers_27 : decode cX8_manyLovers 27 = .ok (.if_icmp .ge 21, 3) := by decide +kernel
theorem dX8_manyLovers_30 : decode cX8_manyLovers 30 = .ok (.aload_n 0, 1) := by decide +kernel
theorem dX8_manyLovers_31 : decode cX8_manyLovers 31 = .ok (.iload_n 2, 1) := by decide +kernel
theorem dX8_manyLovers_32 : decode cX8_manyLovers 32 = .ok (.iload_n 3, 1) := by decide +kernel
theorem dX8_manyLovers_33 : decode cX8_manyLovers 33 = .ok (.invokevirtual 39, 3) := by decide +kernel
theorem dX8_manyLovers_36 : decode cX8_manyLovers 36 = .ok (.ifCond .eq 6, 3) := by decide +kernel
theorem dX8_manyLovers_39 : decode cX8_manyLovers 39 = .ok (.iinc 1 1, 3) := by decide +kernel
theorem dX8_manyLovers_42 : decode cX8_manyLovers 42 = .ok (.iinc 3 1, 3) := by decide +kernel
theorem dX8_manyLovers_45 : decode cX8_manyLovers 45 = .ok (.goto (-26), 3) := by decide +kernel
theorem dX8_manyLovers_48 : decode cX8_manyLovers 48 = .ok (.iinc 2 1, 3) := by decide +kernel
theorem dX8_manyLovers_51 : decode cX8_manyLovers 51 = .ok (.goto (-47), 3) := by decide +kernel
theorem dX8_manyLovers_54 : decode cX8_manyLovers 54 = .ok (.iload_n 1, 1) := by decide +kernel
theorem dX8_manyLovers_55 : decode cX8_manyLovers 55 = .ok (.ireturn, 1) := by decide +kernel
theorem dX8_firstLovers_0 : decode cX8_firstLovers 0 = .ok (.iconst 0, 1) := by decide +kernel
theorem dX8_firstLovers_1 : decode cX8_firstLovers 1 = .ok (.istore_n 1, 1) := by decide +kernel
theorem dX8_firstLovers_2 : decode cX8_firstLovers 2 = .ok (.iload_n 1, 1) := by decide +kernel
theorem dX8_firstLovers_3 : decode cX8_firstLovers 3 = .ok (.aload_n 0, 1) := by decide +kernel
theorem dX8_firstLovers_4 : decode cX8_firstLovers 4 = .ok (.getfield 18, 3) := by decide +kernel
theorem dX8_firstLovers_7 : decode cX8_firstLovers 7 = .ok (.getfield 32, 3) := by decide +kernel
theorem dX8_firstLovers_10 : decode cX8_firstLovers 10 = .ok (.if_icmp .ge 46, 3) := by decide +kernel
theorem dX8_firstLovers_13 : decode cX8_firstLovers 13 = .ok (.iload_n 1, 1) := by decide +kernel
theorem dX8_firstLovers_14 : decode cX8_firstLovers 14 = .ok (.iconst 1, 1) := by decide +kernel
theorem dX8_firstLovers_15 : decode cX8_firstLovers 15 = .ok (.iadd, 1) := by decide +kernel
theorem dX8_firstLovers_16 : decode cX8_firstLovers 16 = .ok (.istore_n 2, 1) := by decide +kernel
theorem dX8_firstLovers_17 : decode cX8_firstLovers 17 = .ok (.iload_n 2, 1) := by decide +kernel
theorem dX8_firstLovers_18 : decode cX8_firstLovers 18 = .ok (.aload_n 0, 1) := by decide +kernel
theorem dX8_firstLovers_19 : decode cX8_firstLovers 19 = .ok (.getfield 18, 3) := by decide +kernel
theorem dX8_firstLovers_22 : decode cX8_firstLovers 22 = .ok (.getfield 32, 3) := by decide +kernel
theorem dX8_firstLovers_25 : decode cX8_firstLovers 25 = .ok (.if_icmp .ge 25, 3) := by decide +kernel
theorem dX8_firstLovers_28 : decode cX8_firstLovers 28 = .ok (.aload_n 0, 1) := by decide +kernel
theorem dX8_firstLovers_29 : decode cX8_firstLovers 29 = .ok (.iload_n 1, 1) := by decide +kernel
theorem dX8_firstLovers_30 : decode cX8_firstLovers 30 = .ok (.iload_n 2, 1) := by decide +kernel
theorem dX8_firstLovers_31 : decode cX8_firstLovers 31 = .ok (.invokevirtual 39, 3) := by decide +kernel
theorem dX8_firstLovers_34 : decode cX8_firstLovers 34 = .ok (.ifCond .eq 10, 3) := by decide +kernel
theorem dX8_firstLovers_37 : decode cX8_firstLovers 37 = .ok (.bipush 10, 2) := by decide +kernel
theorem dX8_firstLovers_39 : decode cX8_firstLovers 39 = .ok (.iload_n 1, 1) := by decide +kernel
theorem dX8_firstLovers_40 : decode cX8_firstLovers 40 = .ok (.imul, 1) := by decide +kernel
theorem dX8_firstLovers_41 : decode cX8_firstLovers 41 = .ok (.iload_n 2, 1) := by decide +kernel
theorem dX8_firstLovers_42 : decode cX8_firstLovers 42 = .ok (.iadd, 1) := by decide +kernel
theorem dX8_firstLovers_43 : decode cX8_firstLovers 43 = .ok (.ireturn, 1) := by decide +kernel
theorem dX8_firstLovers_44 : decode cX8_firstLovers 44 = .ok (.iinc 2 1, 3) := by decide +kernel
theorem dX8_firstLovers_47 : decode cX8_firstLovers 47 = .ok (.goto (-30), 3) := by decide +kernel
theorem dX8_firstLovers_50 : decode cX8_firstLovers 50 = .ok (.iinc 1 1, 3) := by decide +kernel
theorem dX8_firstLovers_53 : decode cX8_firstLovers 53 = .ok (.goto (-51), 3) := by decide +kernel
theorem dX8_firstLovers_56 : decode cX8_firstLovers 56 = .ok (.iconst (-1), 1) := by decide +kernel
theorem dX8_firstLovers_57 : decode cX8_firstLovers 57 = .ok (.ireturn, 1) := by decide +kernel
theorem dX8_settle_0 : decode cX8_settle 0 = .ok (.aload_n 0, 1) := by decide +kernel
theorem dX8_settle_1 : decode cX8_settle 1 = .ok (.iconst 0, 1) := by decide +kernel
theorem dX8_settle_2 : decode cX8_settle 2 = .ok (.putfield 43, 3) := by decide +kernel
theorem dX8_settle_5 : decode cX8_settle 5 = .ok (.iconst 0, 1) := by decide +kernel
theorem dX8_settle_6 : decode cX8_settle 6 = .ok (.istore_n 1, 1) := by decide +kernel
theorem dX8_settle_7 : decode cX8_settle 7 = .ok (.iload_n 1, 1) := by decide +kernel
theorem dX8_settle_8 : decode cX8_settle 8 = .ok (.bipush 8, 2) := by decide +kernel
theorem dX8_settle_10 : decode cX8_settle 10 = .ok (.if_icmp .ge 16, 3) := by decide +kernel
theorem dX8_settle_13 : decode cX8_settle 13 = .ok (.aload_n 0, 1) := by decide +kernel
theorem dX8_settle_14 : decode cX8_settle 14 = .ok (.getfield 9, 3) := by decide +kernel
theorem dX8_settle_17 : decode cX8_settle 17 = .ok (.iload_n 1, 1) := by decide +kernel
theorem dX8_settle_18 : decode cX8_settle 18 = .ok (.iconst (-1), 1) := by decide +kernel
theorem dX8_settle_19 : decode cX8_settle 19 = .ok (.iastore, 1) := by decide +kernel
theorem dX8_settle_20 : decode cX8_settle 20 = .ok (.iinc 1 1, 3) := by decide +kernel
theorem dX8_settle_23 : decode cX8_settle 23 = .ok (.goto (-16), 3) := by decide +kernel
theorem dX8_settle_26 : decode cX8_settle 26 = .ok (.aload_n 0, 1) := by decide +kernel
theorem dX8_settle_27 : decode cX8_settle 27 = .ok (.iconst 0, 1) := by decide +kernel
theorem dX8_settle_28 : decode cX8_settle 28 = .ok (.aload_n 0, 1) := by decide +kernel
theorem dX8_settle_29 : decode cX8_settle 29 = .ok (.getfield 18, 3) := by decide +kernel
theorem dX8_settle_32 : decode cX8_settle 32 = .ok (.getfield 32, 3) := by decide +kernel
theorem dX8_settle_35 : decode cX8_settle 35 = .ok (.iconst 2, 1) := by decide +kernel
theorem dX8_settle_36 : decode cX8_settle 36 = .ok (.irem, 1) := by decide +kernel
theorem dX8_settle_37 : decode cX8_settle 37 = .ok (.iconst 1, 1) := by decide +kernel
theorem dX8_settle_38 : decode cX8_settle 38 = .ok (.if_icmp .ne 7, 3) := by decide +kernel
theorem dX8_settle_41 : decode cX8_settle 41 = .ok (.iconst 1, 1) := by decide +kernel
theorem dX8_settle_42 : decode cX8_settle 42 = .ok (.goto 4, 3) := by decide +kernel
theorem dX8_settle_45 : decode cX8_settle 45 = .ok (.iconst 0, 1) := by decide +kernel
theorem dX8_settle_46 : decode cX8_settle 46 = .ok (.invokevirtual 46, 3) := by decide +kernel
theorem dX8_settle_49 : decode cX8_settle 49 = .ok (.return_, 1) := by decide +kernel
theorem dX8_place_0 : decode cX8_place 0 = .ok (.iload_n 1, 1) := by decide +kernel
theorem dX8_place_1 : decode cX8_place 1 = .ok (.aload_n 0, 1) := by decide +kernel
theorem dX8_place_2 : decode cX8_place 2 = .ok (.getfield 18, 3) := by decide +kernel
theorem dX8_place_5 : decode cX8_place 5 = .ok (.getfield 32, 3) := by decide +kernel
theorem dX8_place_8 : decode cX8_place 8 = .ok (.if_icmp .lt 8, 3) := by decide +kernel
theorem dX8_place_11 : decode cX8_place 11 = .ok (.aload_n 0, 1) := by decide +kernel
theorem dX8_place_12 : decode cX8_place 12 = .ok (.invokevirtual 50, 3) := by decide +kernel
theorem dX8_place_15 : decode cX8_place 15 = .ok (.return_, 1) := by decide +kernel
theorem dX8_place_16 : decode cX8_place 16 = .ok (.aload_n 0, 1) := by decide +kernel
theorem dX8_place_17 : decode cX8_place 17 = .ok (.getfield 9, 3) := by decide +kernel
theorem dX8_place_20 : decode cX8_place 20 = .ok (.iload_n 1, 1) := by decide +kernel
theorem dX8_place_21 : decode cX8_place 21 = .ok (.iaload, 1) := by decide +kernel
theorem dX8_place_22 : decode cX8_place 22 = .ok (.iconst (-1), 1) := by decide +kernel
theorem dX8_place_23 : decode cX8_place 23 = .ok (.if_icmp .eq 12, 3) := by decide +kernel
theorem dX8_place_26 : decode cX8_place 26 = .ok (.aload_n 0, 1) := by decide +kernel
theorem dX8_place_27 : decode cX8_place 27 = .ok (.iload_n 1, 1) := by decide +kernel
theorem dX8_place_28 : decode cX8_place 28 = .ok (.iconst 1, 1) := by decide +kernel
theorem dX8_place_29 : decode cX8_place 29 = .ok (.iadd, 1) := by decide +kernel
theorem dX8_place_30 : decode cX8_place 30 = .ok (.iload_n 2, 1) := by decide +kernel
theorem dX8_place_31 : decode cX8_place 31 = .ok (.invokevirtual 46, 3) := by decide +kernel
theorem dX8_place_34 : decode cX8_place 34 = .ok (.return_, 1) := by decide +kernel
theorem dX8_place_35 : decode cX8_place 35 = .ok (.iload_n 2, 1) := by decide +kernel
theorem dX8_place_36 : decode cX8_place 36 = .ok (.ifCond .eq 25, 3) := by decide +kernel
theorem dX8_place_39 : decode cX8_place 39 = .ok (.aload_n 0, 1) := by decide +kernel
theorem dX8_place_40 : decode cX8_place 40 = .ok (.getfield 9, 3) := by decide +kernel
theorem dX8_place_43 : decode cX8_place 43 = .ok (.iload_n 1, 1) := by decide +kernel
theorem dX8_place_44 : decode cX8_place 44 = .ok (.iload_n 1, 1) := by decide +kernel
theorem dX8_place_45 : decode cX8_place 45 = .ok (.iastore, 1) := by decide +kernel
theorem dX8_place_46 : decode cX8_place 46 = .ok (.aload_n 0, 1) := by decide +kernel
theorem dX8_place_47 : decode cX8_place 47 = .ok (.iload_n 1, 1) := by decide +kernel
theorem dX8_place_48 : decode cX8_place 48 = .ok (.iconst 1, 1) := by decide +kernel
theorem dX8_place_49 : decode cX8_place 49 = .ok (.iadd, 1) := by decide +kernel
theorem dX8_place_50 : decode cX8_place 50 = .ok (.iconst 0, 1) := by decide +kernel
theorem dX8_place_51 : decode cX8_place 51 = .ok (.invokevirtual 46, 3) := by decide +kernel
theorem dX8_place_54 : decode cX8_place 54 = .ok (.aload_n 0, 1) := by decide +kernel
theorem dX8_place_55 : decode cX8_place 55 = .ok (.getfield 9, 3) := by decide +kernel
theorem dX8_place_58 : decode cX8_place 58 = .ok (.iload_n 1, 1) := by decide +kernel
theorem dX8_place_59 : decode cX8_place 59 = .ok (.iconst (-1), 1) := by decide +kernel
theorem dX8_place_60 : decode cX8_place 60 = .ok (.iastore, 1) := by decide +kernel
theorem dX8_place_61 : decode cX8_place 61 = .ok (.iload_n 1, 1) := by decide +kernel
theorem dX8_place_62 : decode cX8_place 62 = .ok (.iconst 1, 1) := by decide +kernel
theorem dX8_place_63 : decode cX8_place 63 = .ok (.iadd, 1) := by decide +kernel
theorem dX8_place_64 : decode cX8_place 64 = .ok (.istore_n 3, 1) := by decide +kernel
theorem dX8_place_65 : decode cX8_place 65 = .ok (.iload_n 3, 1) := by decide +kernel
theorem dX8_place_66 : decode cX8_place 66 = .ok (.aload_n 0, 1) := by decide +kernel
theorem dX8_place_67 : decode cX8_place 67 = .ok (.getfield 18, 3) := by decide +kernel
theorem dX8_place_70 : decode cX8_place 70 = .ok (.getfield 32, 3) := by decide +kernel
theorem dX8_place_73 : decode cX8_place 73 = .ok (.if_icmp .ge 55, 3) := by decide +kernel
theorem dX8_place_76 : decode cX8_place 76 = .ok (.aload_n 0, 1) := by decide +kernel
theorem dX8_place_77 : decode cX8_place 77 = .ok (.getfield 9, 3) := by decide +kernel
theorem dX8_place_80 : decode cX8_place 80 = .ok (.iload_n 3, 1) := by decide +kernel
theorem dX8_place_81 : decode cX8_place 81 = .ok (.iaload, 1) := by decide +kernel
theorem dX8_place_82 : decode cX8_place 82 = .ok (.iconst (-1), 1) := by decide +kernel
theorem dX8_place_83 : decode cX8_place 83 = .ok (.if_icmp .ne 39, 3) := by decide +kernel
theorem dX8_place_86 : decode cX8_place 86 = .ok (.aload_n 0, 1) := by decide +kernel
theorem dX8_place_87 : decode cX8_place 87 = .ok (.getfield 9, 3) := by decide +kernel
theorem dX8_place_90 : decode cX8_place 90 = .ok (.iload_n 1, 1) := by decide +kernel
theorem dX8_place_91 : decode cX8_place 91 = .ok (.iload_n 3, 1) := by decide +kernel
theorem dX8_place_92 : decode cX8_place 92 = .ok (.iastore, 1) := by decide +kernel
theorem dX8_place_93 : decode cX8_place 93 = .ok (.aload_n 0, 1) := by decide +kernel
theorem dX8_place_94 : decode cX8_place 94 = .ok (.getfield 9, 3) := by decide +kernel
theorem dX8_place_97 : decode cX8_place 97 = .ok (.iload_n 3, 1) := by decide +kernel
theorem dX8_place_98 : decode cX8_place 98 = .ok (.iload_n 1, 1) := by decide +kernel
theorem dX8_place_99 : decode cX8_place 99 = .ok (.iastore, 1) := by decide +kernel
theorem dX8_place_100 : decode cX8_place 100 = .ok (.aload_n 0, 1) := by decide +kernel
theorem dX8_place_101 : decode cX8_place 101 = .ok (.iload_n 1, 1) := by decide +kernel
theorem dX8_place_102 : decode cX8_place 102 = .ok (.iconst 1, 1) := by decide +kernel
theorem dX8_place_103 : decode cX8_place 103 = .ok (.iadd, 1) := by decide +kernel
theorem dX8_place_104 : decode cX8_place 104 = .ok (.iload_n 2, 1) := by decide +kernel
theorem dX8_place_105 : decode cX8_place 105 = .ok (.invokevirtual 46, 3) := by decide +kernel
theorem dX8_place_108 : decode cX8_place 108 = .ok (.aload_n 0, 1) := by decide +kernel
theorem dX8_place_109 : decode cX8_place 109 = .ok (.getfield 9, 3) := by decide +kernel
theorem dX8_place_112 : decode cX8_place 112 = .ok (.iload_n 1, 1) := by decide +kernel
theorem dX8_place_113 : decode cX8_place 113 = .ok (.iconst (-1), 1) := by decide +kernel
theorem dX8_place_114 : decode cX8_place 114 = .ok (.iastore, 1) := by decide +kernel
theorem dX8_place_115 : decode cX8_place 115 = .ok (.aload_n 0, 1) := by decide +kernel
theorem dX8_place_116 : decode cX8_place 116 = .ok (.getfield 9, 3) := by decide +kernel
theorem dX8_place_119 : decode cX8_place 119 = .ok (.iload_n 3, 1) := by decide +kernel
theorem dX8_place_120 : decode cX8_place 120 = .ok (.iconst (-1), 1) := by decide +kernel
theorem dX8_place_121 : decode cX8_place 121 = .ok (.iastore, 1) := by decide +kernel
theorem dX8_place_122 : decode cX8_place 122 = .ok (.iinc 3 1, 3) := by decide +kernel
theorem dX8_place_125 : decode cX8_place 125 = .ok (.goto (-60), 3) := by decide +kernel
theorem dX8_place_128 : decode cX8_place 128 = .ok (.return_, 1) := by decide +kernel
theorem dX8_keepIfSteady_0 : decode cX8_keepIfSteady 0 = .ok (.iconst 0, 1) := by decide +kernel
theorem dX8_keepIfSteady_1 : decode cX8_keepIfSteady 1 = .ok (.istore_n 1, 1) := by decide +kernel
theorem dX8_keepIfSteady_2 : decode cX8_keepIfSteady 2 = .ok (.iload_n 1, 1) := by decide +kernel
theorem dX8_keepIfSteady_3 : decode cX8_keepIfSteady 3 = .ok (.aload_n 0, 1) := by decide +kernel
theorem dX8_keepIfSteady_4 : decode cX8_keepIfSteady 4 = .ok (.getfield 18, 3) := by decide +kernel
theorem dX8_keepIfSteady_7 : decode cX8_keepIfSteady 7 = .ok (.getfield 32, 3) := by decide +kernel
theorem dX8_keepIfSteady_10 : decode cX8_keepIfSteady 10 = .ok (.if_icmp .ge 49, 3) := by decide +kernel
theorem dX8_keepIfSteady_13 : decode cX8_keepIfSteady 13 = .ok (.iload_n 1, 1) := by decide +kernel
theorem dX8_keepIfSteady_14 : decode cX8_keepIfSteady 14 = .ok (.iconst 1, 1) := by decide +kernel
theorem dX8_keepIfSteady_15 : decode cX8_keepIfSteady 15 = .ok (.iadd, 1) := by decide +kernel
theorem dX8_keepIfSteady_16 : decode cX8_keepIfSteady 16 = .ok (.istore_n 2, 1) := by decide +kernel
theorem dX8_keepIfSteady_17 : decode cX8_keepIfSteady 17 = .ok (.iload_n 2, 1) := by decide +kernel
theorem dX8_keepIfSteady_18 : decode cX8_keepIfSteady 18 = .ok (.aload_n 0, 1) := by decide +kernel
theorem dX8_keepIfSteady_19 : decode cX8_keepIfSteady 19 = .ok (.getfield 18, 3) := by decide +kernel
theorem dX8_keepIfSteady_22 : decode cX8_keepIfSteady 22 = .ok (.getfield 32, 3) := by decide +kernel
theorem dX8_keepIfSteady_25 : decode cX8_keepIfSteady 25 = .ok (.if_icmp .ge 28, 3) := by decide +kernel
theorem dX8_keepIfSteady_28 : decode cX8_keepIfSteady 28 = .ok (.aload_n 0, 1) := by decide +kernel
theorem dX8_keepIfSteady_29 : decode cX8_keepIfSteady 29 = .ok (.iload_n 1, 1) := by decide +kernel
theorem dX8_keepIfSteady_30 : decode cX8_keepIfSteady 30 = .ok (.iload_n 2, 1) := by decide +kernel
theorem dX8_keepIfSteady_31 : decode cX8_keepIfSteady 31 = .ok (.invokevirtual 53, 3) := by decide +kernel
theorem dX8_keepIfSteady_34 : decode cX8_keepIfSteady 34 = .ok (.ifCond .eq 13, 3) := by decide +kernel
theorem dX8_keepIfSteady_37 : decode cX8_keepIfSteady 37 = .ok (.aload_n 0, 1) := by decide +kernel
theorem dX8_keepIfSteady_38 : decode cX8_keepIfSteady 38 = .ok (.iload_n 2, 1) := by decide +kernel
theorem dX8_keepIfSteady_39 : decode cX8_keepIfSteady 39 = .ok (.iload_n 1, 1) := by decide +kernel
theorem dX8_keepIfSteady_40 : decode cX8_keepIfSteady 40 = .ok (.invokevirtual 53, 3) := by decide +kernel
theorem dX8_keepIfSteady_43 : decode cX8_keepIfSteady 43 = .ok (.ifCond .eq 4, 3) := by decide +kernel
theorem dX8_keepIfSteady_46 : decode cX8_keepIfSteady 46 = .ok (.return_, 1) := by decide +kernel
theorem dX8_keepIfSteady_47 : decode cX8_keepIfSteady 47 = .ok (.iinc 2 1, 3) := by decide +kernel
theorem dX8_keepIfSteady_50 : decode cX8_keepIfSteady 50 = .ok (.goto (-33), 3) := by decide +kernel
theorem dX8_keepIfSteady_53 : decode cX8_keepIfSteady 53 = .ok (.iinc 1 1, 3) := by decide +kernel
theorem dX8_keepIfSteady_56 : decode cX8_keepIfSteady 56 = .ok (.goto (-54), 3) := by decide +kernel
theorem dX8_keepIfSteady_59 : decode cX8_keepIfSteady 59 = .ok (.aload_n 0, 1) := by decide +kernel
theorem dX8_keepIfSteady_60 : decode cX8_keepIfSteady 60 = .ok (.getfield 43, 3) := by decide +kernel
theorem dX8_keepIfSteady_63 : decode cX8_keepIfSteady 63 = .ok (.ifCond .ne 21, 3) := by decide +kernel
theorem dX8_keepIfSteady_66 : decode cX8_keepIfSteady 66 = .ok (.aload_n 0, 1) := by decide +kernel
theorem dX8_keepIfSteady_67 : decode cX8_keepIfSteady 67 = .ok (.getfield 9, 3) := by decide +kernel
theorem dX8_keepIfSteady_70 : decode cX8_keepIfSteady 70 = .ok (.iconst 0, 1) := by decide +kernel
theorem dX8_keepIfSteady_71 : decode cX8_keepIfSteady 71 = .ok (.aload_n 0, 1) := by decide +kernel
theorem dX8_keepIfSteady_72 : decode cX8_keepIfSteady 72 = .ok (.getfield 15, 3) := by decide +kernel
theorem dX8_keepIfSteady_75 : decode cX8_keepIfSteady 75 = .ok (.iconst 0, 1) := by decide +kernel
theorem dX8_keepIfSteady_76 : decode cX8_keepIfSteady 76 = .ok (.aload_n 0, 1) := by decide +kernel
theorem dX8_keepIfSteady_77 : decode cX8_keepIfSteady 77 = .ok (.getfield 9, 3) := by decide +kernel
theorem dX8_keepIfSteady_80 : decode cX8_keepIfSteady 80 = .ok (.arraylength, 1) := by decide +kernel
theorem dX8_keepIfSteady_81 : decode cX8_keepIfSteady 81 = .ok (.invokestatic 56, 3) := by decide +kernel
theorem dX8_keepIfSteady_84 : decode cX8_keepIfSteady 84 = .ok (.aload_n 0, 1) := by decide +kernel
theorem dX8_keepIfSteady_85 : decode cX8_keepIfSteady 85 = .ok (.dup, 1) := by decide +kernel
theorem dX8_keepIfSteady_86 : decode cX8_keepIfSteady 86 = .ok (.getfield 43, 3) := by decide +kernel
theorem dX8_keepIfSteady_89 : decode cX8_keepIfSteady 89 = .ok (.iconst 1, 1) := by decide +kernel
theorem dX8_keepIfSteady_90 : decode cX8_keepIfSteady 90 = .ok (.iadd, 1) := by decide +kernel
theorem dX8_keepIfSteady_91 : decode cX8_keepIfSteady 91 = .ok (.putfield 43, 3) := by decide +kernel
theorem dX8_keepIfSteady_94 : decode cX8_keepIfSteady 94 = .ok (.return_, 1) := by decide +kernel
theorem dX8_wouldLeave_0 : decode cX8_wouldLeave 0 = .ok (.aload_n 0, 1) := by decide +kernel
theorem dX8_wouldLeave_1 : decode cX8_wouldLeave 1 = .ok (.getfield 9, 3) := by decide +kernel
theorem dX8_wouldLeave_4 : decode cX8_wouldLeave 4 = .ok (.iload_n 1, 1) := by decide +kernel
theorem dX8_wouldLeave_5 : decode cX8_wouldLeave 5 = .ok (.iaload, 1) := by decide +kernel
theorem dX8_wouldLeave_6 : decode cX8_wouldLeave 6 = .ok (.iload_n 1, 1) := by decide +kernel
theorem dX8_wouldLeave_7 : decode cX8_wouldLeave 7 = .ok (.if_icmp .ne 7, 3) := by decide +kernel
theorem dX8_wouldLeave_10 : decode cX8_wouldLeave 10 = .ok (.iconst (-1), 1) := by decide +kernel
theorem dX8_wouldLeave_11 : decode cX8_wouldLeave 11 = .ok (.goto 17, 3) := by decide +kernel
theorem dX8_wouldLeave_14 : decode cX8_wouldLeave 14 = .ok (.aload_n 0, 1) := by decide +kernel
theorem dX8_wouldLeave_15 : decode cX8_wouldLeave 15 = .ok (.getfield 18, 3) := by decide +kernel
theorem dX8_wouldLeave_18 : decode cX8_wouldLeave 18 = .ok (.iload_n 1, 1) := by decide +kernel
theorem dX8_wouldLeave_19 : decode cX8_wouldLeave 19 = .ok (.aload_n 0, 1) := by decide +kernel
theorem dX8_wouldLeave_20 : decode cX8_wouldLeave 20 = .ok (.getfield 9, 3) := by decide +kernel
theorem dX8_wouldLeave_23 : decode cX8_wouldLeave 23 = .ok (.iload_n 1, 1) := by decide +kernel
theorem dX8_wouldLeave_24 : decode cX8_wouldLeave 24 = .ok (.iaload, 1) := by decide +kernel
theorem dX8_wouldLeave_25 : decode cX8_wouldLeave 25 = .ok (.invokevirtual 28, 3) := by decide +kernel
theorem dX8_wouldLeave_28 : decode cX8_wouldLeave 28 = .ok (.istore_n 3, 1) := by decide +kernel
theorem dX8_wouldLeave_29 : decode cX8_wouldLeave 29 = .ok (.aload_n 0, 1) := by decide +kernel
theorem dX8_wouldLeave_30 : decode cX8_wouldLeave 30 = .ok (.getfield 18, 3) := by decide +kernel
theorem dX8_wouldLeave_33 : decode cX8_wouldLeave 33 = .ok (.iload_n 1, 1) := by decide +kernel
theorem dX8_wouldLeave_34 : decode cX8_wouldLeave 34 = .ok (.iload_n 2, 1) := by decide +kernel
theorem dX8_wouldLeave_35 : decode cX8_wouldLeave 35 = .ok (.invokevirtual 28, 3) := by decide +kernel
theorem dX8_wouldLeave_38 : decode cX8_wouldLeave 38 = .ok (.iload_n 3, 1) := by decide +kernel
theorem dX8_wouldLeave_39 : decode cX8_wouldLeave 39 = .ok (.if_icmp .le 7, 3) := by decide +kernel
theorem dX8_wouldLeave_42 : decode cX8_wouldLeave 42 = .ok (.iconst 1, 1) := by decide +kernel
theorem dX8_wouldLeave_43 : decode cX8_wouldLeave 43 = .ok (.goto 4, 3) := by decide +kernel
theorem dX8_wouldLeave_46 : decode cX8_wouldLeave 46 = .ok (.iconst 0, 1) := by decide +kernel
theorem dX8_wouldLeave_47 : decode cX8_wouldLeave 47 = .ok (.ireturn, 1) := by decide +kernel
theorem dX8_greatest_0 : decode cX8_greatest 0 = .ok (.aload_n 0, 1) := by decide +kernel
theorem dX8_greatest_1 : decode cX8_greatest 1 = .ok (.iconst 0, 1) := by decide +kernel
theorem dX8_greatest_2 : decode cX8_greatest 2 = .ok (.aload_n 0, 1) := by decide +kernel
theorem dX8_greatest_3 : decode cX8_greatest 3 = .ok (.getfield 18, 3) := by decide +kernel
theorem dX8_greatest_6 : decode cX8_greatest 6 = .ok (.invokevirtual 62, 3) := by decide +kernel
theorem dX8_greatest_9 : decode cX8_greatest 9 = .ok (.invokevirtual 66, 3) := by decide +kernel
theorem dX8_greatest_12 : decode cX8_greatest 12 = .ok (.ireturn, 1) := by decide +kernel
theorem dX8_greatestFrom_0 : decode cX8_greatestFrom 0 = .ok (.iload_n 1, 1) := by decide +kernel
theorem dX8_greatestFrom_1 : decode cX8_greatestFrom 1 = .ok (.aload_n 0, 1) := by decide +kernel
theorem dX8_greatestFrom_2 : decode cX8_greatestFrom 2 = .ok (.getfield 18, 3) := by decide +kernel
theorem dX8_greatestFrom_5 : decode cX8_greatestFrom 5 = .ok (.getfield 32, 3) := by decide +kernel
theorem dX8_greatestFrom_8 : decode cX8_greatestFrom 8 = .ok (.if_icmp .lt 5, 3) := by decide +kernel
theorem dX8_greatestFrom_11 : decode cX8_greatestFrom 11 = .ok (.iconst 0, 1) := by decide +kernel
theorem dX8_greatestFrom_12 : decode cX8_greatestFrom 12 = .ok (.ireturn, 1) := by decide +kernel
theorem dX8_greatestFrom_13 : decode cX8_greatestFrom 13 = .ok (.aload_n 0, 1) := by decide +kernel
theorem dX8_greatestFrom_14 : decode cX8_greatestFrom 14 = .ok (.iload_n 1, 1) := by decide +kernel
theorem dX8_greatestFrom_15 : decode cX8_greatestFrom 15 = .ok (.iconst 1, 1) := by decide +kernel
theorem dX8_greatestFrom_16 : decode cX8_greatestFrom 16 = .ok (.iadd, 1) := by decide +kernel
theorem dX8_greatestFrom_17 : decode cX8_greatestFrom 17 = .ok (.iload_n 2, 1) := by decide +kernel
theorem dX8_greatestFrom_18 : decode cX8_greatestFrom 18 = .ok (.invokevirtual 66, 3) := by decide +kernel
theorem dX8_greatestFrom_21 : decode cX8_greatestFrom 21 = .ok (.istore_n 3, 1) := by decide +kernel
theorem dX8_greatestFrom_22 : decode cX8_greatestFrom 22 = .ok (.iload_n 2, 1) := by decide +kernel
theorem dX8_greatestFrom_23 : decode cX8_greatestFrom 23 = .ok (.iconst 1, 1) := by decide +kernel
theorem dX8_greatestFrom_24 : decode cX8_greatestFrom 24 = .ok (.iload_n 1, 1) := by decide +kernel
theorem dX8_greatestFrom_25 : decode cX8_greatestFrom 25 = .ok (.ishl, 1) := by decide +kernel
theorem dX8_greatestFrom_26 : decode cX8_greatestFrom 26 = .ok (.iand, 1) := by decide +kernel
theorem dX8_greatestFrom_27 : decode cX8_greatestFrom 27 = .ok (.ifCond .ne 5, 3) := by decide +kernel
theorem dX8_greatestFrom_30 : decode cX8_greatestFrom 30 = .ok (.iload_n 3, 1) := by decide +kernel
theorem dX8_greatestFrom_31 : decode cX8_greatestFrom 31 = .ok (.ireturn, 1) := by decide +kernel
theorem dX8_greatestFrom_32 : decode cX8_greatestFrom 32 = .ok (.iload_n 1, 1) := by decide +kernel
theorem dX8_greatestFrom_33 : decode cX8_greatestFrom 33 = .ok (.iconst 1, 1) := by decide +kernel
theorem dX8_greatestFrom_34 : decode cX8_greatestFrom 34 = .ok (.iadd, 1) := by decide +kernel
theorem dX8_greatestFrom_35 : decode cX8_greatestFrom 35 = .ok (.istore 4, 2) := by decide +kernel
theorem dX8_greatestFrom_37 : decode cX8_greatestFrom 37 = .ok (.iload 4, 2) := by decide +kernel
theorem dX8_greatestFrom_39 : decode cX8_greatestFrom 39 = .ok (.aload_n 0, 1) := by decide +kernel
theorem dX8_greatestFrom_40 : decode cX8_greatestFrom 40 = .ok (.getfield 18, 3) := by decide +kernel
theorem dX8_greatestFrom_43 : decode cX8_greatestFrom 43 = .ok (.getfield 32, 3) := by decide +kernel
theorem dX8_greatestFrom_46 : decode cX8_greatestFrom 46 = .ok (.if_icmp .ge 64, 3) := by decide +kernel
theorem dX8_greatestFrom_49 : decode cX8_greatestFrom 49 = .ok (.iload_n 2, 1) := by decide +kernel
theorem dX8_greatestFrom_50 : decode cX8_greatestFrom 50 = .ok (.iconst 1, 1) := by decide +kernel
theorem dX8_greatestFrom_51 : decode cX8_greatestFrom 51 = .ok (.iload 4, 2) := by decide +kernel
theorem dX8_greatestFrom_53 : decode cX8_greatestFrom 53 = .ok (.ishl, 1) := by decide +kernel
theorem dX8_greatestFrom_54 : decode cX8_greatestFrom 54 = .ok (.iand, 1) := by decide +kernel
theorem dX8_greatestFrom_55 : decode cX8_greatestFrom 55 = .ok (.ifCond .eq 49, 3) := by decide +kernel
theorem dX8_greatestFrom_58 : decode cX8_greatestFrom 58 = .ok (.aload_n 0, 1) := by decide +kernel
theorem dX8_greatestFrom_59 : decode cX8_greatestFrom 59 = .ok (.getfield 18, 3) := by decide +kernel
theorem dX8_greatestFrom_62 : decode cX8_greatestFrom 62 = .ok (.iload_n 1, 1) := by decide +kernel
theorem dX8_greatestFrom_63 : decode cX8_greatestFrom 63 = .ok (.iload 4, 2) := by decide +kernel
theorem dX8_greatestFrom_65 : decode cX8_greatestFrom 65 = .ok (.invokevirtual 28, 3) := by decide +kernel
theorem dX8_greatestFrom_68 : decode cX8_greatestFrom 68 = .ok (.aload_n 0, 1) := by decide +kernel
theorem dX8_greatestFrom_69 : decode cX8_greatestFrom 69 = .ok (.getfield 18, 3) := by decide +kernel
theorem dX8_greatestFrom_72 : decode cX8_greatestFrom 72 = .ok (.iload 4, 2) := by decide +kernel
theorem dX8_greatestFrom_74 : decode cX8_greatestFrom 74 = .ok (.iload_n 1, 1) := by decide +kernel
theorem dX8_greatestFrom_75 : decode cX8_greatestFrom 75 = .ok (.invokevirtual 28, 3) := by decide +kernel
theorem dX8_greatestFrom_78 : decode cX8_greatestFrom 78 = .ok (.iadd, 1) := by decide +kernel
theorem dX8_greatestFrom_79 : decode cX8_greatestFrom 79 = .ok (.istore 5, 2) := by decide +kernel
theorem dX8_greatestFrom_81 : decode cX8_greatestFrom 81 = .ok (.iload_n 3, 1) := by decide +kernel
theorem dX8_greatestFrom_82 : decode cX8_greatestFrom 82 = .ok (.iload 5, 2) := by decide +kernel
theorem dX8_greatestFrom_84 : decode cX8_greatestFrom 84 = .ok (.aload_n 0, 1) := by decide +kernel
theorem dX8_greatestFrom_85 : decode cX8_greatestFrom 85 = .ok (.iload_n 1, 1) := by decide +kernel
theorem dX8_greatestFrom_86 : decode cX8_greatestFrom 86 = .ok (.iconst 1, 1) := by decide +kernel
theorem dX8_greatestFrom_87 : decode cX8_greatestFrom 87 = .ok (.iadd, 1) := by decide +kernel
theorem dX8_greatestFrom_88 : decode cX8_greatestFrom 88 = .ok (.iload_n 2, 1) := by decide +kernel
theorem dX8_greatestFrom_89 : decode cX8_greatestFrom 89 = .ok (.iconst 1, 1) := by decide +kernel
theorem dX8_greatestFrom_90 : decode cX8_greatestFrom 90 = .ok (.iload 4, 2) := by decide +kernel
theorem dX8_greatestFrom_92 : decode cX8_greatestFrom 92 = .ok (.ishl, 1) := by decide +kernel
theorem dX8_greatestFrom_93 : decode cX8_greatestFrom 93 = .ok (.iconst (-1), 1) := by decide +kernel
theorem dX8_greatestFrom_94 : decode cX8_greatestFrom 94 = .ok (.ixor, 1) := by decide +kernel
theorem dX8_greatestFrom_95 : decode cX8_greatestFrom 95 = .ok (.iand, 1) := by decide +kernel
theorem dX8_greatestFrom_96 : decode cX8_greatestFrom 96 = .ok (.invokevirtual 66, 3) := by decide +kernel
theorem dX8_greatestFrom_99 : decode cX8_greatestFrom 99 = .ok (.iadd, 1) := by decide +kernel
theorem dX8_greatestFrom_100 : decode cX8_greatestFrom 100 = .ok (.invokestatic 69, 3) := by decide +kernel
theorem dX8_greatestFrom_103 : decode cX8_greatestFrom 103 = .ok (.istore_n 3, 1) := by decide +kernel
theorem dX8_greatestFrom_104 : decode cX8_greatestFrom 104 = .ok (.iinc 4 1, 3) := by decide +kernel
theorem dX8_greatestFrom_107 : decode cX8_greatestFrom 107 = .ok (.goto (-70), 3) := by decide +kernel
theorem dX8_greatestFrom_110 : decode cX8_greatestFrom 110 = .ok (.iload_n 3, 1) := by decide +kernel
theorem dX8_greatestFrom_111 : decode cX8_greatestFrom 111 = .ok (.ireturn, 1) := by decide +kernel
