theorem dL_house_0 : decode cL_house 0 = .ok (.aload_n 1, 1) := by decide +kernel
theorem dL_house_1 : decode cL_house 1 = .ok (.iconst 0, 1) := by decide +kernel
theorem dL_house_2 : decode cL_house 2 = .ok (.aload_n 0, 1) := by decide +kernel
theorem dL_house_3 : decode cL_house 3 = .ok (.invokevirtual 7, 3) := by decide +kernel
theorem dL_house_6 : decode cL_house 6 = .ok (.i2l, 1) := by decide +kernel
theorem dL_house_7 : decode cL_house 7 = .ok (.lastore, 1) := by decide +kernel
theorem dL_house_8 : decode cL_house 8 = .ok (.goto 9, 3) := by decide +kernel
theorem dL_house_11 : decode cL_house 11 = .ok (.astore_n 2, 1) := by decide +kernel
theorem dL_house_12 : decode cL_house 12 = .ok (.iconst 1, 1) := by decide +kernel
theorem dL_house_13 : decode cL_house 13 = .ok (.ireturn, 1) := by decide +kernel
theorem dL_house_14 : decode cL_house 14 = .ok (.astore_n 2, 1) := by decide +kernel
theorem dL_house_15 : decode cL_house 15 = .ok (.iconst 2, 1) := by decide +kernel
theorem dL_house_16 : decode cL_house 16 = .ok (.ireturn, 1) := by decide +kernel
theorem dL_house_17 : decode cL_house 17 = .ok (.iconst 0, 1) := by decide +kernel
theorem dL_house_18 : decode cL_house 18 = .ok (.ireturn, 1) := by decide +kernel
theorem dL_law_0 : decode cL_law 0 = .ok (.aload_n 1, 1) := by decide +kernel
theorem dL_law_1 : decode cL_law 1 = .ok (.iconst 0, 1) := by decide +kernel
theorem dL_law_2 : decode cL_law 2 = .ok (.aload_n 0, 1) := by decide +kernel
theorem dL_law_3 : decode cL_law 3 = .ok (.invokevirtual 17, 3) := by decide +kernel
theorem dL_law_6 : decode cL_law 6 = .ok (.i2l, 1) := by decide +kernel
theorem dL_law_7 : decode cL_law 7 = .ok (.lastore, 1) := by decide +kernel
theorem dL_law_8 : decode cL_law 8 = .ok (.goto 6, 3) := by decide +kernel
theorem dL_law_11 : decode cL_law 11 = .ok (.astore_n 2, 1) := by decide +kernel
theorem dL_law_12 : decode cL_law 12 = .ok (.iconst 1, 1) := by decide +kernel
theorem dL_law_13 : decode cL_law 13 = .ok (.ireturn, 1) := by decide +kernel
theorem dL_law_14 : decode cL_law 14 = .ok (.iconst 0, 1) := by decide +kernel
theorem dL_law_15 : decode cL_law 15 = .ok (.ireturn, 1) := by decide +kernel
theorem dL_person_0 : decode cL_person 0 = .ok (.aload_n 3, 1) := by decide +kernel
theorem dL_person_1 : decode cL_person 1 = .ok (.iconst 0, 1) := by decide +kernel
theorem dL_person_2 : decode cL_person 2 = .ok (.aload_n 0, 1) := by decide +kernel
theorem dL_person_3 : decode cL_person 3 = .ok (.iload_n 1, 1) := by decide +kernel
theorem dL_person_4 : decode cL_person 4 = .ok (.iload_n 2, 1) := by decide +kernel
theorem dL_person_5 : decode cL_person 5 = .ok (.invokevirtual 20, 3) := by decide +kernel
theorem dL_person_8 : decode cL_person 8 = .ok (.i2l, 1) := by decide +kernel
theorem dL_person_9 : decode cL_person 9 = .ok (.lastore, 1) := by decide +kernel
theorem dL_person_10 : decode cL_person 10 = .ok (.goto 11, 3) := by decide +kernel
theorem dL_person_13 : decode cL_person 13 = .ok (.astore 4, 2) := by decide +kernel
theorem dL_person_15 : decode cL_person 15 = .ok (.iconst 1, 1) := by decide +kernel
theorem dL_person_16 : decode cL_person 16 = .ok (.ireturn, 1) := by decide +kernel
theorem dL_person_17 : decode cL_person 17 = .ok (.astore 4, 2) := by decide +kernel
theorem dL_person_19 : decode cL_person 19 = .ok (.iconst 2, 1) := by decide +kernel
theorem dL_person_20 : decode cL_person 20 = .ok (.ireturn, 1) := by decide +kernel
theorem dL_person_21 : decode cL_person 21 = .ok (.iconst 0, 1) := by decide +kernel
theorem dL_person_22 : decode cL_person 22 = .ok (.ireturn, 1) := by decide +kernel
theorem dL_liking_0 : decode cL_liking 0 = .ok (.aload_n 3, 1) := by decide +kernel
theorem dL_liking_1 : decode cL_liking 1 = .ok (.iconst 0, 1) := by decide +kernel
theorem dL_liking_2 : decode cL_liking 2 = .ok (.aload_n 0, 1) := by decide +kernel
theorem dL_liking_3 : decode cL_liking 3 = .ok (.iload_n 1, 1) := by decide +kernel
theorem dL_liking_4 : decode cL_liking 4 = .ok (.iload_n 2, 1) := by decide +kernel
theorem dL_liking_5 : decode cL_liking 5 = .ok (.invokevirtual 28, 3) := by decide +kernel
theorem dL_liking_8 : decode cL_liking 8 = .ok (.i2l, 1) := by decide +kernel
theorem dL_liking_9 : decode cL_liking 9 = .ok (.lastore, 1) := by decide +kernel
theorem dL_liking_10 : decode cL_liking 10 = .ok (.goto 11, 3) := by decide +kernel
theorem dL_liking_13 : decode cL_liking 13 = .ok (.astore 4, 2) := by decide +kernel
theorem dL_liking_15 : decode cL_liking 15 = .ok (.iconst 1, 1) := by decide +kernel
theorem dL_liking_16 : decode cL_liking 16 = .ok (.ireturn, 1) := by decide +kernel
theorem dL_liking_17 : decode cL_liking 17 = .ok (.astore 4, 2) := by decide +kernel
theorem dL_liking_19 : decode cL_liking 19 = .ok (.iconst 2, 1) := by decide +kernel
theorem dL_liking_20 : decode cL_liking 20 = .ok (.ireturn, 1) := by decide +kernel
theorem dL_liking_21 : decode cL_liking 21 = .ok (.iconst 0, 1) := by decide +kernel
theorem dL_liking_22 : decode cL_liking 22 = .ok (.ireturn, 1) := by decide +kernel
theorem dL_bond_0 : decode cL_bond 0 = .ok (.aload 4, 2) := by decide +kernel
theorem dL_bond_2 : decode cL_bond 2 = .ok (.iconst 0, 1) := by decide +kernel
theorem dL_bond_3 : decode cL_bond 3 = .ok (.aload_n 0, 1) := by decide +kernel
theorem dL_bond_4 : decode cL_bond 4 = .ok (.iload_n 1, 1) := by decide +kernel
theorem dL_bond_5 : decode cL_bond 5 = .ok (.iload_n 2, 1) := by decide +kernel
theorem dL_bond_6 : decode cL_bond 6 = .ok (.iload_n 3, 1) := by decide +kernel
theorem dL_bond_7 : decode cL_bond 7 = .ok (.invokevirtual 31, 3) := by decide +kernel
theorem dL_bond_10 : decode cL_bond 10 = .ok (.i2l, 1) := by decide +kernel
theorem dL_bond_11 : decode cL_bond 11 = .ok (.lastore, 1) := by decide +kernel
theorem dL_bond_12 : decode cL_bond 12 = .ok (.goto 11, 3) := by decide +kernel
theorem dL_bond_15 : decode cL_bond 15 = .ok (.astore 5, 2) := by decide +kernel
theorem dL_bond_17 : decode cL_bond 17 = .ok (.iconst 1, 1) := by decide +kernel
theorem dL_bond_18 : decode cL_bond 18 = .ok (.ireturn, 1) := by decide +kernel
theorem dL_bond_19 : decode cL_bond 19 = .ok (.astore 5, 2) := by decide +kernel
theorem dL_bond_21 : decode cL_bond 21 = .ok (.iconst 2, 1) := by decide +kernel
theorem dL_bond_22 : decode cL_bond 22 = .ok (.ireturn, 1) := by decide +kernel
theorem dL_bond_23 : decode cL_bond 23 = .ok (.iconst 0, 1) := by decide +kernel
theorem dL_bond_24 : decode cL_bond 24 = .ok (.ireturn, 1) := by decide +kernel
theorem dL_told_0 : decode cL_told 0 = .ok (.aload 6, 2) := by decide +kernel
theorem dL_told_2 : decode cL_told 2 = .ok (.iconst 0, 1) := by decide +kernel
theorem dL_told_3 : decode cL_told 3 = .ok (.aload_n 0, 1) := by decide +kernel
theorem dL_told_4 : decode cL_told 4 = .ok (.iload_n 1, 1) := by decide +kernel
theorem dL_told_5 : decode cL_told 5 = .ok (.iload_n 2, 1) := by decide +kernel
theorem dL_told_6 : decode cL_told 6 = .ok (.iload_n 3, 1) := by decide +kernel
theorem dL_told_7 : decode cL_told 7 = .ok (.iload 4, 2) := by decide +kernel
theorem dL_told_9 : decode cL_told 9 = .ok (.iload 5, 2) := by decide +kernel
theorem dL_told_11 : decode cL_told 11 = .ok (.invokevirtual 35, 3) := by decide +kernel
theorem dL_told_14 : decode cL_told 14 = .ok (.i2l, 1) := by decide +kernel
theorem dL_told_15 : decode cL_told 15 = .ok (.lastore, 1) := by decide +kernel
theorem dL_told_16 : decode cL_told 16 = .ok (.goto 15, 3) := by decide +kernel
theorem dL_told_19 : decode cL_told 19 = .ok (.astore 7, 2) := by decide +kernel
theorem dL_told_21 : decode cL_told 21 = .ok (.iconst 1, 1) := by decide +kernel
theorem dL_told_22 : decode cL_told 22 = .ok (.ireturn, 1) := by decide +kernel
theorem dL_told_23 : decode cL_told 23 = .ok (.astore 7, 2) := by decide +kernel
theorem dL_told_25 : decode cL_told 25 = .ok (.iconst 2, 1) := by decide +kernel
theorem dL_told_26 : decode cL_told 26 = .ok (.ireturn, 1) := by decide +kernel
theorem dL_told_27 : decode cL_told 27 = .ok (.astore 7, 2) := by decide +kernel
theorem dL_told_29 : decode cL_told 29 = .ok (.iconst 3, 1) := by decide +kernel
theorem dL_told_30 : decode cL_told 30 = .ok (.ireturn, 1) := by decide +kernel
theorem dL_told_31 : decode cL_told 31 = .ok (.iconst 0, 1) := by decide +kernel
theorem dL_told_32 : decode cL_told 32 = .ok (.ireturn, 1) := by decide +kernel
theorem dL_share_0 : decode cL_share 0 = .ok (.aload_n 3, 1) := by decide +kernel
theorem dL_share_1 : decode cL_share 1 = .ok (.iconst 0, 1) := by decide +kernel
theorem dL_share_2 : decode cL_share 2 = .ok (.aload_n 0, 1) := by decide +kernel
theorem dL_share_3 : decode cL_share 3 = .ok (.iload_n 1, 1) := by decide +kernel
theorem dL_share_4 : decode cL_share 4 = .ok (.iload_n 2, 1) := by decide +kernel
theorem dL_share_5 : decode cL_share 5 = .ok (.invokevirtual 39, 3) := by decide +kernel
theorem dL_share_8 : decode cL_share 8 = .ok (.i2l, 1) := by decide +kernel
theorem dL_share_9 : decode cL_share 9 = .ok (.lastore, 1) := by decide +kernel
theorem dL_share_10 : decode cL_share 10 = .ok (.goto 7, 3) := by decide +kernel
theorem dL_share_13 : decode cL_share 13 = .ok (.astore 4, 2) := by decide +kernel
theorem dL_share_15 : decode cL_share 15 = .ok (.iconst 1, 1) := by decide +kernel
theorem dL_share_16 : decode cL_share 16 = .ok (.ireturn, 1) := by decide +kernel
theorem dL_share_17 : decode cL_share 17 = .ok (.iconst 0, 1) := by decide +kernel
theorem dL_share_18 : decode cL_share 18 = .ok (.ireturn, 1) := by decide +kernel
theorem dL_wash_0 : decode cL_wash 0 = .ok (.aload_n 3, 1) := by decide +kernel
theorem dL_wash_1 : decode cL_wash 1 = .ok (.iconst 0, 1) := by decide +kernel
theorem dL_wash_2 : decode cL_wash 2 = .ok (.aload_n 0, 1) := by decide +kernel
theorem dL_wash_3 : decode cL_wash 3 = .ok (.iload_n 1, 1) := by decide +kernel
theorem dL_wash_4 : decode cL_wash 4 = .ok (.iload_n 2, 1) := by decide +kernel
theorem dL_wash_5 : decode cL_wash 5 = .ok (.invokevirtual 42, 3) := by decide +kernel
theorem dL_wash_8 : decode cL_wash 8 = .ok (.i2l, 1) := by decide +kernel
theorem dL_wash_9 : decode cL_wash 9 = .ok (.lastore, 1) := by decide +kernel
theorem dL_wash_10 : decode cL_wash 10 = .ok (.goto 11, 3) := by decide +kernel
theorem dL_wash_13 : decode cL_wash 13 = .ok (.astore 4, 2) := by decide +kernel
theorem dL_wash_15 : decode cL_wash 15 = .ok (.iconst 1, 1) := by decide +kernel
theorem dL_wash_16 : decode cL_wash 16 = .ok (.ireturn, 1) := by decide +kernel
theorem dL_wash_17 : decode cL_wash 17 = .ok (.astore 4, 2) := by decide +kernel
theorem dL_wash_19 : decode cL_wash 19 = .ok (.iconst 2, 1) := by decide +kernel
theorem dL_wash_20 : decode cL_wash 20 = .ok (.ireturn, 1) := by decide +kernel
theorem dL_wash_21 : decode cL_wash 21 = .ok (.iconst 0, 1) := by decide +kernel
theorem dL_wash_22 : decode cL_wash 22 = .ok (.ireturn, 1) := by decide +kernel
theorem dL_go_0 : decode cL_go 0 = .ok (.aload_n 3, 1) := by decide +kernel
theorem dL_go_1 : decode cL_go 1 = .ok (.iconst 0, 1) := by decide +kernel
theorem dL_go_2 : decode cL_go 2 = .ok (.aload_n 0, 1) := by decide +kernel
theorem dL_go_3 : decode cL_go 3 = .ok (.iload_n 1, 1) := by decide +kernel
theorem dL_go_4 : decode cL_go 4 = .ok (.iload_n 2, 1) := by decide +kernel
theorem dL_go_5 : decode cL_go 5 = .ok (.invokevirtual 45, 3) := by decide +kernel
theorem dL_go_8 : decode cL_go 8 = .ok (.i2l, 1) := by decide +kernel
theorem dL_go_9 : decode cL_go 9 = .ok (.lastore, 1) := by decide +kernel
theorem dL_go_10 : decode cL_go 10 = .ok (.goto 7, 3) := by decide +kernel
theorem dL_go_13 : decode cL_go 13 = .ok (.astore 4, 2) := by decide +kernel
theorem dL_go_15 : decode cL_go 15 = .ok (.iconst 1, 1) := by decide +kernel
theorem dL_go_16 : decode cL_go 16 = .ok (.ireturn, 1) := by decide +kernel
theorem dL_go_17 : decode cL_go 17 = .ok (.iconst 0, 1) := by decide +kernel
theorem dL_go_18 : decode cL_go 18 = .ok (.ireturn, 1) := by decide +kernel
theorem dL_strew_0 : decode cL_strew 0 = .ok (.aload_n 3, 1) := by decide +kernel
theorem dL_strew_1 : decode cL_strew 1 = .ok (.iconst 0, 1) := by decide +kernel
theorem dL_strew_2 : decode cL_strew 2 = .ok (.aload_n 0, 1) := by decide +kernel
theorem dL_strew_3 : decode cL_strew 3 = .ok (.iload_n 1, 1) := by decide +kernel
theorem dL_strew_4 : decode cL_strew 4 = .ok (.iload_n 2, 1) := by decide +kernel
theorem dL_strew_5 : decode cL_strew 5 = .ok (.invokevirtual 48, 3) := by decide +kernel
theorem dL_strew_8 : decode cL_strew 8 = .ok (.ifCond .eq 7, 3) := by decide +kernel
theorem dL_strew_11 : decode cL_strew 11 = .ok (.lconst 1, 1) := by decide +kernel
theorem dL_strew_12 : decode cL_strew 12 = .ok (.goto 4, 3) := by decide +kernel
theorem dL_strew_15 : decode cL_strew 15 = .ok (.lconst 0, 1) := by decide +kernel
theorem dL_strew_16 : decode cL_strew 16 = .ok (.lastore, 1) := by decide +kernel
theorem dL_strew_17 : decode cL_strew 17 = .ok (.goto 7, 3) := by decide +kernel
theorem dL_strew_20 : decode cL_strew 20 = .ok (.astore 4, 2) := by decide +kernel
theorem dL_strew_22 : decode cL_strew 22 = .ok (.iconst 1, 1) := by decide +kernel
theorem dL_strew_23 : decode cL_strew 23 = .ok (.ireturn, 1) := by decide +kernel
theorem dL_strew_24 : decode cL_strew 24 = .ok (.iconst 0, 1) := by decide +kernel
theorem dL_strew_25 : decode cL_strew 25 = .ok (.ireturn, 1) := by decide +kernel
theorem dL_wed_0 : decode cL_wed 0 = .ok (.aload_n 0, 1) := by decide +kernel
theorem dL_wed_1 : decode cL_wed 1 = .ok (.iload_n 1, 1) := by decide +kernel
theorem dL_wed_2 : decode cL_wed 2 = .ok (.iload_n 2, 1) := by decide +kernel
theorem dL_wed_3 : decode cL_wed 3 = .ok (.invokevirtual 52, 3) := by decide +kernel
theorem dL_wed_6 : decode cL_wed 6 = .ok (.goto 12, 3) := by decide +kernel
theorem dL_wed_9 : decode cL_wed 9 = .ok (.astore_n 3, 1) := by decide +kernel
theorem dL_wed_10 : decode cL_wed 10 = .ok (.iconst 1, 1) := by decide +kernel
theorem dL_wed_11 : decode cL_wed 11 = .ok (.ireturn, 1) := by decide +kernel
theorem dL_wed_12 : decode cL_wed 12 = .ok (.astore_n 3, 1) := by decide +kernel
theorem dL_wed_13 : decode cL_wed 13 = .ok (.iconst 2, 1) := by decide +kernel
theorem dL_wed_14 : decode cL_wed 14 = .ok (.ireturn, 1) := by decide +kernel
theorem dL_wed_15 : decode cL_wed 15 = .ok (.astore_n 3, 1) := by decide +kernel
theorem dL_wed_16 : decode cL_wed 16 = .ok (.iconst 3, 1) := by decide +kernel
theorem dL_wed_17 : decode cL_wed 17 = .ok (.ireturn, 1) := by decide +kernel
theorem dL_wed_18 : decode cL_wed 18 = .ok (.iconst 0, 1) := by decide +kernel
theorem dL_wed_19 : decode cL_wed 19 = .ok (.ireturn, 1) := by decide +kernel
theorem dL_clear_0 : decode cL_clear 0 = .ok (.aload_n 2, 1) := by decide +kernel
theorem dL_clear_1 : decode cL_clear 1 = .ok (.iconst 0, 1) := by decide +kernel
theorem dL_clear_2 : decode cL_clear 2 = .ok (.aload_n 0, 1) := by decide +kernel
theorem dL_clear_3 : decode cL_clear 3 = .ok (.iload_n 1, 1) := by decide +kernel
theorem dL_clear_4 : decode cL_clear 4 = .ok (.invokevirtual 58, 3) := by decide +kernel
theorem dL_clear_7 : decode cL_clear 7 = .ok (.i2l, 1) := by decide +kernel
theorem dL_clear_8 : decode cL_clear 8 = .ok (.lastore, 1) := by decide +kernel
theorem dL_clear_9 : decode cL_clear 9 = .ok (.goto 6, 3) := by decide +kernel
theorem dL_clear_12 : decode cL_clear 12 = .ok (.astore_n 3, 1) := by decide +kernel
theorem dL_clear_13 : decode cL_clear 13 = .ok (.iconst 1, 1) := by decide +kernel
theorem dL_clear_14 : decode cL_clear 14 = .ok (.ireturn, 1) := by decide +kernel
theorem dL_clear_15 : decode cL_clear 15 = .ok (.iconst 0, 1) := by decide +kernel
theorem dL_clear_16 : decode cL_clear 16 = .ok (.ireturn, 1) := by decide +kernel
theorem dL_days_0 : decode cL_days 0 = .ok (.aload_n 2, 1) := by decide +kernel
theorem dL_days_1 : decode cL_days 1 = .ok (.iconst 0, 1) := by decide +kernel
theorem dL_days_2 : decode cL_days 2 = .ok (.aload_n 0, 1) := by decide +kernel
theorem dL_days_3 : decode cL_days 3 = .ok (.iload_n 1, 1) := by decide +kernel
theorem dL_days_4 : decode cL_days 4 = .ok (.invokevirtual 62, 3) := by decide +kernel
theorem dL_days_7 : decode cL_days 7 = .ok (.i2l, 1) := by decide +kernel
theorem dL_days_8 : decode cL_days 8 = .ok (.lastore, 1) := by decide +kernel
theorem dL_days_9 : decode cL_days 9 = .ok (.goto 6, 3) := by decide +kernel
theorem dL_days_12 : decode cL_days 12 = .ok (.astore_n 3, 1) := by decide +kernel
theorem dL_days_13 : decode cL_days 13 = .ok (.iconst 1, 1) := by decide +kernel
theorem dL_days_14 : decode cL_days 14 = .ok (.ireturn, 1) := by decide +kernel
theorem dL_days_15 : decode cL_days 15 = .ok (.iconst 0, 1) := by decide +kernel
theorem dL_days_16 : decode cL_days 16 = .ok (.ireturn, 1) := by decide +kernel
theorem dL_free_0 : decode cL_free 0 = .ok (.aload_n 2, 1) := by decide +kernel
theorem dL_free_1 : decode cL_free 1 = .ok (.iconst 0, 1) := by decide +kernel
theorem dL_free_2 : decode cL_free 2 = .ok (.aload_n 0, 1) := by decide +kernel
theorem dL_free_3 : decode cL_free 3 = .ok (.iload_n 1, 1) := by decide +kernel
theorem dL_free_4 : decode cL_free 4 = .ok (.invokevirtual 65, 3) := by decide +kernel
theorem dL_free_7 : decode cL_free 7 = .ok (.i2l, 1) := by decide +kernel
theorem dL_free_8 : decode cL_free 8 = .ok (.lastore, 1) := by decide +kernel
theorem dL_free_9 : decode cL_free 9 = .ok (.goto 6, 3) := by decide +kernel
theorem dL_free_12 : decode cL_free 12 = .ok (.astore_n 3, 1) := by decide +kernel
theorem dL_free_13 : decode cL_free 13 = .ok (.iconst 1, 1) := by decide +kernel
theorem dL_free_14 : decode cL_free 14 = .ok (.ireturn, 1) := by decide +kernel
theorem dL_free_15 : decode cL_free 15 = .ok (.iconst 0, 1) := by decide +kernel
theorem dL_free_16 : decode cL_free 16 = .ok (.ireturn, 1) := by decide +kernel
theorem dL_would_0 : decode cL_would 0 = .ok (.aload_n 3, 1) := by decide +kernel
theorem dL_would_1 : decode cL_would 1 = .ok (.iconst 0, 1) := by decide +kernel
theorem dL_would_2 : decode cL_would 2 = .ok (.aload_n 0, 1) := by decide +kernel
theorem dL_would_3 : decode cL_would 3 = .ok (.iload_n 1, 1) := by decide +kernel
theorem dL_would_4 : decode cL_would 4 = .ok (.iload_n 2, 1) := by decide +kernel
theorem dL_would_5 : decode cL_would 5 = .ok (.invokevirtual 68, 3) := by decide +kernel
theorem dL_would_8 : decode cL_would 8 = .ok (.i2l, 1) := by decide +kernel
theorem dL_would_9 : decode cL_would 9 = .ok (.lastore, 1) := by decide +kernel
theorem dL_would_10 : decode cL_would 10 = .ok (.goto 7, 3) := by decide +kernel
theorem dL_would_13 : decode cL_would 13 = .ok (.astore 4, 2) := by decide +kernel
theorem dL_would_15 : decode cL_would 15 = .ok (.iconst 1, 1) := by decide +kernel
theorem dL_would_16 : decode cL_would 16 = .ok (.ireturn, 1) := by decide +kernel
theorem dL_would_17 : decode cL_would 17 = .ok (.iconst 0, 1) := by decide +kernel
theorem dL_would_18 : decode cL_would 18 = .ok (.ireturn, 1) := by decide +kernel
theorem dL_widest_0 : decode cL_widest 0 = .ok (.aload_n 3, 1) := by decide +kernel
theorem dL_widest_1 : decode cL_widest 1 = .ok (.iconst 0, 1) := by decide +kernel
theorem dL_widest_2 : decode cL_widest 2 = .ok (.aload_n 0, 1) := by decide +kernel
theorem dL_widest_3 : decode cL_widest 3 = .ok (.iload_n 1, 1) := by decide +kernel
theorem dL_widest_4 : decode cL_widest 4 = .ok (.iload_n 2, 1) := by decide +kernel
theorem dL_widest_5 : decode cL_widest 5 = .ok (.invokevirtual 71, 3) := by decide +kernel
theorem dL_widest_8 : decode cL_widest 8 = .ok (.i2l, 1) := by decide +kernel
theorem dL_widest_9 : decode cL_widest 9 = .ok (.lastore, 1) := by decide +kernel
theorem dL_widest_10 : decode cL_widest 10 = .ok (.goto 7, 3) := by decide +kernel
theorem dL_widest_13 : decode cL_widest 13 = .ok (.astore 4, 2) := by decide +kernel
theorem dL_widest_15 : decode cL_widest 15 = .ok (.iconst 1, 1) := by decide +kernel
theorem dL_widest_16 : decode cL_widest 16 = .ok (.ireturn, 1) := by decide +kernel
theorem dL_widest_17 : decode cL_widest 17 = .ok (.iconst 0, 1) := by decide +kernel
theorem dL_widest_18 : decode cL_widest 18 = .ok (.ireturn, 1) := by decide +kernel
theorem dL_parts_0 : decode cL_parts 0 = .ok (.aload_n 3, 1) := by decide +kernel
theorem dL_parts_1 : decode cL_parts 1 = .ok (.iconst 0, 1) := by decide +kernel
theorem dL_parts_2 : decode cL_parts 2 = .ok (.aload_n 0, 1) := by decide +kernel
theorem dL_parts_3 : decode cL_parts 3 = .ok (.iload_n 1, 1) := by decide +kernel
theorem dL_parts_4 : decode cL_parts 4 = .ok (.iload_n 2, 1) := by decide +kernel
theorem dL_parts_5 : decode cL_parts 5 = .ok (.invokevirtual 74, 3) := by decide +kernel
theorem dL_parts_8 : decode cL_parts 8 = .ok (.i2l, 1) := by decide +kernel
theorem dL_parts_9 : decode cL_parts 9 = .ok (.lastore, 1) := by decide +kernel
theorem dL_parts_10 : decode cL_parts 10 = .ok (.goto 11, 3) := by decide +kernel
theorem dL_parts_13 : decode cL_parts 13 = .ok (.astore 4, 2) := by decide +kernel
theorem dL_parts_15 : decode cL_parts 15 = .ok (.iconst 1, 1) := by decide +kernel
theorem dL_parts_16 : decode cL_parts 16 = .ok (.ireturn, 1) := by decide +kernel
theorem dL_parts_17 : decode cL_parts 17 = .ok (.astore 4, 2) := by decide +kernel
theorem dL_parts_19 : decode cL_parts 19 = .ok (.iconst 2, 1) := by decide +kernel
theorem dL_parts_20 : decode cL_parts 20 = .ok (.ireturn, 1) := by decide +kernel
theorem dL_parts_21 : decode cL_parts 21 = .ok (.iconst 0, 1) := by decide +kernel
theorem dL_parts_22 : decode cL_parts 22 = .ok (.ireturn, 1) := by decide +kernel
theorem dL_steady_0 : decode cL_steady 0 = .ok (.aload_n 2, 1) := by decide +kernel
theorem dL_steady_1 : decode cL_steady 1 = .ok (.iconst 0, 1) := by decide +kernel
theorem dL_steady_2 : decode cL_steady 2 = .ok (.aload_n 0, 1) := by decide +kernel
theorem dL_steady_3 : decode cL_steady 3 = .ok (.iload_n 1, 1) := by decide +kernel
theorem dL_steady_4 : decode cL_steady 4 = .ok (.invokevirtual 77, 3) := by decide +kernel
theorem dL_steady_7 : decode cL_steady 7 = .ok (.i2l, 1) := by decide +kernel
theorem dL_steady_8 : decode cL_steady 8 = .ok (.lastore, 1) := by decide +kernel
theorem dL_steady_9 : decode cL_steady 9 = .ok (.goto 6, 3) := by decide +kernel
theorem dL_steady_12 : decode cL_steady 12 = .ok (.astore_n 3, 1) := by decide +kernel
theorem dL_steady_13 : decode cL_steady 13 = .ok (.iconst 1, 1) := by decide +kernel
theorem dL_steady_14 : decode cL_steady 14 = .ok (.ireturn, 1) := by decide +kernel
theorem dL_steady_15 : decode cL_steady 15 = .ok (.iconst 0, 1) := by decide +kernel
theorem dL_steady_16 : decode cL_steady 16 = .ok (.ireturn, 1) := by decide +kernel
theorem dL_between_0 : decode cL_between 0 = .ok (.aload_n 3, 1) := by decide +kernel
theorem dL_between_1 : decode cL_between 1 = .ok (.iconst 0, 1) := by decide +kernel
theorem dL_between_2 : decode cL_between 2 = .ok (.aload_n 0, 1) := by decide +kernel
theorem dL_between_3 : decode cL_between 3 = .ok (.iload_n 1, 1) := by decide +kernel
theorem dL_between_4 : decode cL_between 4 = .ok (.iload_n 2, 1) := by decide +kernel
theorem dL_between_5 : decode cL_between 5 = .ok (.invokevirtual 80, 3) := by decide +kernel
theorem dL_between_8 : decode cL_between 8 = .ok (.i2l, 1) := by decide +kernel
theorem dL_between_9 : decode cL_between 9 = .ok (.lastore, 1) := by decide +kernel
theorem dL_between_10 : decode cL_between 10 = .ok (.goto 7, 3) := by decide +kernel
theorem dL_between_13 : decode cL_between 13 = .ok (.astore 4, 2) := by decide +kernel
theorem dL_between_15 : decode cL_between 15 = .ok (.iconst 1, 1) := by decide +kernel
theorem dL_between_16 : decode cL_between 16 = .ok (.ireturn, 1) := by decide +kernel
theorem dL_between_17 : decode cL_between 17 = .ok (.iconst 0, 1) := by decide +kernel
theorem dL_between_18 : decode cL_between 18 = .ok (.ireturn, 1) := by decide +kernel
theorem dL_drank_0 : decode cL_drank 0 = .ok (.aload_n 2, 1) := by decide +kernel
theorem dL_drank_1 : decode cL_drank 1 = .ok (.iconst 0, 1) := by decide +kernel
theorem dL_drank_2 : decode cL_drank 2 = .ok (.aload_n 0, 1) := by decide +kernel
theorem dL_drank_3 : decode cL_drank 3 = .ok (.iload_n 1, 1) := by decide +kernel
theorem dL_drank_4 : decode cL_drank 4 = .ok (.invokevirtual 83, 3) := by decide +kernel
theorem dL_drank_7 : decode cL_drank 7 = .ok (.i2l, 1) := by decide +kernel
theorem dL_drank_8 : decode cL_drank 8 = .ok (.lastore, 1) := by decide +kernel
theorem dL_drank_9 : decode cL_drank 9 = .ok (.goto 6, 3) := by decide +kernel
theorem dL_drank_12 : decode cL_drank 12 = .ok (.astore_n 3, 1) := by decide +kernel
theorem dL_drank_13 : decode cL_drank 13 = .ok (.iconst 1, 1) := by decide +kernel
theorem dL_drank_14 : decode cL_drank 14 = .ok (.ireturn, 1) := by decide +kernel
theorem dL_drank_15 : decode cL_drank 15 = .ok (.iconst 0, 1) := by decide +kernel
theorem dL_drank_16 : decode cL_drank 16 = .ok (.ireturn, 1) := by decide +kernel
theorem dL_look_0 : decode cL_look 0 = .ok (.aload_n 1, 1) := by decide +kernel
theorem dL_look_1 : decode cL_look 1 = .ok (.iconst 0, 1) := by decide +kernel
theorem dL_look_2 : decode cL_look 2 = .ok (.aload_n 0, 1) := by decide +kernel
theorem dL_look_3 : decode cL_look 3 = .ok (.invokevirtual 87, 3) := by decide +kernel
theorem dL_look_6 : decode cL_look 6 = .ok (.i2l, 1) := by decide +kernel
theorem dL_look_7 : decode cL_look 7 = .ok (.lastore, 1) := by decide +kernel
theorem dL_look_8 : decode cL_look 8 = .ok (.goto 6, 3) := by decide +kernel
theorem dL_look_11 : decode cL_look 11 = .ok (.astore_n 2, 1) := by decide +kernel
theorem dL_look_12 : decode cL_look 12 = .ok (.iconst 1, 1) := by decide +kernel
theorem dL_look_13 : decode cL_look 13 = .ok (.ireturn, 1) := by decide +kernel
theorem dL_look_14 : decode cL_look 14 = .ok (.iconst 0, 1) := by decide +kernel
theorem dL_look_15 : decode cL_look 15 = .ok (.ireturn, 1) := by decide +kernel
theorem dL_way_0 : decode cL_way 0 = .ok (.aload_n 3, 1) := by decide +kernel
theorem dL_way_1 : decode cL_way 1 = .ok (.iconst 0, 1) := by decide +kernel
theorem dL_way_2 : decode cL_way 2 = .ok (.aload_n 0, 1) := by decide +kernel
theorem dL_way_3 : decode cL_way 3 = .ok (.iload_n 1, 1) := by decide +kernel
theorem dL_way_4 : decode cL_way 4 = .ok (.iload_n 2, 1) := by decide +kernel
theorem dL_way_5 : decode cL_way 5 = .ok (.invokevirtual 90, 3) := by decide +kernel
theorem dL_way_8 : decode cL_way 8 = .ok (.i2l, 1) := by decide +kernel
theorem dL_way_9 : decode cL_way 9 = .ok (.lastore, 1) := by decide +kernel
theorem dL_way_10 : decode cL_way 10 = .ok (.goto 7, 3) := by decide +kernel
theorem dL_way_13 : decode cL_way 13 = .ok (.astore 4, 2) := by decide +kernel
theorem dL_way_15 : decode cL_way 15 = .ok (.iconst 1, 1) := by decide +kernel
theorem dL_way_16 : decode cL_way 16 = .ok (.ireturn, 1) := by decide +kernel
theorem dL_way_17 : decode cL_way 17 = .ok (.iconst 0, 1) := by decide +kernel
theorem dL_way_18 : decode cL_way 18 = .ok (.ireturn, 1) := by decide +kernel
theorem dL_unseen_0 : decode cL_unseen 0 = .ok (.aload_n 3, 1) := by decide +kernel
theorem dL_unseen_1 : decode cL_unseen 1 = .ok (.iconst 0, 1) := by decide +kernel
theorem dL_unseen_2 : decode cL_unseen 2 = .ok (.aload_n 0, 1) := by decide +kernel
theorem dL_unseen_3 : decode cL_unseen 3 = .ok (.iload_n 1, 1) := by decide +kernel
theorem dL_unseen_4 : decode cL_unseen 4 = .ok (.iload_n 2, 1) := by decide +kernel
theorem dL_unseen_5 : decode cL_unseen 5 = .ok (.invokevirtual 93, 3) := by decide +kernel
theorem dL_unseen_8 : decode cL_unseen 8 = .ok (.i2l, 1) := by decide +kernel
theorem dL_unseen_9 : decode cL_unseen 9 = .ok (.lastore, 1) := by decide +kernel
theorem dL_unseen_10 : decode cL_unseen 10 = .ok (.goto 11, 3) := by decide +kernel
theorem dL_unseen_13 : decode cL_unseen 13 = .ok (.astore 4, 2) := by decide +kernel
theorem dL_unseen_15 : decode cL_unseen 15 = .ok (.iconst 1, 1) := by decide +kernel
theorem dL_unseen_16 : decode cL_unseen 16 = .ok (.ireturn, 1) := by decide +kernel
theorem dL_unseen_17 : decode cL_unseen 17 = .ok (.astore 4, 2) := by decide +kernel
theorem dL_unseen_19 : decode cL_unseen 19 = .ok (.iconst 2, 1) := by decide +kernel
theorem dL_unseen_20 : decode cL_unseen 20 = .ok (.ireturn, 1) := by decide +kernel
theorem dL_unseen_21 : decode cL_unseen 21 = .ok (.iconst 0, 1) := by decide +kernel
theorem dL_unseen_22 : decode cL_unseen 22 = .ok (.ireturn, 1) := by decide +kernel
theorem dL_trap_0 : decode cL_trap 0 = .ok (.aload_n 3, 1) := by decide +kernel
theorem dL_trap_1 : decode cL_trap 1 = .ok (.iconst 0, 1) := by decide +kernel
theorem dL_trap_2 : decode cL_trap 2 = .ok (.aload_n 0, 1) := by decide +kernel
theorem dL_trap_3 : decode cL_trap 3 = .ok (.iload_n 1, 1) := by decide +kernel
theorem dL_trap_4 : decode cL_trap 4 = .ok (.iload_n 2, 1) := by decide +kernel
theorem dL_trap_5 : decode cL_trap 5 = .ok (.invokevirtual 96, 3) := by decide +kernel
theorem dL_trap_8 : decode cL_trap 8 = .ok (.i2l, 1) := by decide +kernel
theorem dL_trap_9 : decode cL_trap 9 = .ok (.lastore, 1) := by decide +kernel
theorem dL_trap_10 : decode cL_trap 10 = .ok (.goto 7, 3) := by decide +kernel
theorem dL_trap_13 : decode cL_trap 13 = .ok (.astore 4, 2) := by decide +kernel
theorem dL_trap_15 : decode cL_trap 15 = .ok (.iconst 1, 1) := by decide +kernel
theorem dL_trap_16 : decode cL_trap 16 = .ok (.ireturn, 1) := by decide +kernel
theorem dL_trap_17 : decode cL_trap 17 = .ok (.iconst 0, 1) := by decide +kernel
theorem dL_trap_18 : decode cL_trap 18 = .ok (.ireturn, 1) := by decide +kernel
theorem dL_oath_0 : decode cL_oath 0 = .ok (.aload_n 3, 1) := by decide +kernel
theorem dL_oath_1 : decode cL_oath 1 = .ok (.iconst 0, 1) := by decide +kernel
theorem dL_oath_2 : decode cL_oath 2 = .ok (.aload_n 0, 1) := by decide +kernel
theorem dL_oath_3 : decode cL_oath 3 = .ok (.iload_n 1, 1) := by decide +kernel
theorem dL_oath_4 : decode cL_oath 4 = .ok (.iload_n 2, 1) := by decide +kernel
theorem dL_oath_5 : decode cL_oath 5 = .ok (.invokevirtual 100, 3) := by decide +kernel
theorem dL_oath_8 : decode cL_oath 8 = .ok (.ifCond .eq 7, 3) := by decide +kernel
theorem dL_oath_11 : decode cL_oath 11 = .ok (.lconst 1, 1) := by decide +kernel
theorem dL_oath_12 : decode cL_oath 12 = .ok (.goto 4, 3) := by decide +kernel
theorem dL_oath_15 : decode cL_oath 15 = .ok (.lconst 0, 1) := by decide +kernel
theorem dL_oath_16 : decode cL_oath 16 = .ok (.lastore, 1) := by decide +kernel
theorem dL_oath_17 : decode cL_oath 17 = .ok (.goto 7, 3) := by decide +kernel
theorem dL_oath_20 : decode cL_oath 20 = .ok (.astore 4, 2) := by decide +kernel
theorem dL_oath_22 : decode cL_oath 22 = .ok (.iconst 1, 1) := by decide +kernel
theorem dL_oath_23 : decode cL_oath 23 = .ok (.ireturn, 1) := by decide +kernel
theorem dL_oath_24 : decode cL_oath 24 = .ok (.iconst 0, 1) := by decide +kernel
theorem dL_oath_25 : decode cL_oath 25 = .ok (.ireturn, 1) := by decide +kernel
theorem dL_shortest_0 : decode cL_shortest 0 = .ok (.aload_n 2, 1) := by decide +kernel
theorem dL_shortest_1 : decode cL_shortest 1 = .ok (.iconst 0, 1) := by decide +kernel
theorem dL_shortest_2 : decode cL_shortest 2 = .ok (.aload_n 0, 1) := by decide +kernel
theorem dL_shortest_3 : decode cL_shortest 3 = .ok (.iload_n 1, 1) := by decide +kernel
theorem dL_shortest_4 : decode cL_shortest 4 = .ok (.invokevirtual 104, 3) := by decide +kernel
theorem dL_shortest_7 : decode cL_shortest 7 = .ok (.i2l, 1) := by decide +kernel
theorem dL_shortest_8 : decode cL_shortest 8 = .ok (.lastore, 1) := by decide +kernel
theorem dL_shortest_9 : decode cL_shortest 9 = .ok (.goto 6, 3) := by decide +kernel
theorem dL_shortest_12 : decode cL_shortest 12 = .ok (.astore_n 3, 1) := by decide +kernel
theorem dL_shortest_13 : decode cL_shortest 13 = .ok (.iconst 1, 1) := by decide +kernel
theorem dL_shortest_14 : decode cL_shortest 14 = .ok (.ireturn, 1) := by decide +kernel
theorem dL_shortest_15 : decode cL_shortest 15 = .ok (.iconst 0, 1) := by decide +kernel
theorem dL_shortest_16 : decode cL_shortest 16 = .ok (.ireturn, 1) := by decide +kernel
theorem dL_alibi_0 : decode cL_alibi 0 = .ok (.aload_n 2, 1) := by decide +kernel
theorem dL_alibi_1 : decode cL_alibi 1 = .ok (.iconst 0, 1) := by decide +kernel
theorem dL_alibi_2 : decode cL_alibi 2 = .ok (.aload_n 0, 1) := by decide +kernel
theorem dL_alibi_3 : decode cL_alibi 3 = .ok (.iload_n 1, 1) := by decide +kernel
theorem dL_alibi_4 : decode cL_alibi 4 = .ok (.invokevirtual 107, 3) := by decide +kernel
theorem dL_alibi_7 : decode cL_alibi 7 = .ok (.i2l, 1) := by decide +kernel
theorem dL_alibi_8 : decode cL_alibi 8 = .ok (.lastore, 1) := by decide +kernel
theorem dL_alibi_9 : decode cL_alibi 9 = .ok (.goto 6, 3) := by decide +kernel
theorem dL_alibi_12 : decode cL_alibi 12 = .ok (.astore_n 3, 1) := by decide +kernel
theorem dL_alibi_13 : decode cL_alibi 13 = .ok (.iconst 1, 1) := by decide +kernel
theorem dL_alibi_14 : decode cL_alibi 14 = .ok (.ireturn, 1) := by decide +kernel
theorem dL_alibi_15 : decode cL_alibi 15 = .ok (.iconst 0, 1) := by decide +kernel
theorem dL_alibi_16 : decode cL_alibi 16 = .ok (.ireturn, 1) := by decide +kernel
theorem dL_odds_0 : decode cL_odds 0 = .ok (.aload_n 3, 1) := by decide +kernel
theorem dL_odds_1 : decode cL_odds 1 = .ok (.iconst 0, 1) := by decide +kernel
theorem dL_odds_2 : decode cL_odds 2 = .ok (.aload_n 0, 1) := by decide +kernel
theorem dL_odds_3 : decode cL_odds 3 = .ok (.iload_n 1, 1) := by decide +kernel
theorem dL_odds_4 : decode cL_odds 4 = .ok (.iload_n 2, 1) := by decide +kernel
theorem dL_odds_5 : decode cL_odds 5 = .ok (.invokevirtual 110, 3) := by decide +kernel
theorem dL_odds_8 : decode cL_odds 8 = .ok (.i2l, 1) := by decide +kernel
theorem dL_odds_9 : decode cL_odds 9 = .ok (.lastore, 1) := by decide +kernel
theorem dL_odds_10 : decode cL_odds 10 = .ok (.goto 11, 3) := by decide +kernel
theorem dL_odds_13 : decode cL_odds 13 = .ok (.astore 4, 2) := by decide +kernel
theorem dL_odds_15 : decode cL_odds 15 = .ok (.iconst 1, 1) := by decide +kernel
theorem dL_odds_16 : decode cL_odds 16 = .ok (.ireturn, 1) := by decide +kernel
theorem dL_odds_17 : decode cL_odds 17 = .ok (.astore 4, 2) := by decide +kernel
theorem dL_odds_19 : decode cL_odds 19 = .ok (.iconst 2, 1) := by decide +kernel
theorem dL_odds_20 : decode cL_odds 20 = .ok (.ireturn, 1) := by decide +kernel
theorem dL_odds_21 : decode cL_odds 21 = .ok (.iconst 0, 1) := by decide +kernel
theorem dL_odds_22 : decode cL_odds 22 = .ok (.ireturn, 1) := by decide +kernel
theorem dL_ahead_0 : decode cL_ahead 0 = .ok (.aload 4, 2) := by decide +kernel
theorem dL_ahead_2 : decode cL_ahead 2 = .ok (.iconst 0, 1) := by decide +kernel
theorem dL_ahead_3 : decode cL_ahead 3 = .ok (.aload_n 0, 1) := by decide +kernel
theorem dL_ahead_4 : decode cL_ahead 4 = .ok (.iload_n 1, 1) := by decide +kernel
theorem dL_ahead_5 : decode cL_ahead 5 = .ok (.iload_n 2, 1) := by decide +kernel
theorem dL_ahead_6 : decode cL_ahead 6 = .ok (.iload_n 3, 1) := by decide +kernel
theorem dL_ahead_7 : decode cL_ahead 7 = .ok (.invokevirtual 113, 3) := by decide +kernel
theorem dL_ahead_10 : decode cL_ahead 10 = .ok (.i2l, 1) := by decide +kernel
theorem dL_ahead_11 : decode cL_ahead 11 = .ok (.lastore, 1) := by decide +kernel
theorem dL_ahead_12 : decode cL_ahead 12 = .ok (.goto 11, 3) := by decide +kernel
theorem dL_ahead_15 : decode cL_ahead 15 = .ok (.astore 5, 2) := by decide +kernel
theorem dL_ahead_17 : decode cL_ahead 17 = .ok (.iconst 1, 1) := by decide +kernel
theorem dL_ahead_18 : decode cL_ahead 18 = .ok (.ireturn, 1) := by decide +kernel
theorem dL_ahead_19 : decode cL_ahead 19 = .ok (.astore 5, 2) := by decide +kernel
theorem dL_ahead_21 : decode cL_ahead 21 = .ok (.iconst 2, 1) := by decide +kernel
theorem dL_ahead_22 : decode cL_ahead 22 = .ok (.ireturn, 1) := by decide +kernel
theorem dL_ahead_23 : decode cL_ahead 23 = .ok (.iconst 0, 1) := by decide +kernel
theorem dL_ahead_24 : decode cL_ahead 24 = .ok (.ireturn, 1) := by decide +kernel
theorem dL_calm_0 : decode cL_calm 0 = .ok (.aload_n 2, 1) := by decide +kernel
theorem dL_calm_1 : decode cL_calm 1 = .ok (.iconst 0, 1) := by decide +kernel
theorem dL_calm_2 : decode cL_calm 2 = .ok (.aload_n 0, 1) := by decide +kernel
theorem dL_calm_3 : decode cL_calm 3 = .ok (.iload_n 1, 1) := by decide +kernel
theorem dL_calm_4 : decode cL_calm 4 = .ok (.invokevirtual 116, 3) := by decide +kernel
theorem dL_calm_7 : decode cL_calm 7 = .ok (.i2l, 1) := by decide +kernel
theorem dL_calm_8 : decode cL_calm 8 = .ok (.lastore, 1) := by decide +kernel
theorem dL_calm_9 : decode cL_calm 9 = .ok (.goto 6, 3) := by decide +kernel
theorem dL_calm_12 : decode cL_calm 12 = .ok (.astore_n 3, 1) := by decide +kernel
theorem dL_calm_13 : decode cL_calm 13 = .ok (.iconst 1, 1) := by decide +kernel
theorem dL_calm_14 : decode cL_calm 14 = .ok (.ireturn, 1) := by decide +kernel
theorem dL_calm_15 : decode cL_calm 15 = .ok (.iconst 0, 1) := by decide +kernel
theorem dL_calm_16 : decode cL_calm 16 = .ok (.ireturn, 1) := by decide +kernel
theorem dL_trial_0 : decode cL_trial 0 = .ok (.aload_n 3, 1) := by decide +kernel
theorem dL_trial_1 : decode cL_trial 1 = .ok (.iconst 0, 1) := by decide +kernel
theorem dL_trial_2 : decode cL_trial 2 = .ok (.aload_n 0, 1) := by decide +kernel
theorem dL_trial_3 : decode cL_trial 3 = .ok (.iload_n 1, 1) := by decide +kernel
theorem dL_trial_4 : decode cL_trial 4 = .ok (.iload_n 2, 1) := by decide +kernel
theorem dL_trial_5 : decode cL_trial 5 = .ok (.invokevirtual 119, 3) := by decide +kernel
theorem dL_trial_8 : decode cL_trial 8 = .ok (.i2l, 1) := by decide +kernel
theorem dL_trial_9 : decode cL_trial 9 = .ok (.lastore, 1) := by decide +kernel
theorem dL_trial_10 : decode cL_trial 10 = .ok (.goto 7, 3) := by decide +kernel
theorem dL_trial_13 : decode cL_trial 13 = .ok (.astore 4, 2) := by decide +kernel
theorem dL_trial_15 : decode cL_trial 15 = .ok (.iconst 1, 1) := by decide +kernel
theorem dL_trial_16 : decode cL_trial 16 = .ok (.ireturn, 1) := by decide +kernel
theorem dL_trial_17 : decode cL_trial 17 = .ok (.iconst 0, 1) := by decide +kernel
theorem dL_trial_18 : decode cL_trial 18 = .ok (.ireturn, 1) := by decide +kernel
theorem dL_span_0 : decode cL_span 0 = .ok (.aload_n 3, 1) := by decide +kernel
theorem dL_span_1 : decode cL_span 1 = .ok (.iconst 0, 1) := by decide +kernel
theorem dL_span_2 : decode cL_span 2 = .ok (.aload_n 0, 1) := by decide +kernel
theorem dL_span_3 : decode cL_span 3 = .ok (.iload_n 1, 1) := by decide +kernel
theorem dL_span_4 : decode cL_span 4 = .ok (.iload_n 2, 1) := by decide +kernel
theorem dL_span_5 : decode cL_span 5 = .ok (.invokevirtual 122, 3) := by decide +kernel
theorem dL_span_8 : decode cL_span 8 = .ok (.i2l, 1) := by decide +kernel
theorem dL_span_9 : decode cL_span 9 = .ok (.lastore, 1) := by decide +kernel
theorem dL_span_10 : decode cL_span 10 = .ok (.goto 7, 3) := by decide +kernel
theorem dL_span_13 : decode cL_span 13 = .ok (.astore 4, 2) := by decide +kernel
theorem dL_span_15 : decode cL_span 15 = .ok (.iconst 1, 1) := by decide +kernel
theorem dL_span_16 : decode cL_span 16 = .ok (.ireturn, 1) := by decide +kernel
theorem dL_span_17 : decode cL_span 17 = .ok (.iconst 0, 1) := by decide +kernel
theorem dL_span_18 : decode cL_span 18 = .ok (.ireturn, 1) := by decide +kernel
theorem dL_led_0 : decode cL_led 0 = .ok (.aload_n 3, 1) := by decide +kernel
theorem dL_led_1 : decode cL_led 1 = .ok (.iconst 0, 1) := by decide +kernel
theorem dL_led_2 : decode cL_led 2 = .ok (.aload_n 0, 1) := by decide +kernel
theorem dL_led_3 : decode cL_led 3 = .ok (.iload_n 1, 1) := by decide +kernel
theorem dL_led_4 : decode cL_led 4 = .ok (.iload_n 2, 1) := by decide +kernel
theorem dL_led_5 : decode cL_led 5 = .ok (.invokevirtual 125, 3) := by decide +kernel
theorem dL_led_8 : decode cL_led 8 = .ok (.i2l, 1) := by decide +kernel
theorem dL_led_9 : decode cL_led 9 = .ok (.lastore, 1) := by decide +kernel
theorem dL_led_10 : decode cL_led 10 = .ok (.goto 7, 3) := by decide +kernel
theorem dL_led_13 : decode cL_led 13 = .ok (.astore 4, 2) := by decide +kernel
theorem dL_led_15 : decode cL_led 15 = .ok (.iconst 1, 1) := by decide +kernel
theorem dL_led_16 : decode cL_led 16 = .ok (.ireturn, 1) := by decide +kernel
theorem dL_led_17 : decode cL_led 17 = .ok (.iconst 0, 1) := by decide +kernel
theorem dL_led_18 : decode cL_led 18 = .ok (.ireturn, 1) := by decide +kernel
theorem dL_log_0 : decode cL_log 0 = .ok (.aload_n 3, 1) := by decide +kernel
theorem dL_log_1 : decode cL_log 1 = .ok (.iconst 0, 1) := by decide +kernel
theorem dL_log_2 : decode cL_log 2 = .ok (.aload_n 0, 1) := by decide +kernel
theorem dL_log_3 : decode cL_log 3 = .ok (.iload_n 1, 1) := by decide +kernel
theorem dL_log_4 : decode cL_log 4 = .ok (.iload_n 2, 1) := by decide +kernel
theorem dL_log_5 : decode cL_log 5 = .ok (.invokevirtual 128, 3) := by decide +kernel
theorem dL_log_8 : decode cL_log 8 = .ok (.i2l, 1) := by decide +kernel
theorem dL_log_9 : decode cL_log 9 = .ok (.lastore, 1) := by decide +kernel
theorem dL_log_10 : decode cL_log 10 = .ok (.goto 7, 3) := by decide +kernel
theorem dL_log_13 : decode cL_log 13 = .ok (.astore 4, 2) := by decide +kernel
theorem dL_log_15 : decode cL_log 15 = .ok (.iconst 1, 1) := by decide +kernel
theorem dL_log_16 : decode cL_log 16 = .ok (.ireturn, 1) := by decide +kernel
theorem dL_log_17 : decode cL_log 17 = .ok (.iconst 0, 1) := by decide +kernel
theorem dL_log_18 : decode cL_log 18 = .ok (.ireturn, 1) := by decide +kernel
theorem dL_law__0 : decode cL_law_ 0 = .ok (.new 8, 3) := by decide +kernel
theorem dL_law__3 : decode cL_law_ 3 = .ok (.dup, 1) := by decide +kernel
theorem dL_law__4 : decode cL_law_ 4 = .ok (.invokespecial 131, 3) := by decide +kernel
theorem dL_law__7 : decode cL_law_ 7 = .ok (.astore_n 1, 1) := by decide +kernel
theorem dL_law__8 : decode cL_law_ 8 = .ok (.new 132, 3) := by decide +kernel
theorem dL_law__11 : decode cL_law_ 11 = .ok (.dup, 1) := by decide +kernel
theorem dL_law__12 : decode cL_law_ 12 = .ok (.invokespecial 134, 3) := by decide +kernel
theorem dL_law__15 : decode cL_law_ 15 = .ok (.astore_n 2, 1) := by decide +kernel
theorem dL_law__16 : decode cL_law_ 16 = .ok (.iconst 1, 1) := by decide +kernel
theorem dL_law__17 : decode cL_law_ 17 = .ok (.newarray .long, 2) := by decide +kernel
theorem dL_law__19 : decode cL_law_ 19 = .ok (.astore_n 3, 1) := by decide +kernel
theorem dL_law__20 : decode cL_law_ 20 = .ok (.iconst 0, 1) := by decide +kernel
theorem dL_law__21 : decode cL_law_ 21 = .ok (.istore 4, 2) := by decide +kernel
theorem dL_law__23 : decode cL_law_ 23 = .ok (.iload 4, 2) := by decide +kernel
theorem dL_law__25 : decode cL_law_ 25 = .ok (.aload_n 0, 1) := by decide +kernel
theorem dL_law__26 : decode cL_law_ 26 = .ok (.arraylength, 1) := by decide +kernel
theorem dL_law__27 : decode cL_law_ 27 = .ok (.bipush 6, 2) := by decide +kernel
theorem dL_law__29 : decode cL_law_ 29 = .ok (.isub, 1) := by decide +kernel
theorem dL_law__30 : decode cL_law_ 30 = .ok (.if_icmp .gt 2871, 3) := by decide +kernel
theorem dL_law__33 : decode cL_law_ 33 = .ok (.aload_n 0, 1) := by decide +kernel
theorem dL_law__34 : decode cL_law_ 34 = .ok (.iload 4, 2) := by decide +kernel
theorem dL_law__36 : decode cL_law_ 36 = .ok (.iaload, 1) := by decide +kernel
theorem dL_law__37 : decode cL_law_ 37 = .ok (.bipush 63, 2) := by decide +kernel
theorem dL_law__39 : decode cL_law_ 39 = .ok (.iand, 1) := by decide +kernel
theorem dL_law__40 : decode cL_law_ 40 = .ok (.tableswitch 2855 0 48 #[212, 285, 310, 354, 398, 411, 479, 547, 643, 747, 815, 883, 951, 1042, 1090, 1146, 1202, 1215, 1228, 1284, 1297, 1365, 1433, 1501, 1542, 1598, 1611, 1624, 1692, 1705, 1777, 1821, 1889, 1957, 2041, 2116, 2172, 2228, 2296, 2392, 2448, 2532, 2616, 2700, 2768, 2793, 2806, 2817, 2830], 212) := by decide +kernel
theorem dL_law__252 : decode cL_law_ 252 = .ok (.aload_n 1, 1) := by decide +kernel
theorem dL_law__253 : decode cL_law_ 253 = .ok (.aload_n 0, 1) := by decide +kernel
theorem dL_law__254 : decode cL_law_ 254 = .ok (.iload 4, 2) := by decide +kernel
theorem dL_law__256 : decode cL_law_ 256 = .ok (.iconst 1, 1) := by decide +kernel
theorem dL_law__257 : decode cL_law_ 257 = .ok (.iadd, 1) := by decide +kernel
theorem dL_law__258 : decode cL_law_ 258 = .ok (.iaload, 1) := by decide +kernel
theorem dL_law__259 : decode cL_law_ 259 = .ok (.aload_n 0, 1) := by decide +kernel
theorem dL_law__260 : decode cL_law_ 260 = .ok (.iload 4, 2) := by decide +kernel
theorem dL_law__262 : decode cL_law_ 262 = .ok (.iconst 2, 1) := by decide +kernel
theorem dL_law__263 : decode cL_law_ 263 = .ok (.iadd, 1) := by decide +kernel
theorem dL_law__264 : decode cL_law_ 264 = .ok (.iaload, 1) := by decide +kernel
theorem dL_law__265 : decode cL_law_ 265 = .ok (.aload_n 0, 1) := by decide +kernel
theorem dL_law__266 : decode cL_law_ 266 = .ok (.iload 4, 2) := by decide +kernel
theorem dL_law__268 : decode cL_law_ 268 = .ok (.iconst 3, 1) := by decide +kernel
theorem dL_law__269 : decode cL_law_ 269 = .ok (.iadd, 1) := by decide +kernel
theorem dL_law__270 : decode cL_law_ 270 = .ok (.iaload, 1) := by decide +kernel
theorem dL_law__271 : decode cL_law_ 271 = .ok (.aload_n 0, 1) := by decide +kernel
theorem dL_law__272 : decode cL_law_ 272 = .ok (.iload 4, 2) := by decide +kernel
theorem dL_law__274 : decode cL_law_ 274 = .ok (.iconst 4, 1) := by decide +kernel
theorem dL_law__275 : decode cL_law_ 275 = .ok (.iadd, 1) := by decide +kernel
theorem dL_law__276 : decode cL_law_ 276 = .ok (.iaload, 1) := by decide +kernel
theorem dL_law__277 : decode cL_law_ 277 = .ok (.aload_n 0, 1) := by decide +kernel
theorem dL_law__278 : decode cL_law_ 278 = .ok (.iload 4, 2) := by decide +kernel
theorem dL_law__280 : decode cL_law_ 280 = .ok (.iconst 5, 1) := by decide +kernel
theorem dL_law__281 : decode cL_law_ 281 = .ok (.iadd, 1) := by decide +kernel
theorem dL_law__282 : decode cL_law_ 282 = .ok (.iaload, 1) := by decide +kernel
theorem dL_law__283 : decode cL_law_ 283 = .ok (.invokevirtual 135, 3) := by decide +kernel
theorem dL_law__286 : decode cL_law_ 286 = .ok (.aload_n 2, 1) := by decide +kernel
theorem dL_law__287 : decode cL_law_ 287 = .ok (.aload_n 0, 1) := by decide +kernel
theorem dL_law__288 : decode cL_law_ 288 = .ok (.iload 4, 2) := by decide +kernel
theorem dL_law__290 : decode cL_law_ 290 = .ok (.iconst 1, 1) := by decide +kernel
theorem dL_law__291 : decode cL_law_ 291 = .ok (.iadd, 1) := by decide +kernel
theorem dL_law__292 : decode cL_law_ 292 = .ok (.iaload, 1) := by decide +kernel
theorem dL_law__293 : decode cL_law_ 293 = .ok (.aload_n 0, 1) := by decide +kernel
theorem dL_law__294 : decode cL_law_ 294 = .ok (.iload 4, 2) := by decide +kernel
theorem dL_law__296 : decode cL_law_ 296 = .ok (.iconst 2, 1) := by decide +kernel
theorem dL_law__297 : decode cL_law_ 297 = .ok (.iadd, 1) := by decide +kernel
theorem dL_law__298 : decode cL_law_ 298 = .ok (.iaload, 1) := by decide +kernel
theorem dL_law__299 : decode cL_law_ 299 = .ok (.aload_n 0, 1) := by decide +kernel
theorem dL_law__300 : decode cL_law_ 300 = .ok (.iload 4, 2) := by decide +kernel
theorem dL_law__302 : decode cL_law_ 302 = .ok (.iconst 3, 1) := by decide +kernel
theorem dL_law__303 : decode cL_law_ 303 = .ok (.iadd, 1) := by decide +kernel
theorem dL_law__304 : decode cL_law_ 304 = .ok (.iaload, 1) := by decide +kernel
theorem dL_law__305 : decode cL_law_ 305 = .ok (.aload_n 0, 1) := by decide +kernel
theorem dL_law__306 : decode cL_law_ 306 = .ok (.iload 4, 2) := by decide +kernel
theorem dL_law__308 : decode cL_law_ 308 = .ok (.iconst 4, 1) := by decide +kernel
theorem dL_law__309 : decode cL_law_ 309 = .ok (.iadd, 1) := by decide +kernel
theorem dL_law__310 : decode cL_law_ 310 = .ok (.iaload, 1) := by decide +kernel
theorem dL_law__311 : decode cL_law_ 311 = .ok (.aload_n 0, 1) := by decide +kernel
theorem dL_law__312 : decode cL_law_ 312 = .ok (.iload 4, 2) := by decide +kernel
theorem dL_law__314 : decode cL_law_ 314 = .ok (.iconst 5, 1) := by decide +kernel
theorem dL_law__315 : decode cL_law_ 315 = .ok (.iadd, 1) := by decide +kernel
theorem dL_law__316 : decode cL_law_ 316 = .ok (.iaload, 1) := by decide +kernel
theorem dL_law__317 : decode cL_law_ 317 = .ok (.invokevirtual 138, 3) := by decide +kernel
theorem dL_law__320 : decode cL_law_ 320 = .ok (.if_icmp .eq 2575, 3) := by decide +kernel
theorem dL_law__323 : decode cL_law_ 323 = .ok (.iconst 0, 1) := by decide +kernel
theorem dL_law__324 : decode cL_law_ 324 = .ok (.ireturn, 1) := by decide +kernel
theorem dL_law__325 : decode cL_law_ 325 = .ok (.aload_n 1, 1) := by decide +kernel
theorem dL_law__326 : decode cL_law_ 326 = .ok (.aload_n 0, 1) := by decide +kernel
theorem dL_law__327 : decode cL_law_ 327 = .ok (.iload 4, 2) := by decide +kernel
theorem dL_law__329 : decode cL_law_ 329 = .ok (.iconst 1, 1) := by decide +kernel
theorem dL_law__330 : decode cL_law_ 330 = .ok (.iadd, 1) := by decide +kernel
theorem dL_law__331 : decode cL_law_ 331 = .ok (.iaload, 1) := by decide +kernel
theorem dL_law__332 : decode cL_law_ 332 = .ok (.invokevirtual 139, 3) := by decide +kernel
theorem dL_law__335 : decode cL_law_ 335 = .ok (.aload_n 2, 1) := by decide +kernel
theorem dL_law__336 : decode cL_law_ 336 = .ok (.aload_n 0, 1) := by decide +kernel
theorem dL_law__337 : decode cL_law_ 337 = .ok (.iload 4, 2) := by decide +kernel
theorem dL_law__339 : decode cL_law_ 339 = .ok (.iconst 1, 1) := by decide +kernel
theorem dL_law__340 : decode cL_law_ 340 = .ok (.iadd, 1) := by decide +kernel
theorem dL_law__341 : decode cL_law_ 341 = .ok (.iaload, 1) := by decide +kernel
theorem dL_law__342 : decode cL_law_ 342 = .ok (.invokevirtual 143, 3) := by decide +kernel
theorem dL_law__345 : decode cL_law_ 345 = .ok (.if_icmp .eq 2550, 3) := by decide +kernel
theorem dL_law__348 : decode cL_law_ 348 = .ok (.iconst 0, 1) := by decide +kernel
theorem dL_law__349 : decode cL_law_ 349 = .ok (.ireturn, 1) := by decide +kernel
theorem dL_law__350 : decode cL_law_ 350 = .ok (.aload_n 1, 1) := by decide +kernel
theorem dL_law__351 : decode cL_law_ 351 = .ok (.aload_n 3, 1) := by decide +kernel
theorem dL_law__352 : decode cL_law_ 352 = .ok (.invokestatic 144, 3) := by decide +kernel
theorem dL_law__355 : decode cL_law_ 355 = .ok (.istore 5, 2) := by decide +kernel
theorem dL_law__357 : decode cL_law_ 357 = .ok (.aload_n 2, 1) := by decide +kernel
theorem dL_law__358 : decode cL_law_ 358 = .ok (.invokevirtual 149, 3) := by decide +kernel
theorem dL_law__361 : decode cL_law_ 361 = .ok (.istore 6, 2) := by decide +kernel
theorem dL_law__363 : decode cL_law_ 363 = .ok (.aload_n 2, 1) := by decide +kernel
theorem dL_law__364 : decode cL_law_ 364 = .ok (.invokevirtual 150, 3) := by decide +kernel
theorem dL_law__367 : decode cL_law_ 367 = .ok (.iload 5, 2) := by decide +kernel
theorem dL_law__369 : decode cL_law_ 369 = .ok (.if_icmp .eq 5, 3) := by decide +kernel
theorem dL_law__372 : decode cL_law_ 372 = .ok (.iconst 0, 1) := by decide +kernel
theorem dL_law__373 : decode cL_law_ 373 = .ok (.ireturn, 1) := by decide +kernel
theorem dL_law__374 : decode cL_law_ 374 = .ok (.iload 5, 2) := by decide +kernel
theorem dL_law__376 : decode cL_law_ 376 = .ok (.ifCond .ne 15, 3) := by decide +kernel
theorem dL_law__379 : decode cL_law_ 379 = .ok (.aload_n 3, 1) := by decide +kernel
theorem dL_law__380 : decode cL_law_ 380 = .ok (.iconst 0, 1) := by decide +kernel
theorem dL_law__381 : decode cL_law_ 381 = .ok (.laload, 1) := by decide +kernel
theorem dL_law__382 : decode cL_law_ 382 = .ok (.iload 6, 2) := by decide +kernel
theorem dL_law__384 : decode cL_law_ 384 = .ok (.i2l, 1) := by decide +kernel
theorem dL_law__385 : decode cL_law_ 385 = .ok (.lcmp, 1) := by decide +kernel
theorem dL_law__386 : decode cL_law_ 386 = .ok (.ifCond .eq 5, 3) := by decide +kernel
theorem dL_law__389 : decode cL_law_ 389 = .ok (.iconst 0, 1) := by decide +kernel
theorem dL_law__390 : decode cL_law_ 390 = .ok (.ireturn, 1) := by decide +kernel
theorem dL_law__391 : decode cL_law_ 391 = .ok (.goto 2504, 3) := by decide +kernel
theorem dL_law__394 : decode cL_law_ 394 = .ok (.aload_n 1, 1) := by decide +kernel
theorem dL_law__395 : decode cL_law_ 395 = .ok (.aload_n 3, 1) := by decide +kernel
theorem dL_law__396 : decode cL_law_ 396 = .ok (.invokestatic 153, 3) := by decide +kernel
theorem dL_law__399 : decode cL_law_ 399 = .ok (.istore 5, 2) := by decide +kernel
theorem dL_law__401 : decode cL_law_ 401 = .ok (.aload_n 2, 1) := by decide +kernel
theorem dL_law__402 : decode cL_law_ 402 = .ok (.invokevirtual 155, 3) := by decide +kernel
theorem dL_law__405 : decode cL_law_ 405 = .ok (.istore 6, 2) := by decide +kernel
theorem dL_law__407 : decode cL_law_ 407 = .ok (.aload_n 2, 1) := by decide +kernel
theorem dL_law__408 : decode cL_law_ 408 = .ok (.invokevirtual 150, 3) := by decide +kernel
theorem dL_law__411 : decode cL_law_ 411 = .ok (.iload 5, 2) := by decide +kernel
theorem dL_law__413 : decode cL_law_ 413 = .ok (.if_icmp .eq 5, 3) := by decide +kernel
theorem dL_law__416 : decode cL_law_ 416 = .ok (.iconst 0, 1) := by decide +kernel
theorem dL_law__417 : decode cL_law_ 417 = .ok (.ireturn, 1) := by decide +kernel
theorem dL_law__418 : decode cL_law_ 418 = .ok (.iload 5, 2) := by decide +kernel
theorem dL_law__420 : decode cL_law_ 420 = .ok (.ifCond .ne 15, 3) := by decide +kernel
theorem dL_law__423 : decode cL_law_ 423 = .ok (.aload_n 3, 1) := by decide +kernel
theorem dL_law__424 : decode cL_law_ 424 = .ok (.iconst 0, 1) := by decide +kernel
theorem dL_law__425 : decode cL_law_ 425 = .ok (.laload, 1) := by decide +kernel
theorem dL_law__426 : decode cL_law_ 426 = .ok (.iload 6, 2) := by decide +kernel
theorem dL_law__428 : decode cL_law_ 428 = .ok (.i2l, 1) := by decide +kernel
theorem dL_law__429 : decode cL_law_ 429 = .ok (.lcmp, 1) := by decide +kernel
theorem dL_law__430 : decode cL_law_ 430 = .ok (.ifCond .eq 5, 3) := by decide +kernel
theorem dL_law__433 : decode cL_law_ 433 = .ok (.iconst 0, 1) := by decide +kernel
theorem dL_law__434 : decode cL_law_ 434 = .ok (.ireturn, 1) := by decide +kernel
theorem dL_law__435 : decode cL_law_ 435 = .ok (.goto 2460, 3) := by decide +kernel
theorem dL_law__438 : decode cL_law_ 438 = .ok (.aload_n 1, 1) := by decide +kernel
theorem dL_law__439 : decode cL_law_ 439 = .ok (.invokevirtual 156, 3) := by decide +kernel
theorem dL_law__442 : decode cL_law_ 442 = .ok (.aload_n 2, 1) := by decide +kernel
theorem dL_law__443 : decode cL_law_ 443 = .ok (.invokevirtual 159, 3) := by decide +kernel
theorem dL_law__446 : decode cL_law_ 446 = .ok (.if_icmp .eq 2449, 3) := by decide +kernel
theorem dL_law__449 : decode cL_law_ 449 = .ok (.iconst 0, 1) := by decide +kernel
theorem dL_law__450 : decode cL_law_ 450 = .ok (.ireturn, 1) := by decide +kernel
theorem dL_law__451 : decode cL_law_ 451 = .ok (.aload_n 1, 1) := by decide +kernel
theorem dL_law__452 : decode cL_law_ 452 = .ok (.aload_n 0, 1) := by decide +kernel
theorem dL_law__453 : decode cL_law_ 453 = .ok (.iload 4, 2) := by decide +kernel
theorem dL_law__455 : decode cL_law_ 455 = .ok (.iconst 1, 1) := by decide +kernel
theorem dL_law__456 : decode cL_law_ 456 = .ok (.iadd, 1) := by decide +kernel
theorem dL_law__457 : decode cL_law_ 457 = .ok (.iaload, 1) := by decide +kernel
theorem dL_law__458 : decode cL_law_ 458 = .ok (.aload_n 0, 1) := by decide +kernel
theorem dL_law__459 : decode cL_law_ 459 = .ok (.iload 4, 2) := by decide +kernel
theorem dL_law__461 : decode cL_law_ 461 = .ok (.iconst 2, 1) := by decide +kernel
theorem dL_law__462 : decode cL_law_ 462 = .ok (.iadd, 1) := by decide +kernel
theorem dL_law__463 : decode cL_law_ 463 = .ok (.iaload, 1) := by decide +kernel
theorem dL_law__464 : decode cL_law_ 464 = .ok (.aload_n 3, 1) := by decide +kernel
theorem dL_law__465 : decode cL_law_ 465 = .ok (.invokestatic 160, 3) := by decide +kernel
theorem dL_law__468 : decode cL_law_ 468 = .ok (.istore 5, 2) := by decide +kernel
theorem dL_law__470 : decode cL_law_ 470 = .ok (.aload_n 2, 1) := by decide +kernel
theorem dL_law__471 : decode cL_law_ 471 = .ok (.aload_n 0, 1) := by decide +kernel
theorem dL_law__472 : decode cL_law_ 472 = .ok (.iload 4, 2) := by decide +kernel
theorem dL_law__474 : decode cL_law_ 474 = .ok (.iconst 1, 1) := by decide +kernel
theorem dL_law__475 : decode cL_law_ 475 = .ok (.iadd, 1) := by decide +kernel
theorem dL_law__476 : decode cL_law_ 476 = .ok (.iaload, 1) := by decide +kernel
theorem dL_law__477 : decode cL_law_ 477 = .ok (.aload_n 0, 1) := by decide +kernel
theorem dL_law__478 : decode cL_law_ 478 = .ok (.iload 4, 2) := by decide +kernel
theorem dL_law__480 : decode cL_law_ 480 = .ok (.iconst 2, 1) := by decide +kernel
theorem dL_law__481 : decode cL_law_ 481 = .ok (.iadd, 1) := by decide +kernel
theorem dL_law__482 : decode cL_law_ 482 = .ok (.iaload, 1) := by decide +kernel
theorem dL_law__483 : decode cL_law_ 483 = .ok (.invokevirtual 163, 3) := by decide +kernel
theorem dL_law__486 : decode cL_law_ 486 = .ok (.istore 6, 2) := by decide +kernel
theorem dL_law__488 : decode cL_law_ 488 = .ok (.aload_n 2, 1) := by decide +kernel
theorem dL_law__489 : decode cL_law_ 489 = .ok (.invokevirtual 150, 3) := by decide +kernel
theorem dL_law__492 : decode cL_law_ 492 = .ok (.iload 5, 2) := by decide +kernel
theorem dL_law__494 : decode cL_law_ 494 = .ok (.if_icmp .eq 5, 3) := by decide +kernel
theorem dL_law__497 : decode cL_law_ 497 = .ok (.iconst 0, 1) := by decide +kernel
theorem dL_law__498 : decode cL_law_ 498 = .ok (.ireturn, 1) := by decide +kernel
theorem dL_law__499 : decode cL_law_ 499 = .ok (.iload 5, 2) := by decide +kernel
theorem dL_law__501 : decode cL_law_ 501 = .ok (.ifCond .ne 15, 3) := by decide +kernel
theorem dL_law__504 : decode cL_law_ 504 = .ok (.aload_n 3, 1) := by decide +kernel
theorem dL_law__505 : decode cL_law_ 505 = .ok (.iconst 0, 1) := by decide +kernel
theorem dL_law__506 : decode cL_law_ 506 = .ok (.laload, 1) := by decide +kernel
theorem dL_law__507 : decode cL_law_ 507 = .ok (.iload 6, 2) := by decide +kernel
theorem dL_law__509 : decode cL_law_ 509 = .ok (.i2l, 1) := by decide +kernel
theorem dL_law__510 : decode cL_law_ 510 = .ok (.lcmp, 1) := by decide +kernel
theorem dL_law__511 : decode cL_law_ 511 = .ok (.ifCond .eq 5, 3) := by decide +kernel
theorem dL_law__514 : decode cL_law_ 514 = .ok (.iconst 0, 1) := by decide +kernel
theorem dL_law__515 : decode cL_law_ 515 = .ok (.ireturn, 1) := by decide +kernel
theorem dL_law__516 : decode cL_law_ 516 = .ok (.goto 2379, 3) := by decide +kernel
theorem dL_law__519 : decode cL_law_ 519 = .ok (.aload_n 1, 1) := by decide +kernel
theorem dL_law__520 : decode cL_law_ 520 = .ok (.aload_n 0, 1) := by decide +kernel
theorem dL_law__521 : decode cL_law_ 521 = .ok (.iload 4, 2) := by decide +kernel
theorem dL_law__523 : decode cL_law_ 523 = .ok (.iconst 1, 1) := by decide +kernel
theorem dL_law__524 : decode cL_law_ 524 = .ok (.iadd, 1) := by decide +kernel
theorem dL_law__525 : decode cL_law_ 525 = .ok (.iaload, 1) := by decide +kernel
theorem dL_law__526 : decode cL_law_ 526 = .ok (.aload_n 0, 1) := by decide +kernel
theorem dL_law__527 : decode cL_law_ 527 = .ok (.iload 4, 2) := by decide +kernel
theorem dL_law__529 : decode cL_law_ 529 = .ok (.iconst 2, 1) := by decide +kernel
theorem dL_law__530 : decode cL_law_ 530 = .ok (.iadd, 1) := by decide +kernel
theorem dL_law__531 : decode cL_law_ 531 = .ok (.iaload, 1) := by decide +kernel
theorem dL_law__532 : decode cL_law_ 532 = .ok (.aload_n 3, 1) := by decide +kernel
theorem dL_law__533 : decode cL_law_ 533 = .ok (.invokestatic 164, 3) := by decide +kernel
theorem dL_law__536 : decode cL_law_ 536 = .ok (.istore 5, 2) := by decide +kernel
theorem dL_law__538 : decode cL_law_ 538 = .ok (.aload_n 2, 1) := by decide +kernel
theorem dL_law__539 : decode cL_law_ 539 = .ok (.aload_n 0, 1) := by decide +kernel
theorem dL_law__540 : decode cL_law_ 540 = .ok (.iload 4, 2) := by decide +kernel
theorem dL_law__542 : decode cL_law_ 542 = .ok (.iconst 1, 1) := by decide +kernel
theorem dL_law__543 : decode cL_law_ 543 = .ok (.iadd, 1) := by decide +kernel
theorem dL_law__544 : decode cL_law_ 544 = .ok (.iaload, 1) := by decide +kernel
theorem dL_law__545 : decode cL_law_ 545 = .ok (.aload_n 0, 1) := by decide +kernel
theorem dL_law__546 : decode cL_law_ 546 = .ok (.iload 4, 2) := by decide +kernel
theorem dL_law__548 : decode cL_law_ 548 = .ok (.iconst 2, 1) := by decide +kernel
theorem dL_law__549 : decode cL_law_ 549 = .ok (.iadd, 1) := by decide +kernel
theorem dL_law__550 : decode cL_law_ 550 = .ok (.iaload, 1) := by decide +kernel
theorem dL_law__551 : decode cL_law_ 551 = .ok (.invokevirtual 166, 3) := by decide +kernel
theorem dL_law__554 : decode cL_law_ 554 = .ok (.istore 6, 2) := by decide +kernel
theorem dL_law__556 : decode cL_law_ 556 = .ok (.aload_n 2, 1) := by decide +kernel
theorem dL_law__557 : decode cL_law_ 557 = .ok (.invokevirtual 150, 3) := by decide +kernel
theorem dL_law__560 : decode cL_law_ 560 = .ok (.iload 5, 2) := by decide +kernel
theorem dL_law__562 : decode cL_law_ 562 = .ok (.if_icmp .eq 5, 3) := by decide +kernel
theorem dL_law__565 : decode cL_law_ 565 = .ok (.iconst 0, 1) := by decide +kernel
theorem dL_law__566 : decode cL_law_ 566 = .ok (.ireturn, 1) := by decide +kernel
theorem dL_law__567 : decode cL_law_ 567 = .ok (.iload 5, 2) := by decide +kernel
theorem dL_law__569 : decode cL_law_ 569 = .ok (.ifCond .ne 15, 3) := by decide +kernel
theorem dL_law__572 : decode cL_law_ 572 = .ok (.aload_n 3, 1) := by decide +kernel
