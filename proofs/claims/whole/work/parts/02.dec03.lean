theorem dX5_finds_24 : decode cX5_finds 24 = .ok (.goto 5, 3) := by decide +kernel
theorem dX5_finds_27 : decode cX5_finds 27 = .ok (.bipush (-2), 2) := by decide +kernel
theorem dX5_finds_29 : decode cX5_finds 29 = .ok (.invokevirtual 82, 3) := by decide +kernel
theorem dX5_finds_32 : decode cX5_finds 32 = .ok (.ireturn, 1) := by decide +kernel
theorem dX5_found_0 : decode cX5_found 0 = .ok (.iload_n 1, 1) := by decide +kernel
theorem dX5_found_1 : decode cX5_found 1 = .ok (.iload_n 2, 1) := by decide +kernel
theorem dX5_found_2 : decode cX5_found 2 = .ok (.iload_n 3, 1) := by decide +kernel
theorem dX5_found_3 : decode cX5_found 3 = .ok (.invokestatic 98, 3) := by decide +kernel
theorem dX5_found_6 : decode cX5_found 6 = .ok (.ifCond .eq 8, 3) := by decide +kernel
theorem dX5_found_9 : decode cX5_found 9 = .ok (.iload 4, 2) := by decide +kernel
theorem dX5_found_11 : decode cX5_found 11 = .ok (.ifCond .ge 10, 3) := by decide +kernel
theorem dX5_found_14 : decode cX5_found 14 = .ok (.aload_n 0, 1) := by decide +kernel
theorem dX5_found_15 : decode cX5_found 15 = .ok (.bipush (-2), 2) := by decide +kernel
theorem dX5_found_17 : decode cX5_found 17 = .ok (.invokevirtual 82, 3) := by decide +kernel
theorem dX5_found_20 : decode cX5_found 20 = .ok (.ireturn, 1) := by decide +kernel
theorem dX5_found_21 : decode cX5_found 21 = .ok (.iload 4, 2) := by decide +kernel
theorem dX5_found_23 : decode cX5_found 23 = .ok (.aload_n 0, 1) := by decide +kernel
theorem dX5_found_24 : decode cX5_found 24 = .ok (.getfield 33, 3) := by decide +kernel
theorem dX5_found_27 : decode cX5_found 27 = .ok (.aload_n 0, 1) := by decide +kernel
theorem dX5_found_28 : decode cX5_found 28 = .ok (.getfield 12, 3) := by decide +kernel
theorem dX5_found_31 : decode cX5_found 31 = .ok (.iload_n 1, 1) := by decide +kernel
theorem dX5_found_32 : decode cX5_found 32 = .ok (.iload_n 2, 1) := by decide +kernel
theorem dX5_found_33 : decode cX5_found 33 = .ok (.iload_n 3, 1) := by decide +kernel
theorem dX5_found_34 : decode cX5_found 34 = .ok (.invokevirtual 102, 3) := by decide +kernel
theorem dX5_found_37 : decode cX5_found 37 = .ok (.if_icmp .ge 15, 3) := by decide +kernel
theorem dX5_found_40 : decode cX5_found 40 = .ok (.aload_n 0, 1) := by decide +kernel
theorem dX5_found_41 : decode cX5_found 41 = .ok (.getfield 33, 3) := by decide +kernel
theorem dX5_found_44 : decode cX5_found 44 = .ok (.iload 4, 2) := by decide +kernel
theorem dX5_found_46 : decode cX5_found 46 = .ok (.invokevirtual 106, 3) := by decide +kernel
theorem dX5_found_49 : decode cX5_found 49 = .ok (.goto 4, 3) := by decide +kernel
theorem dX5_found_52 : decode cX5_found 52 = .ok (.iconst (-1), 1) := by decide +kernel
theorem dX5_found_53 : decode cX5_found 53 = .ok (.ireturn, 1) := by decide +kernel
theorem dX5_rows_0 : decode cX5_rows 0 = .ok (.iload_n 1, 1) := by decide +kernel
theorem dX5_rows_1 : decode cX5_rows 1 = .ok (.iconst 3, 1) := by decide +kernel
theorem dX5_rows_2 : decode cX5_rows 2 = .ok (.invokestatic 85, 3) := by decide +kernel
theorem dX5_rows_5 : decode cX5_rows 5 = .ok (.ifCond .eq 15, 3) := by decide +kernel
theorem dX5_rows_8 : decode cX5_rows 8 = .ok (.iload_n 2, 1) := by decide +kernel
theorem dX5_rows_9 : decode cX5_rows 9 = .ok (.iconst 5, 1) := by decide +kernel
theorem dX5_rows_10 : decode cX5_rows 10 = .ok (.invokestatic 85, 3) := by decide +kernel
theorem dX5_rows_13 : decode cX5_rows 13 = .ok (.ifCond .eq 7, 3) := by decide +kernel
theorem dX5_rows_16 : decode cX5_rows 16 = .ok (.iconst 1, 1) := by decide +kernel
theorem dX5_rows_17 : decode cX5_rows 17 = .ok (.goto 4, 3) := by decide +kernel
theorem dX5_rows_20 : decode cX5_rows 20 = .ok (.iconst 0, 1) := by decide +kernel
theorem dX5_rows_21 : decode cX5_rows 21 = .ok (.istore_n 3, 1) := by decide +kernel
theorem dX5_rows_22 : decode cX5_rows 22 = .ok (.aload_n 0, 1) := by decide +kernel
theorem dX5_rows_23 : decode cX5_rows 23 = .ok (.iload_n 3, 1) := by decide +kernel
theorem dX5_rows_24 : decode cX5_rows 24 = .ok (.ifCond .eq 19, 3) := by decide +kernel
theorem dX5_rows_27 : decode cX5_rows 27 = .ok (.aload_n 0, 1) := by decide +kernel
theorem dX5_rows_28 : decode cX5_rows 28 = .ok (.getfield 33, 3) := by decide +kernel
theorem dX5_rows_31 : decode cX5_rows 31 = .ok (.aload_n 0, 1) := by decide +kernel
theorem dX5_rows_32 : decode cX5_rows 32 = .ok (.getfield 12, 3) := by decide +kernel
theorem dX5_rows_35 : decode cX5_rows 35 = .ok (.iload_n 1, 1) := by decide +kernel
theorem dX5_rows_36 : decode cX5_rows 36 = .ok (.iload_n 2, 1) := by decide +kernel
theorem dX5_rows_37 : decode cX5_rows 37 = .ok (.invokevirtual 109, 3) := by decide +kernel
theorem dX5_rows_40 : decode cX5_rows 40 = .ok (.goto 5, 3) := by decide +kernel
theorem dX5_rows_43 : decode cX5_rows 43 = .ok (.bipush (-2), 2) := by decide +kernel
theorem dX5_rows_45 : decode cX5_rows 45 = .ok (.invokevirtual 82, 3) := by decide +kernel
theorem dX5_rows_48 : decode cX5_rows 48 = .ok (.ireturn, 1) := by decide +kernel
theorem dX5_plans_0 : decode cX5_plans 0 = .ok (.aload_n 0, 1) := by decide +kernel
theorem dX5_plans_1 : decode cX5_plans 1 = .ok (.getfield 19, 3) := by decide +kernel
theorem dX5_plans_4 : decode cX5_plans 4 = .ok (.aload_n 0, 1) := by decide +kernel
theorem dX5_plans_5 : decode cX5_plans 5 = .ok (.getfield 12, 3) := by decide +kernel
theorem dX5_plans_8 : decode cX5_plans 8 = .ok (.invokevirtual 41, 3) := by decide +kernel
theorem dX5_plans_11 : decode cX5_plans 11 = .ok (.aload_n 0, 1) := by decide +kernel
theorem dX5_plans_12 : decode cX5_plans 12 = .ok (.aload_n 0, 1) := by decide +kernel
theorem dX5_plans_13 : decode cX5_plans 13 = .ok (.getfield 12, 3) := by decide +kernel
theorem dX5_plans_16 : decode cX5_plans 16 = .ok (.iload_n 1, 1) := by decide +kernel
theorem dX5_plans_17 : decode cX5_plans 17 = .ok (.invokevirtual 113, 3) := by decide +kernel
theorem dX5_plans_20 : decode cX5_plans 20 = .ok (.invokevirtual 49, 3) := by decide +kernel
theorem dX5_plans_23 : decode cX5_plans 23 = .ok (.ireturn, 1) := by decide +kernel
theorem dX5_scraps_0 : decode cX5_scraps 0 = .ok (.aload_n 0, 1) := by decide +kernel
theorem dX5_scraps_1 : decode cX5_scraps 1 = .ok (.getfield 19, 3) := by decide +kernel
theorem dX5_scraps_4 : decode cX5_scraps 4 = .ok (.aload_n 0, 1) := by decide +kernel
theorem dX5_scraps_5 : decode cX5_scraps 5 = .ok (.getfield 12, 3) := by decide +kernel
theorem dX5_scraps_8 : decode cX5_scraps 8 = .ok (.invokevirtual 41, 3) := by decide +kernel
theorem dX5_scraps_11 : decode cX5_scraps 11 = .ok (.aload_n 0, 1) := by decide +kernel
theorem dX5_scraps_12 : decode cX5_scraps 12 = .ok (.aload_n 0, 1) := by decide +kernel
theorem dX5_scraps_13 : decode cX5_scraps 13 = .ok (.getfield 12, 3) := by decide +kernel
theorem dX5_scraps_16 : decode cX5_scraps 16 = .ok (.invokevirtual 116, 3) := by decide +kernel
theorem dX5_scraps_19 : decode cX5_scraps 19 = .ok (.invokevirtual 49, 3) := by decide +kernel
theorem dX5_scraps_22 : decode cX5_scraps 22 = .ok (.ireturn, 1) := by decide +kernel
theorem dX5_judges_0 : decode cX5_judges 0 = .ok (.aload_n 0, 1) := by decide +kernel
theorem dX5_judges_1 : decode cX5_judges 1 = .ok (.getfield 12, 3) := by decide +kernel
theorem dX5_judges_4 : decode cX5_judges 4 = .ok (.invokevirtual 119, 3) := by decide +kernel
theorem dX5_judges_7 : decode cX5_judges 7 = .ok (.ireturn, 1) := by decide +kernel
theorem dX5_planned_0 : decode cX5_planned 0 = .ok (.aload_n 0, 1) := by decide +kernel
theorem dX5_planned_1 : decode cX5_planned 1 = .ok (.aload_n 0, 1) := by decide +kernel
theorem dX5_planned_2 : decode cX5_planned 2 = .ok (.getfield 12, 3) := by decide +kernel
theorem dX5_planned_5 : decode cX5_planned 5 = .ok (.iload_n 1, 1) := by decide +kernel
theorem dX5_planned_6 : decode cX5_planned 6 = .ok (.iload_n 2, 1) := by decide +kernel
theorem dX5_planned_7 : decode cX5_planned 7 = .ok (.invokevirtual 122, 3) := by decide +kernel
theorem dX5_planned_10 : decode cX5_planned 10 = .ok (.invokevirtual 82, 3) := by decide +kernel
theorem dX5_planned_13 : decode cX5_planned 13 = .ok (.ireturn, 1) := by decide +kernel
theorem dX5_count_0 : decode cX5_count 0 = .ok (.aload_n 0, 1) := by decide +kernel
theorem dX5_count_1 : decode cX5_count 1 = .ok (.aload_n 0, 1) := by decide +kernel
theorem dX5_count_2 : decode cX5_count 2 = .ok (.getfield 12, 3) := by decide +kernel
theorem dX5_count_5 : decode cX5_count 5 = .ok (.iload_n 1, 1) := by decide +kernel
theorem dX5_count_6 : decode cX5_count 6 = .ok (.invokevirtual 125, 3) := by decide +kernel
theorem dX5_count_9 : decode cX5_count 9 = .ok (.invokevirtual 82, 3) := by decide +kernel
theorem dX5_count_12 : decode cX5_count 12 = .ok (.ireturn, 1) := by decide +kernel
theorem dX5_type_0 : decode cX5_type 0 = .ok (.aload_n 0, 1) := by decide +kernel
theorem dX5_type_1 : decode cX5_type 1 = .ok (.aload_n 0, 1) := by decide +kernel
theorem dX5_type_2 : decode cX5_type 2 = .ok (.getfield 26, 3) := by decide +kernel
theorem dX5_type_5 : decode cX5_type 5 = .ok (.iload_n 1, 1) := by decide +kernel
theorem dX5_type_6 : decode cX5_type 6 = .ok (.invokevirtual 128, 3) := by decide +kernel
theorem dX5_type_9 : decode cX5_type 9 = .ok (.invokevirtual 82, 3) := by decide +kernel
theorem dX5_type_12 : decode cX5_type 12 = .ok (.ireturn, 1) := by decide +kernel
theorem dX5_clear_0 : decode cX5_clear 0 = .ok (.aload_n 0, 1) := by decide +kernel
theorem dX5_clear_1 : decode cX5_clear 1 = .ok (.getfield 26, 3) := by decide +kernel
theorem dX5_clear_4 : decode cX5_clear 4 = .ok (.invokevirtual 131, 3) := by decide +kernel
theorem dX5_clear_7 : decode cX5_clear 7 = .ok (.ireturn, 1) := by decide +kernel
theorem dX5_does_0 : decode cX5_does 0 = .ok (.aload_n 0, 1) := by decide +kernel
theorem dX5_does_1 : decode cX5_does 1 = .ok (.getfield 26, 3) := by decide +kernel
theorem dX5_does_4 : decode cX5_does 4 = .ok (.invokevirtual 134, 3) := by decide +kernel
theorem dX5_does_7 : decode cX5_does 7 = .ok (.istore_n 1, 1) := by decide +kernel
theorem dX5_does_8 : decode cX5_does 8 = .ok (.iload_n 1, 1) := by decide +kernel
theorem dX5_does_9 : decode cX5_does 9 = .ok (.iconst (-1), 1) := by decide +kernel
theorem dX5_does_10 : decode cX5_does 10 = .ok (.if_icmp .eq 8, 3) := by decide +kernel
theorem dX5_does_13 : decode cX5_does 13 = .ok (.bipush (-10), 2) := by decide +kernel
theorem dX5_does_15 : decode cX5_does 15 = .ok (.iload_n 1, 1) := by decide +kernel
theorem dX5_does_16 : decode cX5_does 16 = .ok (.isub, 1) := by decide +kernel
theorem dX5_does_17 : decode cX5_does 17 = .ok (.ireturn, 1) := by decide +kernel
theorem dX5_does_18 : decode cX5_does 18 = .ok (.aload_n 0, 1) := by decide +kernel
theorem dX5_does_19 : decode cX5_does 19 = .ok (.getfield 19, 3) := by decide +kernel
theorem dX5_does_22 : decode cX5_does 22 = .ok (.aload_n 0, 1) := by decide +kernel
theorem dX5_does_23 : decode cX5_does 23 = .ok (.getfield 12, 3) := by decide +kernel
theorem dX5_does_26 : decode cX5_does 26 = .ok (.invokevirtual 41, 3) := by decide +kernel
theorem dX5_does_29 : decode cX5_does 29 = .ok (.aload_n 0, 1) := by decide +kernel
theorem dX5_does_30 : decode cX5_does 30 = .ok (.getfield 26, 3) := by decide +kernel
theorem dX5_does_33 : decode cX5_does 33 = .ok (.invokevirtual 137, 3) := by decide +kernel
theorem dX5_does_36 : decode cX5_does 36 = .ok (.iconst 0, 1) := by decide +kernel
theorem dX5_does_37 : decode cX5_does 37 = .ok (.istore_n 2, 1) := by decide +kernel
theorem dX5_does_38 : decode cX5_does 38 = .ok (.iload_n 2, 1) := by decide +kernel
theorem dX5_does_39 : decode cX5_does 39 = .ok (.bipush 120, 2) := by decide +kernel
theorem dX5_does_41 : decode cX5_does 41 = .ok (.if_icmp .ge 53, 3) := by decide +kernel
theorem dX5_does_44 : decode cX5_does 44 = .ok (.aload_n 0, 1) := by decide +kernel
theorem dX5_does_45 : decode cX5_does 45 = .ok (.getfield 26, 3) := by decide +kernel
theorem dX5_does_48 : decode cX5_does 48 = .ok (.invokevirtual 140, 3) := by decide +kernel
theorem dX5_does_51 : decode cX5_does 51 = .ok (.ifCond .eq 43, 3) := by decide +kernel
theorem dX5_does_54 : decode cX5_does 54 = .ok (.aload_n 0, 1) := by decide +kernel
theorem dX5_does_55 : decode cX5_does 55 = .ok (.getfield 26, 3) := by decide +kernel
theorem dX5_does_58 : decode cX5_does 58 = .ok (.invokevirtual 144, 3) := by decide +kernel
theorem dX5_does_61 : decode cX5_does 61 = .ok (.ifCond .eq 10, 3) := by decide +kernel
theorem dX5_does_64 : decode cX5_does 64 = .ok (.aload_n 0, 1) := by decide +kernel
theorem dX5_does_65 : decode cX5_does 65 = .ok (.invokevirtual 147, 3) := by decide +kernel
theorem dX5_does_68 : decode cX5_does 68 = .ok (.ifCond .ge 20, 3) := by decide +kernel
theorem dX5_does_71 : decode cX5_does 71 = .ok (.aload_n 0, 1) := by decide +kernel
theorem dX5_does_72 : decode cX5_does 72 = .ok (.getfield 19, 3) := by decide +kernel
theorem dX5_does_75 : decode cX5_does 75 = .ok (.aload_n 0, 1) := by decide +kernel
theorem dX5_does_76 : decode cX5_does 76 = .ok (.getfield 12, 3) := by decide +kernel
theorem dX5_does_79 : decode cX5_does 79 = .ok (.invokevirtual 150, 3) := by decide +kernel
theorem dX5_does_82 : decode cX5_does 82 = .ok (.sipush (-1000), 3) := by decide +kernel
theorem dX5_does_85 : decode cX5_does 85 = .ok (.iload_n 2, 1) := by decide +kernel
theorem dX5_does_86 : decode cX5_does 86 = .ok (.isub, 1) := by decide +kernel
theorem dX5_does_87 : decode cX5_does 87 = .ok (.ireturn, 1) := by decide +kernel
theorem dX5_does_88 : decode cX5_does 88 = .ok (.iinc 2 1, 3) := by decide +kernel
theorem dX5_does_91 : decode cX5_does 91 = .ok (.goto (-53), 3) := by decide +kernel
theorem dX5_does_94 : decode cX5_does 94 = .ok (.aload_n 0, 1) := by decide +kernel
theorem dX5_does_95 : decode cX5_does 95 = .ok (.getfield 19, 3) := by decide +kernel
theorem dX5_does_98 : decode cX5_does 98 = .ok (.invokevirtual 153, 3) := by decide +kernel
theorem dX5_does_101 : decode cX5_does 101 = .ok (.iload_n 2, 1) := by decide +kernel
theorem dX5_does_102 : decode cX5_does 102 = .ok (.ireturn, 1) := by decide +kernel
theorem dX5_back_0 : decode cX5_back 0 = .ok (.aload_n 0, 1) := by decide +kernel
theorem dX5_back_1 : decode cX5_back 1 = .ok (.aload_n 0, 1) := by decide +kernel
theorem dX5_back_2 : decode cX5_back 2 = .ok (.getfield 19, 3) := by decide +kernel
theorem dX5_back_5 : decode cX5_back 5 = .ok (.aload_n 0, 1) := by decide +kernel
theorem dX5_back_6 : decode cX5_back 6 = .ok (.getfield 12, 3) := by decide +kernel
theorem dX5_back_9 : decode cX5_back 9 = .ok (.invokevirtual 156, 3) := by decide +kernel
theorem dX5_back_12 : decode cX5_back 12 = .ok (.invokevirtual 82, 3) := by decide +kernel
theorem dX5_back_15 : decode cX5_back 15 = .ok (.ireturn, 1) := by decide +kernel
theorem dX5_told_0 : decode cX5_told 0 = .ok (.iload_n 1, 1) := by decide +kernel
theorem dX5_told_1 : decode cX5_told 1 = .ok (.tableswitch 58 0 4 #[35, 35, 35, 42, 50], 35) := by decide +kernel
theorem dX5_told_36 : decode cX5_told 36 = .ok (.aload_n 0, 1) := by decide +kernel
theorem dX5_told_37 : decode cX5_told 37 = .ok (.getfield 37, 3) := by decide +kernel
theorem dX5_told_40 : decode cX5_told 40 = .ok (.iload_n 1, 1) := by decide +kernel
theorem dX5_told_41 : decode cX5_told 41 = .ok (.iaload, 1) := by decide +kernel
theorem dX5_told_42 : decode cX5_told 42 = .ok (.ireturn, 1) := by decide +kernel
theorem dX5_told_43 : decode cX5_told 43 = .ok (.aload_n 0, 1) := by decide +kernel
theorem dX5_told_44 : decode cX5_told 44 = .ok (.getfield 26, 3) := by decide +kernel
theorem dX5_told_47 : decode cX5_told 47 = .ok (.getfield 160, 3) := by decide +kernel
theorem dX5_told_50 : decode cX5_told 50 = .ok (.ireturn, 1) := by decide +kernel
theorem dX5_told_51 : decode cX5_told 51 = .ok (.aload_n 0, 1) := by decide +kernel
theorem dX5_told_52 : decode cX5_told 52 = .ok (.getfield 19, 3) := by decide +kernel
theorem dX5_told_55 : decode cX5_told 55 = .ok (.getfield 164, 3) := by decide +kernel
theorem dX5_told_58 : decode cX5_told 58 = .ok (.ireturn, 1) := by decide +kernel
theorem dX5_told_59 : decode cX5_told 59 = .ok (.aload_n 0, 1) := by decide +kernel
theorem dX5_told_60 : decode cX5_told 60 = .ok (.bipush (-2), 2) := by decide +kernel
theorem dX5_told_62 : decode cX5_told 62 = .ok (.invokevirtual 82, 3) := by decide +kernel
theorem dX5_told_65 : decode cX5_told 65 = .ok (.ireturn, 1) := by decide +kernel
theorem dX5_digest_0 : decode cX5_digest 0 = .ok (.ldc2_w 167, 3) := by decide +kernel
theorem dX5_digest_3 : decode cX5_digest 3 = .ok (.lstore_n 1, 1) := by decide +kernel
theorem dX5_digest_4 : decode cX5_digest 4 = .ok (.iconst 0, 1) := by decide +kernel
theorem dX5_digest_5 : decode cX5_digest 5 = .ok (.istore_n 3, 1) := by decide +kernel
theorem dX5_digest_6 : decode cX5_digest 6 = .ok (.iload_n 3, 1) := by decide +kernel
theorem dX5_digest_7 : decode cX5_digest 7 = .ok (.iconst 5, 1) := by decide +kernel
theorem dX5_digest_8 : decode cX5_digest 8 = .ok (.if_icmp .ge 19, 3) := by decide +kernel
theorem dX5_digest_11 : decode cX5_digest 11 = .ok (.lload_n 1, 1) := by decide +kernel
theorem dX5_digest_12 : decode cX5_digest 12 = .ok (.aload_n 0, 1) := by decide +kernel
theorem dX5_digest_13 : decode cX5_digest 13 = .ok (.iload_n 3, 1) := by decide +kernel
theorem dX5_digest_14 : decode cX5_digest 14 = .ok (.invokevirtual 169, 3) := by decide +kernel
theorem dX5_digest_17 : decode cX5_digest 17 = .ok (.invokestatic 172, 3) := by decide +kernel
theorem dX5_digest_20 : decode cX5_digest 20 = .ok (.lstore_n 1, 1) := by decide +kernel
theorem dX5_digest_21 : decode cX5_digest 21 = .ok (.iinc 3 1, 3) := by decide +kernel
theorem dX5_digest_24 : decode cX5_digest 24 = .ok (.goto (-18), 3) := by decide +kernel
theorem dX5_digest_27 : decode cX5_digest 27 = .ok (.iconst 0, 1) := by decide +kernel
theorem dX5_digest_28 : decode cX5_digest 28 = .ok (.istore_n 3, 1) := by decide +kernel
theorem dX5_digest_29 : decode cX5_digest 29 = .ok (.iload_n 3, 1) := by decide +kernel
theorem dX5_digest_30 : decode cX5_digest 30 = .ok (.bipush 7, 2) := by decide +kernel
theorem dX5_digest_32 : decode cX5_digest 32 = .ok (.if_icmp .ge 22, 3) := by decide +kernel
theorem dX5_digest_35 : decode cX5_digest 35 = .ok (.lload_n 1, 1) := by decide +kernel
theorem dX5_digest_36 : decode cX5_digest 36 = .ok (.aload_n 0, 1) := by decide +kernel
theorem dX5_digest_37 : decode cX5_digest 37 = .ok (.getfield 12, 3) := by decide +kernel
theorem dX5_digest_40 : decode cX5_digest 40 = .ok (.iload_n 3, 1) := by decide +kernel
theorem dX5_digest_41 : decode cX5_digest 41 = .ok (.invokevirtual 125, 3) := by decide +kernel
theorem dX5_digest_44 : decode cX5_digest 44 = .ok (.invokestatic 172, 3) := by decide +kernel
theorem dX5_digest_47 : decode cX5_digest 47 = .ok (.lstore_n 1, 1) := by decide +kernel
theorem dX5_digest_48 : decode cX5_digest 48 = .ok (.iinc 3 1, 3) := by decide +kernel
theorem dX5_digest_51 : decode cX5_digest 51 = .ok (.goto (-22), 3) := by decide +kernel
theorem dX5_digest_54 : decode cX5_digest 54 = .ok (.iconst 0, 1) := by decide +kernel
theorem dX5_digest_55 : decode cX5_digest 55 = .ok (.istore_n 3, 1) := by decide +kernel
theorem dX5_digest_56 : decode cX5_digest 56 = .ok (.iload_n 3, 1) := by decide +kernel
theorem dX5_digest_57 : decode cX5_digest 57 = .ok (.aload_n 0, 1) := by decide +kernel
theorem dX5_digest_58 : decode cX5_digest 58 = .ok (.getfield 12, 3) := by decide +kernel
theorem dX5_digest_61 : decode cX5_digest 61 = .ok (.getfield 176, 3) := by decide +kernel
theorem dX5_digest_64 : decode cX5_digest 64 = .ok (.if_icmp .ge 40, 3) := by decide +kernel
theorem dX5_digest_67 : decode cX5_digest 67 = .ok (.iconst 0, 1) := by decide +kernel
theorem dX5_digest_68 : decode cX5_digest 68 = .ok (.istore 4, 2) := by decide +kernel
theorem dX5_digest_70 : decode cX5_digest 70 = .ok (.iload 4, 2) := by decide +kernel
theorem dX5_digest_72 : decode cX5_digest 72 = .ok (.bipush 7, 2) := by decide +kernel
theorem dX5_digest_74 : decode cX5_digest 74 = .ok (.if_icmp .ge 24, 3) := by decide +kernel
theorem dX5_digest_77 : decode cX5_digest 77 = .ok (.lload_n 1, 1) := by decide +kernel
theorem dX5_digest_78 : decode cX5_digest 78 = .ok (.aload_n 0, 1) := by decide +kernel
theorem dX5_digest_79 : decode cX5_digest 79 = .ok (.getfield 12, 3) := by decide +kernel
theorem dX5_digest_82 : decode cX5_digest 82 = .ok (.iload_n 3, 1) := by decide +kernel
theorem dX5_digest_83 : decode cX5_digest 83 = .ok (.iload 4, 2) := by decide +kernel
theorem dX5_digest_85 : decode cX5_digest 85 = .ok (.invokevirtual 79, 3) := by decide +kernel
theorem dX5_digest_88 : decode cX5_digest 88 = .ok (.invokestatic 172, 3) := by decide +kernel
theorem dX5_digest_91 : decode cX5_digest 91 = .ok (.lstore_n 1, 1) := by decide +kernel
theorem dX5_digest_92 : decode cX5_digest 92 = .ok (.iinc 4 1, 3) := by decide +kernel
theorem dX5_digest_95 : decode cX5_digest 95 = .ok (.goto (-25), 3) := by decide +kernel
theorem dX5_digest_98 : decode cX5_digest 98 = .ok (.iinc 3 1, 3) := by decide +kernel
theorem dX5_digest_101 : decode cX5_digest 101 = .ok (.goto (-45), 3) := by decide +kernel
theorem dX5_digest_104 : decode cX5_digest 104 = .ok (.iconst 0, 1) := by decide +kernel
theorem dX5_digest_105 : decode cX5_digest 105 = .ok (.istore_n 3, 1) := by decide +kernel
theorem dX5_digest_106 : decode cX5_digest 106 = .ok (.iload_n 3, 1) := by decide +kernel
theorem dX5_digest_107 : decode cX5_digest 107 = .ok (.aload_n 0, 1) := by decide +kernel
theorem dX5_digest_108 : decode cX5_digest 108 = .ok (.getfield 12, 3) := by decide +kernel
theorem dX5_digest_111 : decode cX5_digest 111 = .ok (.getfield 179, 3) := by decide +kernel
theorem dX5_digest_114 : decode cX5_digest 114 = .ok (.if_icmp .ge 16, 3) := by decide +kernel
theorem dX5_digest_117 : decode cX5_digest 117 = .ok (.aload_n 0, 1) := by decide +kernel
theorem dX5_digest_118 : decode cX5_digest 118 = .ok (.lload_n 1, 1) := by decide +kernel
theorem dX5_digest_119 : decode cX5_digest 119 = .ok (.iload_n 3, 1) := by decide +kernel
theorem dX5_digest_120 : decode cX5_digest 120 = .ok (.invokevirtual 182, 3) := by decide +kernel
theorem dX5_digest_123 : decode cX5_digest 123 = .ok (.lstore_n 1, 1) := by decide +kernel
theorem dX5_digest_124 : decode cX5_digest 124 = .ok (.iinc 3 1, 3) := by decide +kernel
theorem dX5_digest_127 : decode cX5_digest 127 = .ok (.goto (-21), 3) := by decide +kernel
theorem dX5_digest_130 : decode cX5_digest 130 = .ok (.iconst 0, 1) := by decide +kernel
theorem dX5_digest_131 : decode cX5_digest 131 = .ok (.istore_n 3, 1) := by decide +kernel
theorem dX5_digest_132 : decode cX5_digest 132 = .ok (.iload_n 3, 1) := by decide +kernel
theorem dX5_digest_133 : decode cX5_digest 133 = .ok (.aload_n 0, 1) := by decide +kernel
theorem dX5_digest_134 : decode cX5_digest 134 = .ok (.getfield 12, 3) := by decide +kernel
theorem dX5_digest_137 : decode cX5_digest 137 = .ok (.getfield 185, 3) := by decide +kernel
theorem dX5_digest_140 : decode cX5_digest 140 = .ok (.if_icmp .ge 23, 3) := by decide +kernel
theorem dX5_digest_143 : decode cX5_digest 143 = .ok (.lload_n 1, 1) := by decide +kernel
theorem dX5_digest_144 : decode cX5_digest 144 = .ok (.aload_n 0, 1) := by decide +kernel
theorem dX5_digest_145 : decode cX5_digest 145 = .ok (.getfield 12, 3) := by decide +kernel
theorem dX5_digest_148 : decode cX5_digest 148 = .ok (.getfield 188, 3) := by decide +kernel
theorem dX5_digest_151 : decode cX5_digest 151 = .ok (.iload_n 3, 1) := by decide +kernel
theorem dX5_digest_152 : decode cX5_digest 152 = .ok (.iaload, 1) := by decide +kernel
theorem dX5_digest_153 : decode cX5_digest 153 = .ok (.invokestatic 172, 3) := by decide +kernel
theorem dX5_digest_156 : decode cX5_digest 156 = .ok (.lstore_n 1, 1) := by decide +kernel
theorem dX5_digest_157 : decode cX5_digest 157 = .ok (.iinc 3 1, 3) := by decide +kernel
theorem dX5_digest_160 : decode cX5_digest 160 = .ok (.goto (-28), 3) := by decide +kernel
theorem dX5_digest_163 : decode cX5_digest 163 = .ok (.lload_n 1, 1) := by decide +kernel
theorem dX5_digest_164 : decode cX5_digest 164 = .ok (.lreturn, 1) := by decide +kernel
theorem dX5_mixedWithCall_0 : decode cX5_mixedWithCall 0 = .ok (.lload_n 1, 1) := by decide +kernel
theorem dX5_mixedWithCall_1 : decode cX5_mixedWithCall 1 = .ok (.lstore 4, 2) := by decide +kernel
theorem dX5_mixedWithCall_3 : decode cX5_mixedWithCall 3 = .ok (.iconst 0, 1) := by decide +kernel
theorem dX5_mixedWithCall_4 : decode cX5_mixedWithCall 4 = .ok (.istore 6, 2) := by decide +kernel
theorem dX5_mixedWithCall_6 : decode cX5_mixedWithCall 6 = .ok (.iload 6, 2) := by decide +kernel
theorem dX5_mixedWithCall_8 : decode cX5_mixedWithCall 8 = .ok (.bipush 12, 2) := by decide +kernel
theorem dX5_mixedWithCall_10 : decode cX5_mixedWithCall 10 = .ok (.if_icmp .ge 43, 3) := by decide +kernel
theorem dX5_mixedWithCall_13 : decode cX5_mixedWithCall 13 = .ok (.iconst 0, 1) := by decide +kernel
theorem dX5_mixedWithCall_14 : decode cX5_mixedWithCall 14 = .ok (.istore 7, 2) := by decide +kernel
theorem dX5_mixedWithCall_16 : decode cX5_mixedWithCall 16 = .ok (.iload 7, 2) := by decide +kernel
theorem dX5_mixedWithCall_18 : decode cX5_mixedWithCall 18 = .ok (.iconst 3, 1) := by decide +kernel
theorem dX5_mixedWithCall_19 : decode cX5_mixedWithCall 19 = .ok (.if_icmp .ge 28, 3) := by decide +kernel
theorem dX5_mixedWithCall_22 : decode cX5_mixedWithCall 22 = .ok (.lload 4, 2) := by decide +kernel
theorem dX5_mixedWithCall_24 : decode cX5_mixedWithCall 24 = .ok (.aload_n 0, 1) := by decide +kernel
theorem dX5_mixedWithCall_25 : decode cX5_mixedWithCall 25 = .ok (.getfield 12, 3) := by decide +kernel
theorem dX5_mixedWithCall_28 : decode cX5_mixedWithCall 28 = .ok (.iload_n 3, 1) := by decide +kernel
theorem dX5_mixedWithCall_29 : decode cX5_mixedWithCall 29 = .ok (.iload 6, 2) := by decide +kernel
theorem dX5_mixedWithCall_31 : decode cX5_mixedWithCall 31 = .ok (.iload 7, 2) := by decide +kernel
theorem dX5_mixedWithCall_33 : decode cX5_mixedWithCall 33 = .ok (.invokevirtual 92, 3) := by decide +kernel
theorem dX5_mixedWithCall_36 : decode cX5_mixedWithCall 36 = .ok (.invokestatic 172, 3) := by decide +kernel
theorem dX5_mixedWithCall_39 : decode cX5_mixedWithCall 39 = .ok (.lstore 4, 2) := by decide +kernel
theorem dX5_mixedWithCall_41 : decode cX5_mixedWithCall 41 = .ok (.iinc 7 1, 3) := by decide +kernel
theorem dX5_mixedWithCall_44 : decode cX5_mixedWithCall 44 = .ok (.goto (-28), 3) := by decide +kernel
theorem dX5_mixedWithCall_47 : decode cX5_mixedWithCall 47 = .ok (.iinc 6 1, 3) := by decide +kernel
theorem dX5_mixedWithCall_50 : decode cX5_mixedWithCall 50 = .ok (.goto (-44), 3) := by decide +kernel
theorem dX5_mixedWithCall_53 : decode cX5_mixedWithCall 53 = .ok (.iconst 0, 1) := by decide +kernel
theorem dX5_mixedWithCall_54 : decode cX5_mixedWithCall 54 = .ok (.istore 6, 2) := by decide +kernel
theorem dX5_mixedWithCall_56 : decode cX5_mixedWithCall 56 = .ok (.iload 6, 2) := by decide +kernel
theorem dX5_mixedWithCall_58 : decode cX5_mixedWithCall 58 = .ok (.iconst 4, 1) := by decide +kernel
theorem dX5_mixedWithCall_59 : decode cX5_mixedWithCall 59 = .ok (.if_icmp .ge 26, 3) := by decide +kernel
theorem dX5_mixedWithCall_62 : decode cX5_mixedWithCall 62 = .ok (.lload 4, 2) := by decide +kernel
theorem dX5_mixedWithCall_64 : decode cX5_mixedWithCall 64 = .ok (.aload_n 0, 1) := by decide +kernel
theorem dX5_mixedWithCall_65 : decode cX5_mixedWithCall 65 = .ok (.getfield 12, 3) := by decide +kernel
theorem dX5_mixedWithCall_68 : decode cX5_mixedWithCall 68 = .ok (.iload_n 3, 1) := by decide +kernel
theorem dX5_mixedWithCall_69 : decode cX5_mixedWithCall 69 = .ok (.iload 6, 2) := by decide +kernel
theorem dX5_mixedWithCall_71 : decode cX5_mixedWithCall 71 = .ok (.invokevirtual 95, 3) := by decide +kernel
theorem dX5_mixedWithCall_74 : decode cX5_mixedWithCall 74 = .ok (.invokestatic 172, 3) := by decide +kernel
theorem dX5_mixedWithCall_77 : decode cX5_mixedWithCall 77 = .ok (.lstore 4, 2) := by decide +kernel
theorem dX5_mixedWithCall_79 : decode cX5_mixedWithCall 79 = .ok (.iinc 6 1, 3) := by decide +kernel
theorem dX5_mixedWithCall_82 : decode cX5_mixedWithCall 82 = .ok (.goto (-26), 3) := by decide +kernel
theorem dX5_mixedWithCall_85 : decode cX5_mixedWithCall 85 = .ok (.lload 4, 2) := by decide +kernel
theorem dX5_mixedWithCall_87 : decode cX5_mixedWithCall 87 = .ok (.lreturn, 1) := by decide +kernel
theorem dX5_mixed_0 : decode cX5_mixed 0 = .ok (.ldc2_w 191, 3) := by decide +kernel
theorem dX5_mixed_3 : decode cX5_mixed 3 = .ok (.lload_n 0, 1) := by decide +kernel
theorem dX5_mixed_4 : decode cX5_mixed 4 = .ok (.lmul, 1) := by decide +kernel
theorem dX5_mixed_5 : decode cX5_mixed 5 = .ok (.iload_n 2, 1) := by decide +kernel
theorem dX5_mixed_6 : decode cX5_mixed 6 = .ok (.i2l, 1) := by decide +kernel
theorem dX5_mixed_7 : decode cX5_mixed 7 = .ok (.ladd, 1) := by decide +kernel
theorem dX5_mixed_8 : decode cX5_mixed 8 = .ok (.lreturn, 1) := by decide +kernel
theorem dX5_noted_0 : decode cX5_noted 0 = .ok (.iload_n 1, 1) := by decide +kernel
theorem dX5_noted_1 : decode cX5_noted 1 = .ok (.bipush (-2), 2) := by decide +kernel
theorem dX5_noted_3 : decode cX5_noted 3 = .ok (.if_icmp .gt 22, 3) := by decide +kernel
theorem dX5_noted_6 : decode cX5_noted 6 = .ok (.iload_n 1, 1) := by decide +kernel
theorem dX5_noted_7 : decode cX5_noted 7 = .ok (.bipush (-4), 2) := by decide +kernel
theorem dX5_noted_9 : decode cX5_noted 9 = .ok (.if_icmp .lt 16, 3) := by decide +kernel
theorem dX5_noted_12 : decode cX5_noted 12 = .ok (.aload_n 0, 1) := by decide +kernel
theorem dX5_noted_13 : decode cX5_noted 13 = .ok (.getfield 37, 3) := by decide +kernel
theorem dX5_noted_16 : decode cX5_noted 16 = .ok (.bipush (-2), 2) := by decide +kernel
theorem dX5_noted_18 : decode cX5_noted 18 = .ok (.iload_n 1, 1) := by decide +kernel
theorem dX5_noted_19 : decode cX5_noted 19 = .ok (.isub, 1) := by decide +kernel
theorem dX5_noted_20 : decode cX5_noted 20 = .ok (.dup2, 1) := by decide +kernel
theorem dX5_noted_21 : decode cX5_noted 21 = .ok (.iaload, 1) := by decide +kernel
theorem dX5_noted_22 : decode cX5_noted 22 = .ok (.iconst 1, 1) := by decide +kernel
theorem dX5_noted_23 : decode cX5_noted 23 = .ok (.iadd, 1) := by decide +kernel
theorem dX5_noted_24 : decode cX5_noted 24 = .ok (.iastore, 1) := by decide +kernel
theorem dX5_noted_25 : decode cX5_noted 25 = .ok (.iload_n 1, 1) := by decide +kernel
theorem dX5_noted_26 : decode cX5_noted 26 = .ok (.ireturn, 1) := by decide +kernel
theorem dX5_settled_0 : decode cX5_settled 0 = .ok (.iload_n 1, 1) := by decide +kernel
theorem dX5_settled_1 : decode cX5_settled 1 = .ok (.ifCond .lt 10, 3) := by decide +kernel
theorem dX5_settled_4 : decode cX5_settled 4 = .ok (.aload_n 0, 1) := by decide +kernel
theorem dX5_settled_5 : decode cX5_settled 5 = .ok (.getfield 19, 3) := by decide +kernel
theorem dX5_settled_8 : decode cX5_settled 8 = .ok (.invokevirtual 153, 3) := by decide +kernel
theorem dX5_settled_11 : decode cX5_settled 11 = .ok (.aload_n 0, 1) := by decide +kernel
theorem dX5_settled_12 : decode cX5_settled 12 = .ok (.iload_n 1, 1) := by decide +kernel
theorem dX5_settled_13 : decode cX5_settled 13 = .ok (.invokevirtual 82, 3) := by decide +kernel
theorem dX5_settled_16 : decode cX5_settled 16 = .ok (.ireturn, 1) := by decide +kernel
theorem dX5_doOrder_0 : decode cX5_doOrder 0 = .ok (.aload_n 0, 1) := by decide +kernel
theorem dX5_doOrder_1 : decode cX5_doOrder 1 = .ok (.getfield 26, 3) := by decide +kernel
theorem dX5_doOrder_4 : decode cX5_doOrder 4 = .ok (.getfield 193, 3) := by decide +kernel
theorem dX5_doOrder_7 : decode cX5_doOrder 7 = .ok (.astore_n 1, 1) := by decide +kernel
theorem dX5_doOrder_8 : decode cX5_doOrder 8 = .ok (.aload_n 0, 1) := by decide +kernel
theorem dX5_doOrder_9 : decode cX5_doOrder 9 = .ok (.getfield 26, 3) := by decide +kernel
theorem dX5_doOrder_12 : decode cX5_doOrder 12 = .ok (.getfield 196, 3) := by decide +kernel
theorem dX5_doOrder_15 : decode cX5_doOrder 15 = .ok (.tableswitch 178 100 119 #[142, 178, 178, 156, 178, 178, 178, 93, 178, 178, 178, 178, 167, 178, 178, 178, 178, 108, 178, 125], 93) := by decide +kernel
theorem dX5_doOrder_108 : decode cX5_doOrder 108 = .ok (.aload_n 0, 1) := by decide +kernel
theorem dX5_doOrder_109 : decode cX5_doOrder 109 = .ok (.getfield 12, 3) := by decide +kernel
theorem dX5_doOrder_112 : decode cX5_doOrder 112 = .ok (.aload_n 0, 1) := by decide +kernel
theorem dX5_doOrder_113 : decode cX5_doOrder 113 = .ok (.getfield 26, 3) := by decide +kernel
theorem dX5_doOrder_116 : decode cX5_doOrder 116 = .ok (.getfield 199, 3) := by decide +kernel
theorem dX5_doOrder_119 : decode cX5_doOrder 119 = .ok (.invokevirtual 202, 3) := by decide +kernel
theorem dX5_doOrder_122 : decode cX5_doOrder 122 = .ok (.ireturn, 1) := by decide +kernel
theorem dX5_doOrder_123 : decode cX5_doOrder 123 = .ok (.aload_n 0, 1) := by decide +kernel
theorem dX5_doOrder_124 : decode cX5_doOrder 124 = .ok (.getfield 12, 3) := by decide +kernel
theorem dX5_doOrder_127 : decode cX5_doOrder 127 = .ok (.aload_n 1, 1) := by decide +kernel
theorem dX5_doOrder_128 : decode cX5_doOrder 128 = .ok (.iconst 0, 1) := by decide +kernel
theorem dX5_doOrder_129 : decode cX5_doOrder 129 = .ok (.iaload, 1) := by decide +kernel
theorem dX5_doOrder_130 : decode cX5_doOrder 130 = .ok (.aload_n 1, 1) := by decide +kernel
theorem dX5_doOrder_131 : decode cX5_doOrder 131 = .ok (.iconst 1, 1) := by decide +kernel
theorem dX5_doOrder_132 : decode cX5_doOrder 132 = .ok (.iaload, 1) := by decide +kernel
theorem dX5_doOrder_133 : decode cX5_doOrder 133 = .ok (.aload_n 1, 1) := by decide +kernel
theorem dX5_doOrder_134 : decode cX5_doOrder 134 = .ok (.iconst 2, 1) := by decide +kernel
theorem dX5_doOrder_135 : decode cX5_doOrder 135 = .ok (.iaload, 1) := by decide +kernel
theorem dX5_doOrder_136 : decode cX5_doOrder 136 = .ok (.invokevirtual 61, 3) := by decide +kernel
theorem dX5_doOrder_139 : decode cX5_doOrder 139 = .ok (.ireturn, 1) := by decide +kernel
theorem dX5_doOrder_140 : decode cX5_doOrder 140 = .ok (.aload_n 0, 1) := by decide +kernel
theorem dX5_doOrder_141 : decode cX5_doOrder 141 = .ok (.getfield 12, 3) := by decide +kernel
theorem dX5_doOrder_144 : decode cX5_doOrder 144 = .ok (.aload_n 1, 1) := by decide +kernel
theorem dX5_doOrder_145 : decode cX5_doOrder 145 = .ok (.iconst 0, 1) := by decide +kernel
theorem dX5_doOrder_146 : decode cX5_doOrder 146 = .ok (.iaload, 1) := by decide +kernel
theorem dX5_doOrder_147 : decode cX5_doOrder 147 = .ok (.aload_n 1, 1) := by decide +kernel
theorem dX5_doOrder_148 : decode cX5_doOrder 148 = .ok (.iconst 1, 1) := by decide +kernel
theorem dX5_doOrder_149 : decode cX5_doOrder 149 = .ok (.iaload, 1) := by decide +kernel
theorem dX5_doOrder_150 : decode cX5_doOrder 150 = .ok (.aload_n 1, 1) := by decide +kernel
theorem dX5_doOrder_151 : decode cX5_doOrder 151 = .ok (.iconst 2, 1) := by decide +kernel
theorem dX5_doOrder_152 : decode cX5_doOrder 152 = .ok (.iaload, 1) := by decide +kernel
theorem dX5_doOrder_153 : decode cX5_doOrder 153 = .ok (.invokevirtual 64, 3) := by decide +kernel
theorem dX5_doOrder_156 : decode cX5_doOrder 156 = .ok (.ireturn, 1) := by decide +kernel
theorem dX5_doOrder_157 : decode cX5_doOrder 157 = .ok (.aload_n 0, 1) := by decide +kernel
theorem dX5_doOrder_158 : decode cX5_doOrder 158 = .ok (.getfield 12, 3) := by decide +kernel
theorem dX5_doOrder_161 : decode cX5_doOrder 161 = .ok (.aload_n 1, 1) := by decide +kernel
theorem dX5_doOrder_162 : decode cX5_doOrder 162 = .ok (.iconst 0, 1) := by decide +kernel
theorem dX5_doOrder_163 : decode cX5_doOrder 163 = .ok (.iaload, 1) := by decide +kernel
theorem dX5_doOrder_164 : decode cX5_doOrder 164 = .ok (.aload_n 1, 1) := by decide +kernel
theorem dX5_doOrder_165 : decode cX5_doOrder 165 = .ok (.iconst 1, 1) := by decide +kernel
theorem dX5_doOrder_166 : decode cX5_doOrder 166 = .ok (.iaload, 1) := by decide +kernel
theorem dX5_doOrder_167 : decode cX5_doOrder 167 = .ok (.invokevirtual 45, 3) := by decide +kernel
theorem dX5_doOrder_170 : decode cX5_doOrder 170 = .ok (.ireturn, 1) := by decide +kernel
theorem dX5_doOrder_171 : decode cX5_doOrder 171 = .ok (.aload_n 0, 1) := by decide +kernel
theorem dX5_doOrder_172 : decode cX5_doOrder 172 = .ok (.getfield 12, 3) := by decide +kernel
theorem dX5_doOrder_175 : decode cX5_doOrder 175 = .ok (.aload_n 1, 1) := by decide +kernel
theorem dX5_doOrder_176 : decode cX5_doOrder 176 = .ok (.iconst 0, 1) := by decide +kernel
theorem dX5_doOrder_177 : decode cX5_doOrder 177 = .ok (.iaload, 1) := by decide +kernel
theorem dX5_doOrder_178 : decode cX5_doOrder 178 = .ok (.invokevirtual 73, 3) := by decide +kernel
theorem dX5_doOrder_181 : decode cX5_doOrder 181 = .ok (.ireturn, 1) := by decide +kernel
theorem dX5_doOrder_182 : decode cX5_doOrder 182 = .ok (.aload_n 0, 1) := by decide +kernel
theorem dX5_doOrder_183 : decode cX5_doOrder 183 = .ok (.getfield 12, 3) := by decide +kernel
theorem dX5_doOrder_186 : decode cX5_doOrder 186 = .ok (.aload_n 1, 1) := by decide +kernel
theorem dX5_doOrder_187 : decode cX5_doOrder 187 = .ok (.iconst 0, 1) := by decide +kernel
theorem dX5_doOrder_188 : decode cX5_doOrder 188 = .ok (.iaload, 1) := by decide +kernel
theorem dX5_doOrder_189 : decode cX5_doOrder 189 = .ok (.invokevirtual 113, 3) := by decide +kernel
theorem dX5_doOrder_192 : decode cX5_doOrder 192 = .ok (.ireturn, 1) := by decide +kernel
theorem dX5_doOrder_193 : decode cX5_doOrder 193 = .ok (.bipush (-2), 2) := by decide +kernel
theorem dX5_doOrder_195 : decode cX5_doOrder 195 = .ok (.ireturn, 1) := by decide +kernel
theorem dX5_isBelow_0 : decode cX5_isBelow 0 = .ok (.iload_n 0, 1) := by decide +kernel
theorem dX5_isBelow_1 : decode cX5_isBelow 1 = .ok (.ifCond .lt 12, 3) := by decide +kernel
theorem dX5_isBelow_4 : decode cX5_isBelow 4 = .ok (.iload_n 0, 1) := by decide +kernel
theorem dX5_isBelow_5 : decode cX5_isBelow 5 = .ok (.iload_n 1, 1) := by decide +kernel
theorem dX5_isBelow_6 : decode cX5_isBelow 6 = .ok (.if_icmp .ge 7, 3) := by decide +kernel
theorem dX5_isBelow_9 : decode cX5_isBelow 9 = .ok (.iconst 1, 1) := by decide +kernel
theorem dX5_isBelow_10 : decode cX5_isBelow 10 = .ok (.goto 4, 3) := by decide +kernel
theorem dX5_isBelow_13 : decode cX5_isBelow 13 = .ok (.iconst 0, 1) := by decide +kernel
theorem dX5_isBelow_14 : decode cX5_isBelow 14 = .ok (.ireturn, 1) := by decide +kernel
theorem dX5_isSearch_0 : decode cX5_isSearch 0 = .ok (.iload_n 0, 1) := by decide +kernel
theorem dX5_isSearch_1 : decode cX5_isSearch 1 = .ok (.iconst 3, 1) := by decide +kernel
theorem dX5_isSearch_2 : decode cX5_isSearch 2 = .ok (.invokestatic 85, 3) := by decide +kernel
theorem dX5_isSearch_5 : decode cX5_isSearch 5 = .ok (.ifCond .eq 26, 3) := by decide +kernel
theorem dX5_isSearch_8 : decode cX5_isSearch 8 = .ok (.iload_n 1, 1) := by decide +kernel
theorem dX5_isSearch_9 : decode cX5_isSearch 9 = .ok (.bipush 6, 2) := by decide +kernel
theorem dX5_isSearch_11 : decode cX5_isSearch 11 = .ok (.invokestatic 85, 3) := by decide +kernel
theorem dX5_isSearch_14 : decode cX5_isSearch 14 = .ok (.ifCond .eq 17, 3) := by decide +kernel
theorem dX5_isSearch_17 : decode cX5_isSearch 17 = .ok (.iload_n 2, 1) := by decide +kernel
theorem dX5_isSearch_18 : decode cX5_isSearch 18 = .ok (.iconst 1, 1) := by decide +kernel
theorem dX5_isSearch_19 : decode cX5_isSearch 19 = .ok (.if_icmp .lt 12, 3) := by decide +kernel
theorem dX5_isSearch_22 : decode cX5_isSearch 22 = .ok (.iload_n 2, 1) := by decide +kernel
theorem dX5_isSearch_23 : decode cX5_isSearch 23 = .ok (.iconst 5, 1) := by decide +kernel
theorem dX5_isSearch_24 : decode cX5_isSearch 24 = .ok (.if_icmp .gt 7, 3) := by decide +kernel
theorem dX5_isSearch_27 : decode cX5_isSearch 27 = .ok (.iconst 1, 1) := by decide +kernel
theorem dX5_isSearch_28 : decode cX5_isSearch 28 = .ok (.goto 4, 3) := by decide +kernel
theorem dX5_isSearch_31 : decode cX5_isSearch 31 = .ok (.iconst 0, 1) := by decide +kernel
theorem dX5_isSearch_32 : decode cX5_isSearch 32 = .ok (.ireturn, 1) := by decide +kernel
theorem dX5_arePaired_0 : decode cX5_arePaired 0 = .ok (.iload_n 0, 1) := by decide +kernel
theorem dX5_arePaired_1 : decode cX5_arePaired 1 = .ok (.iload_n 1, 1) := by decide +kernel
theorem dX5_arePaired_2 : decode cX5_arePaired 2 = .ok (.isub, 1) := by decide +kernel
theorem dX5_arePaired_3 : decode cX5_arePaired 3 = .ok (.invokestatic 206, 3) := by decide +kernel
theorem dX5_arePaired_6 : decode cX5_arePaired 6 = .ok (.iconst 4, 1) := by decide +kernel
theorem dX5_arePaired_7 : decode cX5_arePaired 7 = .ok (.if_icmp .ne 18, 3) := by decide +kernel
theorem dX5_arePaired_10 : decode cX5_arePaired 10 = .ok (.iload_n 0, 1) := by decide +kernel
theorem dX5_arePaired_11 : decode cX5_arePaired 11 = .ok (.bipush 16, 2) := by decide +kernel
theorem dX5_arePaired_13 : decode cX5_arePaired 13 = .ok (.idiv, 1) := by decide +kernel
theorem dX5_arePaired_14 : decode cX5_arePaired 14 = .ok (.iload_n 1, 1) := by decide +kernel
theorem dX5_arePaired_15 : decode cX5_arePaired 15 = .ok (.bipush 16, 2) := by decide +kernel
theorem dX5_arePaired_17 : decode cX5_arePaired 17 = .ok (.idiv, 1) := by decide +kernel
theorem dX5_arePaired_18 : decode cX5_arePaired 18 = .ok (.if_icmp .ne 7, 3) := by decide +kernel
theorem dX5_arePaired_21 : decode cX5_arePaired 21 = .ok (.iconst 1, 1) := by decide +kernel
theorem dX5_arePaired_22 : decode cX5_arePaired 22 = .ok (.goto 4, 3) := by decide +kernel
theorem dX5_arePaired_25 : decode cX5_arePaired 25 = .ok (.iconst 0, 1) := by decide +kernel
theorem dX5_arePaired_26 : decode cX5_arePaired 26 = .ok (.ireturn, 1) := by decide +kernel
theorem dX5_heldSpots_0 : decode cX5_heldSpots 0 = .ok (.iconst 0, 1) := by decide +kernel
theorem dX5_heldSpots_1 : decode cX5_heldSpots 1 = .ok (.istore_n 2, 1) := by decide +kernel
theorem dX5_heldSpots_2 : decode cX5_heldSpots 2 = .ok (.iconst 0, 1) := by decide +kernel
theorem dX5_heldSpots_3 : decode cX5_heldSpots 3 = .ok (.istore_n 3, 1) := by decide +kernel
theorem dX5_heldSpots_4 : decode cX5_heldSpots 4 = .ok (.iload_n 3, 1) := by decide +kernel
theorem dX5_heldSpots_5 : decode cX5_heldSpots 5 = .ok (.iload_n 1, 1) := by decide +kernel
theorem dX5_heldSpots_6 : decode cX5_heldSpots 6 = .ok (.if_icmp .ge 19, 3) := by decide +kernel
theorem dX5_heldSpots_9 : decode cX5_heldSpots 9 = .ok (.iload_n 2, 1) := by decide +kernel
theorem dX5_heldSpots_10 : decode cX5_heldSpots 10 = .ok (.iconst 1, 1) := by decide +kernel
theorem dX5_heldSpots_11 : decode cX5_heldSpots 11 = .ok (.aload_n 0, 1) := by decide +kernel
theorem dX5_heldSpots_12 : decode cX5_heldSpots 12 = .ok (.iload_n 3, 1) := by decide +kernel
theorem dX5_heldSpots_13 : decode cX5_heldSpots 13 = .ok (.iaload, 1) := by decide +kernel
theorem dX5_heldSpots_14 : decode cX5_heldSpots 14 = .ok (.iconst 4, 1) := by decide +kernel
theorem dX5_heldSpots_15 : decode cX5_heldSpots 15 = .ok (.idiv, 1) := by decide +kernel
theorem dX5_heldSpots_16 : decode cX5_heldSpots 16 = .ok (.ishl, 1) := by decide +kernel
theorem dX5_heldSpots_17 : decode cX5_heldSpots 17 = .ok (.ior, 1) := by decide +kernel
theorem dX5_heldSpots_18 : decode cX5_heldSpots 18 = .ok (.istore_n 2, 1) := by decide +kernel
theorem dX5_heldSpots_19 : decode cX5_heldSpots 19 = .ok (.iinc 3 1, 3) := by decide +kernel
theorem dX5_heldSpots_22 : decode cX5_heldSpots 22 = .ok (.goto (-18), 3) := by decide +kernel
theorem dX5_heldSpots_25 : decode cX5_heldSpots 25 = .ok (.iload_n 2, 1) := by decide +kernel
theorem dX5_heldSpots_26 : decode cX5_heldSpots 26 = .ok (.ireturn, 1) := by decide +kernel
theorem dX6_init_0 : decode cX6_init 0 = .ok (.aload_n 0, 1) := by decide +kernel
theorem dX6_init_1 : decode cX6_init 1 = .ok (.invokespecial 1, 3) := by decide +kernel
theorem dX6_init_4 : decode cX6_init 4 = .ok (.aload_n 0, 1) := by decide +kernel
theorem dX6_init_5 : decode cX6_init 5 = .ok (.sipush 336, 3) := by decide +kernel
theorem dX6_init_8 : decode cX6_init 8 = .ok (.newarray .int, 2) := by decide +kernel
theorem dX6_init_10 : decode cX6_init 10 = .ok (.putfield 7, 3) := by decide +kernel
theorem dX6_init_13 : decode cX6_init 13 = .ok (.aload_n 0, 1) := by decide +kernel
theorem dX6_init_14 : decode cX6_init 14 = .ok (.sipush 1680, 3) := by decide +kernel
theorem dX6_init_17 : decode cX6_init 17 = .ok (.newarray .int, 2) := by decide +kernel
theorem dX6_init_19 : decode cX6_init 19 = .ok (.putfield 13, 3) := by decide +kernel
theorem dX6_init_22 : decode cX6_init 22 = .ok (.aload_n 0, 1) := by decide +kernel
theorem dX6_init_23 : decode cX6_init 23 = .ok (.sipush 336, 3) := by decide +kernel
theorem dX6_init_26 : decode cX6_init 26 = .ok (.newarray .int, 2) := by decide +kernel
theorem dX6_init_28 : decode cX6_init 28 = .ok (.putfield 16, 3) := by decide +kernel
theorem dX6_init_31 : decode cX6_init 31 = .ok (.aload_n 0, 1) := by decide +kernel
theorem dX6_init_32 : decode cX6_init 32 = .ok (.iconst 3, 1) := by decide +kernel
theorem dX6_init_33 : decode cX6_init 33 = .ok (.newarray .int, 2) := by decide +kernel
theorem dX6_init_35 : decode cX6_init 35 = .ok (.putfield 19, 3) := by decide +kernel
theorem dX6_init_38 : decode cX6_init 38 = .ok (.aload_n 0, 1) := by decide +kernel
theorem dX6_init_39 : decode cX6_init 39 = .ok (.bipush 120, 2) := by decide +kernel
theorem dX6_init_41 : decode cX6_init 41 = .ok (.newarray .int, 2) := by decide +kernel
theorem dX6_init_43 : decode cX6_init 43 = .ok (.putfield 22, 3) := by decide +kernel
theorem dX6_init_46 : decode cX6_init 46 = .ok (.aload_n 0, 1) := by decide +kernel
theorem dX6_init_47 : decode cX6_init 47 = .ok (.bipush 96, 2) := by decide +kernel
theorem dX6_init_49 : decode cX6_init 49 = .ok (.newarray .int, 2) := by decide +kernel
theorem dX6_init_51 : decode cX6_init 51 = .ok (.putfield 25, 3) := by decide +kernel
theorem dX6_init_54 : decode cX6_init 54 = .ok (.aload_n 0, 1) := by decide +kernel
theorem dX6_init_55 : decode cX6_init 55 = .ok (.bipush 6, 2) := by decide +kernel
theorem dX6_init_57 : decode cX6_init 57 = .ok (.newarray .int, 2) := by decide +kernel
theorem dX6_init_59 : decode cX6_init 59 = .ok (.putfield 28, 3) := by decide +kernel
theorem dX6_init_62 : decode cX6_init 62 = .ok (.aload_n 0, 1) := by decide +kernel
theorem dX6_init_63 : decode cX6_init 63 = .ok (.sipush 1560, 3) := by decide +kernel
theorem dX6_init_66 : decode cX6_init 66 = .ok (.newarray .int, 2) := by decide +kernel
theorem dX6_init_68 : decode cX6_init 68 = .ok (.putfield 31, 3) := by decide +kernel
theorem dX6_init_71 : decode cX6_init 71 = .ok (.aload_n 0, 1) := by decide +kernel
theorem dX6_init_72 : decode cX6_init 72 = .ok (.iconst 0, 1) := by decide +kernel
theorem dX6_init_73 : decode cX6_init 73 = .ok (.putfield 34, 3) := by decide +kernel
theorem dX6_init_76 : decode cX6_init 76 = .ok (.return_, 1) := by decide +kernel
theorem dX6_isIn_0 : decode cX6_isIn 0 = .ok (.iload_n 0, 1) := by decide +kernel
theorem dX6_isIn_1 : decode cX6_isIn 1 = .ok (.iload_n 1, 1) := by decide +kernel
theorem dX6_isIn_2 : decode cX6_isIn 2 = .ok (.if_icmp .lt 12, 3) := by decide +kernel
theorem dX6_isIn_5 : decode cX6_isIn 5 = .ok (.iload_n 0, 1) := by decide +kernel
theorem dX6_isIn_6 : decode cX6_isIn 6 = .ok (.iload_n 2, 1) := by decide +kernel
theorem dX6_isIn_7 : decode cX6_isIn 7 = .ok (.if_icmp .gt 7, 3) := by decide +kernel
theorem dX6_isIn_10 : decode cX6_isIn 10 = .ok (.iconst 1, 1) := by decide +kernel
theorem dX6_isIn_11 : decode cX6_isIn 11 = .ok (.goto 4, 3) := by decide +kernel
theorem dX6_isIn_14 : decode cX6_isIn 14 = .ok (.iconst 0, 1) := by decide +kernel
theorem dX6_isIn_15 : decode cX6_isIn 15 = .ok (.ireturn, 1) := by decide +kernel
theorem dX6_refused_0 : decode cX6_refused 0 = .ok (.aload_n 0, 1) := by decide +kernel
theorem dX6_refused_1 : decode cX6_refused 1 = .ok (.getfield 19, 3) := by decide +kernel
theorem dX6_refused_4 : decode cX6_refused 4 = .ok (.bipush (-2), 2) := by decide +kernel
theorem dX6_refused_6 : decode cX6_refused 6 = .ok (.iload_n 1, 1) := by decide +kernel
theorem dX6_refused_7 : decode cX6_refused 7 = .ok (.isub, 1) := by decide +kernel
theorem dX6_refused_8 : decode cX6_refused 8 = .ok (.dup2, 1) := by decide +kernel
theorem dX6_refused_9 : decode cX6_refused 9 = .ok (.iaload, 1) := by decide +kernel
theorem dX6_refused_10 : decode cX6_refused 10 = .ok (.iconst 1, 1) := by decide +kernel
theorem dX6_refused_11 : decode cX6_refused 11 = .ok (.iadd, 1) := by decide +kernel
theorem dX6_refused_12 : decode cX6_refused 12 = .ok (.iastore, 1) := by decide +kernel
theorem dX6_refused_13 : decode cX6_refused 13 = .ok (.iload_n 1, 1) := by decide +kernel
theorem dX6_refused_14 : decode cX6_refused 14 = .ok (.ireturn, 1) := by decide +kernel
theorem dX6_counted_0 : decode cX6_counted 0 = .ok (.iload_n 1, 1) := by decide +kernel
theorem dX6_counted_1 : decode cX6_counted 1 = .ok (.iconst (-1), 1) := by decide +kernel
theorem dX6_counted_2 : decode cX6_counted 2 = .ok (.if_icmp .ge 17, 3) := by decide +kernel
theorem dX6_counted_5 : decode cX6_counted 5 = .ok (.iload_n 1, 1) := by decide +kernel
theorem dX6_counted_6 : decode cX6_counted 6 = .ok (.bipush (-5), 2) := by decide +kernel
theorem dX6_counted_8 : decode cX6_counted 8 = .ok (.if_icmp .le 11, 3) := by decide +kernel
theorem dX6_counted_11 : decode cX6_counted 11 = .ok (.aload_n 0, 1) := by decide +kernel
theorem dX6_counted_12 : decode cX6_counted 12 = .ok (.iload_n 1, 1) := by decide +kernel
theorem dX6_counted_13 : decode cX6_counted 13 = .ok (.invokevirtual 38, 3) := by decide +kernel
theorem dX6_counted_16 : decode cX6_counted 16 = .ok (.goto 4, 3) := by decide +kernel
theorem dX6_counted_19 : decode cX6_counted 19 = .ok (.iload_n 1, 1) := by decide +kernel
theorem dX6_counted_20 : decode cX6_counted 20 = .ok (.ireturn, 1) := by decide +kernel
theorem dX6_keeps_0 : decode cX6_keeps 0 = .ok (.aload_n 0, 1) := by decide +kernel
theorem dX6_keeps_1 : decode cX6_keeps 1 = .ok (.getfield 42, 3) := by decide +kernel
theorem dX6_keeps_4 : decode cX6_keeps 4 = .ok (.iconst 5, 1) := by decide +kernel
theorem dX6_keeps_5 : decode cX6_keeps 5 = .ok (.if_icmp .ne 44, 3) := by decide +kernel
theorem dX6_keeps_8 : decode cX6_keeps 8 = .ok (.iconst 0, 1) := by decide +kernel
theorem dX6_keeps_9 : decode cX6_keeps 9 = .ok (.istore_n 1, 1) := by decide +kernel
theorem dX6_keeps_10 : decode cX6_keeps 10 = .ok (.iload_n 1, 1) := by decide +kernel
theorem dX6_keeps_11 : decode cX6_keeps 11 = .ok (.sipush 1344, 3) := by decide +kernel
theorem dX6_keeps_14 : decode cX6_keeps 14 = .ok (.if_icmp .ge 25, 3) := by decide +kernel
theorem dX6_keeps_17 : decode cX6_keeps 17 = .ok (.aload_n 0, 1) := by decide +kernel
theorem dX6_keeps_18 : decode cX6_keeps 18 = .ok (.getfield 13, 3) := by decide +kernel
theorem dX6_keeps_21 : decode cX6_keeps 21 = .ok (.iload_n 1, 1) := by decide +kernel
theorem dX6_keeps_22 : decode cX6_keeps 22 = .ok (.aload_n 0, 1) := by decide +kernel
theorem dX6_keeps_23 : decode cX6_keeps 23 = .ok (.getfield 13, 3) := by decide +kernel
theorem dX6_keeps_26 : decode cX6_keeps 26 = .ok (.iload_n 1, 1) := by decide +kernel
theorem dX6_keeps_27 : decode cX6_keeps 27 = .ok (.sipush 336, 3) := by decide +kernel
theorem dX6_keeps_30 : decode cX6_keeps 30 = .ok (.iadd, 1) := by decide +kernel
theorem dX6_keeps_31 : decode cX6_keeps 31 = .ok (.iaload, 1) := by decide +kernel
theorem dX6_keeps_32 : decode cX6_keeps 32 = .ok (.iastore, 1) := by decide +kernel
theorem dX6_keeps_33 : decode cX6_keeps 33 = .ok (.iinc 1 1, 3) := by decide +kernel
theorem dX6_keeps_36 : decode cX6_keeps 36 = .ok (.goto (-26), 3) := by decide +kernel
theorem dX6_keeps_39 : decode cX6_keeps 39 = .ok (.aload_n 0, 1) := by decide +kernel
theorem dX6_keeps_40 : decode cX6_keeps 40 = .ok (.dup, 1) := by decide +kernel
theorem dX6_keeps_41 : decode cX6_keeps 41 = .ok (.getfield 42, 3) := by decide +kernel
theorem dX6_keeps_44 : decode cX6_keeps 44 = .ok (.iconst 1, 1) := by decide +kernel
theorem dX6_keeps_45 : decode cX6_keeps 45 = .ok (.isub, 1) := by decide +kernel
theorem dX6_keeps_46 : decode cX6_keeps 46 = .ok (.putfield 42, 3) := by decide +kernel
theorem dX6_keeps_49 : decode cX6_keeps 49 = .ok (.iconst 0, 1) := by decide +kernel
theorem dX6_keeps_50 : decode cX6_keeps 50 = .ok (.istore_n 1, 1) := by decide +kernel
theorem dX6_keeps_51 : decode cX6_keeps 51 = .ok (.iload_n 1, 1) := by decide +kernel
theorem dX6_keeps_52 : decode cX6_keeps 52 = .ok (.sipush 336, 3) := by decide +kernel
theorem dX6_keeps_55 : decode cX6_keeps 55 = .ok (.if_icmp .ge 30, 3) := by decide +kernel
theorem dX6_keeps_58 : decode cX6_keeps 58 = .ok (.aload_n 0, 1) := by decide +kernel
theorem dX6_keeps_59 : decode cX6_keeps 59 = .ok (.getfield 13, 3) := by decide +kernel
theorem dX6_keeps_62 : decode cX6_keeps 62 = .ok (.sipush 336, 3) := by decide +kernel
theorem dX6_keeps_65 : decode cX6_keeps 65 = .ok (.aload_n 0, 1) := by decide +kernel
theorem dX6_keeps_66 : decode cX6_keeps 66 = .ok (.getfield 42, 3) := by decide +kernel
theorem dX6_keeps_69 : decode cX6_keeps 69 = .ok (.imul, 1) := by decide +kernel
theorem dX6_keeps_70 : decode cX6_keeps 70 = .ok (.iload_n 1, 1) := by decide +kernel
theorem dX6_keeps_71 : decode cX6_keeps 71 = .ok (.iadd, 1) := by decide +kernel
theorem dX6_keeps_72 : decode cX6_keeps 72 = .ok (.aload_n 0, 1) := by decide +kernel
theorem dX6_keeps_73 : decode cX6_keeps 73 = .ok (.getfield 7, 3) := by decide +kernel
theorem dX6_keeps_76 : decode cX6_keeps 76 = .ok (.iload_n 1, 1) := by decide +kernel
theorem dX6_keeps_77 : decode cX6_keeps 77 = .ok (.iaload, 1) := by decide +kernel
theorem dX6_keeps_78 : decode cX6_keeps 78 = .ok (.iastore, 1) := by decide +kernel
theorem dX6_keeps_79 : decode cX6_keeps 79 = .ok (.iinc 1 1, 3) := by decide +kernel
theorem dX6_keeps_82 : decode cX6_keeps 82 = .ok (.goto (-31), 3) := by decide +kernel
theorem dX6_keeps_85 : decode cX6_keeps 85 = .ok (.aload_n 0, 1) := by decide +kernel
theorem dX6_keeps_86 : decode cX6_keeps 86 = .ok (.dup, 1) := by decide +kernel
theorem dX6_keeps_87 : decode cX6_keeps 87 = .ok (.getfield 42, 3) := by decide +kernel
theorem dX6_keeps_90 : decode cX6_keeps 90 = .ok (.iconst 1, 1) := by decide +kernel
theorem dX6_keeps_91 : decode cX6_keeps 91 = .ok (.iadd, 1) := by decide +kernel
theorem dX6_keeps_92 : decode cX6_keeps 92 = .ok (.putfield 42, 3) := by decide +kernel
theorem dX6_keeps_95 : decode cX6_keeps 95 = .ok (.return_, 1) := by decide +kernel
theorem dX6_done_0 : decode cX6_done 0 = .ok (.iload_n 1, 1) := by decide +kernel
theorem dX6_done_1 : decode cX6_done 1 = .ok (.iconst (-1), 1) := by decide +kernel
theorem dX6_done_2 : decode cX6_done 2 = .ok (.if_icmp .ge 9, 3) := by decide +kernel
theorem dX6_done_5 : decode cX6_done 5 = .ok (.aload_n 0, 1) := by decide +kernel
theorem dX6_done_6 : decode cX6_done 6 = .ok (.iload_n 1, 1) := by decide +kernel
theorem dX6_done_7 : decode cX6_done 7 = .ok (.invokevirtual 38, 3) := by decide +kernel
theorem dX6_done_10 : decode cX6_done 10 = .ok (.ireturn, 1) := by decide +kernel
theorem dX6_done_11 : decode cX6_done 11 = .ok (.iconst 0, 1) := by decide +kernel
theorem dX6_done_12 : decode cX6_done 12 = .ok (.istore_n 2, 1) := by decide +kernel
theorem dX6_done_13 : decode cX6_done 13 = .ok (.iload_n 2, 1) := by decide +kernel
theorem dX6_done_14 : decode cX6_done 14 = .ok (.sipush 336, 3) := by decide +kernel
theorem dX6_done_17 : decode cX6_done 17 = .ok (.if_icmp .ge 35, 3) := by decide +kernel
theorem dX6_done_20 : decode cX6_done 20 = .ok (.aload_n 0, 1) := by decide +kernel
theorem dX6_done_21 : decode cX6_done 21 = .ok (.getfield 7, 3) := by decide +kernel
theorem dX6_done_24 : decode cX6_done 24 = .ok (.iload_n 2, 1) := by decide +kernel
theorem dX6_done_25 : decode cX6_done 25 = .ok (.iaload, 1) := by decide +kernel
theorem dX6_done_26 : decode cX6_done 26 = .ok (.istore_n 3, 1) := by decide +kernel
theorem dX6_done_27 : decode cX6_done 27 = .ok (.aload_n 0, 1) := by decide +kernel
theorem dX6_done_28 : decode cX6_done 28 = .ok (.getfield 7, 3) := by decide +kernel
theorem dX6_done_31 : decode cX6_done 31 = .ok (.iload_n 2, 1) := by decide +kernel
theorem dX6_done_32 : decode cX6_done 32 = .ok (.aload_n 0, 1) := by decide +kernel
theorem dX6_done_33 : decode cX6_done 33 = .ok (.getfield 16, 3) := by decide +kernel
theorem dX6_done_36 : decode cX6_done 36 = .ok (.iload_n 2, 1) := by decide +kernel
theorem dX6_done_37 : decode cX6_done 37 = .ok (.iaload, 1) := by decide +kernel
theorem dX6_done_38 : decode cX6_done 38 = .ok (.iastore, 1) := by decide +kernel
theorem dX6_done_39 : decode cX6_done 39 = .ok (.aload_n 0, 1) := by decide +kernel
theorem dX6_done_40 : decode cX6_done 40 = .ok (.getfield 16, 3) := by decide +kernel
theorem dX6_done_43 : decode cX6_done 43 = .ok (.iload_n 2, 1) := by decide +kernel
theorem dX6_done_44 : decode cX6_done 44 = .ok (.iload_n 3, 1) := by decide +kernel
theorem dX6_done_45 : decode cX6_done 45 = .ok (.iastore, 1) := by decide +kernel
theorem dX6_done_46 : decode cX6_done 46 = .ok (.iinc 2 1, 3) := by decide +kernel
theorem dX6_done_49 : decode cX6_done 49 = .ok (.goto (-36), 3) := by decide +kernel
theorem dX6_done_52 : decode cX6_done 52 = .ok (.aload_n 0, 1) := by decide +kernel
theorem dX6_done_53 : decode cX6_done 53 = .ok (.invokevirtual 45, 3) := by decide +kernel
theorem dX6_done_56 : decode cX6_done 56 = .ok (.iconst 0, 1) := by decide +kernel
theorem dX6_done_57 : decode cX6_done 57 = .ok (.istore_n 2, 1) := by decide +kernel
theorem dX6_done_58 : decode cX6_done 58 = .ok (.iload_n 2, 1) := by decide +kernel
theorem dX6_done_59 : decode cX6_done 59 = .ok (.sipush 336, 3) := by decide +kernel
theorem dX6_done_62 : decode cX6_done 62 = .ok (.if_icmp .ge 21, 3) := by decide +kernel
theorem dX6_done_65 : decode cX6_done 65 = .ok (.aload_n 0, 1) := by decide +kernel
theorem dX6_done_66 : decode cX6_done 66 = .ok (.getfield 7, 3) := by decide +kernel
theorem dX6_done_69 : decode cX6_done 69 = .ok (.iload_n 2, 1) := by decide +kernel
theorem dX6_done_70 : decode cX6_done 70 = .ok (.aload_n 0, 1) := by decide +kernel
theorem dX6_done_71 : decode cX6_done 71 = .ok (.getfield 16, 3) := by decide +kernel
theorem dX6_done_74 : decode cX6_done 74 = .ok (.iload_n 2, 1) := by decide +kernel
theorem dX6_done_75 : decode cX6_done 75 = .ok (.iaload, 1) := by decide +kernel
theorem dX6_done_76 : decode cX6_done 76 = .ok (.iastore, 1) := by decide +kernel
theorem dX6_done_77 : decode cX6_done 77 = .ok (.iinc 2 1, 3) := by decide +kernel
theorem dX6_done_80 : decode cX6_done 80 = .ok (.goto (-22), 3) := by decide +kernel
theorem dX6_done_83 : decode cX6_done 83 = .ok (.iload_n 1, 1) := by decide +kernel
theorem dX6_done_84 : decode cX6_done 84 = .ok (.ireturn, 1) := by decide +kernel
theorem dX6_notes_0 : decode cX6_notes 0 = .ok (.iconst 0, 1) := by decide +kernel
theorem dX6_notes_1 : decode cX6_notes 1 = .ok (.istore_n 1, 1) := by decide +kernel
theorem dX6_notes_2 : decode cX6_notes 2 = .ok (.iload_n 1, 1) := by decide +kernel
theorem dX6_notes_3 : decode cX6_notes 3 = .ok (.sipush 336, 3) := by decide +kernel
theorem dX6_notes_6 : decode cX6_notes 6 = .ok (.if_icmp .ge 21, 3) := by decide +kernel
theorem dX6_notes_9 : decode cX6_notes 9 = .ok (.aload_n 0, 1) := by decide +kernel
theorem dX6_notes_10 : decode cX6_notes 10 = .ok (.getfield 16, 3) := by decide +kernel
theorem dX6_notes_13 : decode cX6_notes 13 = .ok (.iload_n 1, 1) := by decide +kernel
theorem dX6_notes_14 : decode cX6_notes 14 = .ok (.aload_n 0, 1) := by decide +kernel
theorem dX6_notes_15 : decode cX6_notes 15 = .ok (.getfield 7, 3) := by decide +kernel
theorem dX6_notes_18 : decode cX6_notes 18 = .ok (.iload_n 1, 1) := by decide +kernel
theorem dX6_notes_19 : decode cX6_notes 19 = .ok (.iaload, 1) := by decide +kernel
theorem dX6_notes_20 : decode cX6_notes 20 = .ok (.iastore, 1) := by decide +kernel
theorem dX6_notes_21 : decode cX6_notes 21 = .ok (.iinc 1 1, 3) := by decide +kernel
theorem dX6_notes_24 : decode cX6_notes 24 = .ok (.goto (-22), 3) := by decide +kernel
theorem dX6_notes_27 : decode cX6_notes 27 = .ok (.return_, 1) := by decide +kernel
theorem dX6_place_0 : decode cX6_place 0 = .ok (.bipush 36, 2) := by decide +kernel
theorem dX6_place_2 : decode cX6_place 2 = .ok (.bipush 36, 2) := by decide +kernel
theorem dX6_place_4 : decode cX6_place 4 = .ok (.iload_n 1, 1) := by decide +kernel
theorem dX6_place_5 : decode cX6_place 5 = .ok (.imul, 1) := by decide +kernel
theorem dX6_place_6 : decode cX6_place 6 = .ok (.iadd, 1) := by decide +kernel
theorem dX6_place_7 : decode cX6_place 7 = .ok (.bipush 12, 2) := by decide +kernel
theorem dX6_place_9 : decode cX6_place 9 = .ok (.iload_n 3, 1) := by decide +kernel
theorem dX6_place_10 : decode cX6_place 10 = .ok (.imul, 1) := by decide +kernel
theorem dX6_place_11 : decode cX6_place 11 = .ok (.iadd, 1) := by decide +kernel
theorem dX6_place_12 : decode cX6_place 12 = .ok (.iload_n 2, 1) := by decide +kernel
theorem dX6_place_13 : decode cX6_place 13 = .ok (.iadd, 1) := by decide +kernel
theorem dX6_place_14 : decode cX6_place 14 = .ok (.ireturn, 1) := by decide +kernel
theorem dX6_isDancer_0 : decode cX6_isDancer 0 = .ok (.iload_n 1, 1) := by decide +kernel
theorem dX6_isDancer_1 : decode cX6_isDancer 1 = .ok (.iconst 0, 1) := by decide +kernel
theorem dX6_isDancer_2 : decode cX6_isDancer 2 = .ok (.aload_n 0, 1) := by decide +kernel
theorem dX6_isDancer_3 : decode cX6_isDancer 3 = .ok (.getfield 7, 3) := by decide +kernel
theorem dX6_isDancer_6 : decode cX6_isDancer 6 = .ok (.iconst 0, 1) := by decide +kernel
theorem dX6_isDancer_7 : decode cX6_isDancer 7 = .ok (.iaload, 1) := by decide +kernel
theorem dX6_isDancer_8 : decode cX6_isDancer 8 = .ok (.iconst 1, 1) := by decide +kernel
theorem dX6_isDancer_9 : decode cX6_isDancer 9 = .ok (.isub, 1) := by decide +kernel
theorem dX6_isDancer_10 : decode cX6_isDancer 10 = .ok (.invokestatic 48, 3) := by decide +kernel
theorem dX6_isDancer_13 : decode cX6_isDancer 13 = .ok (.ireturn, 1) := by decide +kernel
theorem dX6_isCall_0 : decode cX6_isCall 0 = .ok (.iload_n 1, 1) := by decide +kernel
theorem dX6_isCall_1 : decode cX6_isCall 1 = .ok (.iconst 0, 1) := by decide +kernel
theorem dX6_isCall_2 : decode cX6_isCall 2 = .ok (.aload_n 0, 1) := by decide +kernel
theorem dX6_isCall_3 : decode cX6_isCall 3 = .ok (.getfield 7, 3) := by decide +kernel
theorem dX6_isCall_6 : decode cX6_isCall 6 = .ok (.iconst 1, 1) := by decide +kernel
theorem dX6_isCall_7 : decode cX6_isCall 7 = .ok (.iaload, 1) := by decide +kernel
theorem dX6_isCall_8 : decode cX6_isCall 8 = .ok (.iconst 1, 1) := by decide +kernel
theorem dX6_isCall_9 : decode cX6_isCall 9 = .ok (.isub, 1) := by decide +kernel
theorem dX6_isCall_10 : decode cX6_isCall 10 = .ok (.invokestatic 48, 3) := by decide +kernel
theorem dX6_isCall_13 : decode cX6_isCall 13 = .ok (.ireturn, 1) := by decide +kernel
theorem dX6_isSpot_0 : decode cX6_isSpot 0 = .ok (.iload_n 0, 1) := by decide +kernel
theorem dX6_isSpot_1 : decode cX6_isSpot 1 = .ok (.iconst 0, 1) := by decide +kernel
theorem dX6_isSpot_2 : decode cX6_isSpot 2 = .ok (.bipush 11, 2) := by decide +kernel
theorem dX6_isSpot_4 : decode cX6_isSpot 4 = .ok (.invokestatic 48, 3) := by decide +kernel
theorem dX6_isSpot_7 : decode cX6_isSpot 7 = .ok (.ireturn, 1) := by decide +kernel
theorem dX6_who_0 : decode cX6_who 0 = .ok (.iconst 0, 1) := by decide +kernel
theorem dX6_who_1 : decode cX6_who 1 = .ok (.istore_n 2, 1) := by decide +kernel
theorem dX6_who_2 : decode cX6_who 2 = .ok (.iload_n 2, 1) := by decide +kernel
theorem dX6_who_3 : decode cX6_who 3 = .ok (.aload_n 0, 1) := by decide +kernel
theorem dX6_who_4 : decode cX6_who 4 = .ok (.getfield 7, 3) := by decide +kernel
theorem dX6_who_7 : decode cX6_who 7 = .ok (.iconst 0, 1) := by decide +kernel
theorem dX6_who_8 : decode cX6_who 8 = .ok (.iaload, 1) := by decide +kernel
theorem dX6_who_9 : decode cX6_who 9 = .ok (.if_icmp .ge 25, 3) := by decide +kernel
theorem dX6_who_12 : decode cX6_who 12 = .ok (.aload_n 0, 1) := by decide +kernel
theorem dX6_who_13 : decode cX6_who 13 = .ok (.getfield 7, 3) := by decide +kernel
theorem dX6_who_16 : decode cX6_who 16 = .ok (.iconst 4, 1) := by decide +kernel
theorem dX6_who_17 : decode cX6_who 17 = .ok (.iconst 4, 1) := by decide +kernel
theorem dX6_who_18 : decode cX6_who 18 = .ok (.iload_n 2, 1) := by decide +kernel
theorem dX6_who_19 : decode cX6_who 19 = .ok (.imul, 1) := by decide +kernel
theorem dX6_who_20 : decode cX6_who 20 = .ok (.iadd, 1) := by decide +kernel
theorem dX6_who_21 : decode cX6_who 21 = .ok (.iaload, 1) := by decide +kernel
theorem dX6_who_22 : decode cX6_who 22 = .ok (.iload_n 1, 1) := by decide +kernel
theorem dX6_who_23 : decode cX6_who 23 = .ok (.if_icmp .ne 5, 3) := by decide +kernel
theorem dX6_who_26 : decode cX6_who 26 = .ok (.iload_n 2, 1) := by decide +kernel
theorem dX6_who_27 : decode cX6_who 27 = .ok (.ireturn, 1) := by decide +kernel
theorem dX6_who_28 : decode cX6_who 28 = .ok (.iinc 2 1, 3) := by decide +kernel
theorem dX6_who_31 : decode cX6_who 31 = .ok (.goto (-29), 3) := by decide +kernel
theorem dX6_who_34 : decode cX6_who 34 = .ok (.iconst (-1), 1) := by decide +kernel
theorem dX6_who_35 : decode cX6_who 35 = .ok (.ireturn, 1) := by decide +kernel
theorem dX6_comes_0 : decode cX6_comes 0 = .ok (.iconst 0, 1) := by decide +kernel
theorem dX6_comes_1 : decode cX6_comes 1 = .ok (.istore_n 3, 1) := by decide +kernel
theorem dX6_comes_2 : decode cX6_comes 2 = .ok (.iconst 0, 1) := by decide +kernel
theorem dX6_comes_3 : decode cX6_comes 3 = .ok (.istore 4, 2) := by decide +kernel
theorem dX6_comes_5 : decode cX6_comes 5 = .ok (.iload 4, 2) := by decide +kernel
theorem dX6_comes_7 : decode cX6_comes 7 = .ok (.aload_n 0, 1) := by decide +kernel
theorem dX6_comes_8 : decode cX6_comes 8 = .ok (.getfield 7, 3) := by decide +kernel
theorem dX6_comes_11 : decode cX6_comes 11 = .ok (.iconst 0, 1) := by decide +kernel
theorem dX6_comes_12 : decode cX6_comes 12 = .ok (.iaload, 1) := by decide +kernel
theorem dX6_comes_13 : decode cX6_comes 13 = .ok (.if_icmp .ge 50, 3) := by decide +kernel
theorem dX6_comes_16 : decode cX6_comes 16 = .ok (.iload_n 3, 1) := by decide +kernel
theorem dX6_comes_17 : decode cX6_comes 17 = .ok (.ifCond .ne 34, 3) := by decide +kernel
theorem dX6_comes_20 : decode cX6_comes 20 = .ok (.aload_n 0, 1) := by decide +kernel
theorem dX6_comes_21 : decode cX6_comes 21 = .ok (.getfield 7, 3) := by decide +kernel
theorem dX6_comes_24 : decode cX6_comes 24 = .ok (.iconst 4, 1) := by decide +kernel
theorem dX6_comes_25 : decode cX6_comes 25 = .ok (.iconst 4, 1) := by decide +kernel
theorem dX6_comes_26 : decode cX6_comes 26 = .ok (.iload 4, 2) := by decide +kernel
theorem dX6_comes_28 : decode cX6_comes 28 = .ok (.imul, 1) := by decide +kernel
theorem dX6_comes_29 : decode cX6_comes 29 = .ok (.iadd, 1) := by decide +kernel
theorem dX6_comes_30 : decode cX6_comes 30 = .ok (.iaload, 1) := by decide +kernel
theorem dX6_comes_31 : decode cX6_comes 31 = .ok (.iload_n 1, 1) := by decide +kernel
theorem dX6_comes_32 : decode cX6_comes 32 = .ok (.if_icmp .eq 19, 3) := by decide +kernel
theorem dX6_comes_35 : decode cX6_comes 35 = .ok (.aload_n 0, 1) := by decide +kernel
theorem dX6_comes_36 : decode cX6_comes 36 = .ok (.getfield 7, 3) := by decide +kernel
theorem dX6_comes_39 : decode cX6_comes 39 = .ok (.bipush 6, 2) := by decide +kernel
theorem dX6_comes_41 : decode cX6_comes 41 = .ok (.iconst 4, 1) := by decide +kernel
theorem dX6_comes_42 : decode cX6_comes 42 = .ok (.iload 4, 2) := by decide +kernel
theorem dX6_comes_44 : decode cX6_comes 44 = .ok (.imul, 1) := by decide +kernel
theorem dX6_comes_45 : decode cX6_comes 45 = .ok (.iadd, 1) := by decide +kernel
theorem dX6_comes_46 : decode cX6_comes 46 = .ok (.iaload, 1) := by decide +kernel
theorem dX6_comes_47 : decode cX6_comes 47 = .ok (.iload_n 1, 1) := by decide +kernel
theorem dX6_comes_48 : decode cX6_comes 48 = .ok (.if_icmp .ne 7, 3) := by decide +kernel
theorem dX6_comes_51 : decode cX6_comes 51 = .ok (.iconst 1, 1) := by decide +kernel
theorem dX6_comes_52 : decode cX6_comes 52 = .ok (.goto 4, 3) := by decide +kernel
theorem dX6_comes_55 : decode cX6_comes 55 = .ok (.iconst 0, 1) := by decide +kernel
theorem dX6_comes_56 : decode cX6_comes 56 = .ok (.istore_n 3, 1) := by decide +kernel
theorem dX6_comes_57 : decode cX6_comes 57 = .ok (.iinc 4 1, 3) := by decide +kernel
theorem dX6_comes_60 : decode cX6_comes 60 = .ok (.goto (-55), 3) := by decide +kernel
theorem dX6_comes_63 : decode cX6_comes 63 = .ok (.iload_n 1, 1) := by decide +kernel
theorem dX6_comes_64 : decode cX6_comes 64 = .ok (.invokestatic 52, 3) := by decide +kernel
theorem dX6_comes_67 : decode cX6_comes 67 = .ok (.ifCond .eq 16, 3) := by decide +kernel
theorem dX6_comes_70 : decode cX6_comes 70 = .ok (.iload_n 2, 1) := by decide +kernel
theorem dX6_comes_71 : decode cX6_comes 71 = .ok (.iconst 0, 1) := by decide +kernel
theorem dX6_comes_72 : decode cX6_comes 72 = .ok (.iconst 3, 1) := by decide +kernel
theorem dX6_comes_73 : decode cX6_comes 73 = .ok (.invokestatic 48, 3) := by decide +kernel
theorem dX6_comes_76 : decode cX6_comes 76 = .ok (.ifCond .eq 7, 3) := by decide +kernel
theorem dX6_comes_79 : decode cX6_comes 79 = .ok (.iload_n 3, 1) := by decide +kernel
theorem dX6_comes_80 : decode cX6_comes 80 = .ok (.ifCond .eq 6, 3) := by decide +kernel
theorem dX6_comes_83 : decode cX6_comes 83 = .ok (.bipush (-2), 2) := by decide +kernel
theorem dX6_comes_85 : decode cX6_comes 85 = .ok (.ireturn, 1) := by decide +kernel
theorem dX6_comes_86 : decode cX6_comes 86 = .ok (.aload_n 0, 1) := by decide +kernel
theorem dX6_comes_87 : decode cX6_comes 87 = .ok (.getfield 7, 3) := by decide +kernel
theorem dX6_comes_90 : decode cX6_comes 90 = .ok (.iconst 0, 1) := by decide +kernel
theorem dX6_comes_91 : decode cX6_comes 91 = .ok (.iaload, 1) := by decide +kernel
theorem dX6_comes_92 : decode cX6_comes 92 = .ok (.bipush 8, 2) := by decide +kernel
theorem dX6_comes_94 : decode cX6_comes 94 = .ok (.if_icmp .ne 6, 3) := by decide +kernel
theorem dX6_comes_97 : decode cX6_comes 97 = .ok (.bipush (-4), 2) := by decide +kernel
theorem dX6_comes_99 : decode cX6_comes 99 = .ok (.ireturn, 1) := by decide +kernel
theorem dX6_comes_100 : decode cX6_comes 100 = .ok (.iconst 4, 1) := by decide +kernel
theorem dX6_comes_101 : decode cX6_comes 101 = .ok (.iconst 4, 1) := by decide +kernel
theorem dX6_comes_102 : decode cX6_comes 102 = .ok (.aload_n 0, 1) := by decide +kernel
theorem dX6_comes_103 : decode cX6_comes 103 = .ok (.getfield 7, 3) := by decide +kernel
theorem dX6_comes_106 : decode cX6_comes 106 = .ok (.iconst 0, 1) := by decide +kernel
