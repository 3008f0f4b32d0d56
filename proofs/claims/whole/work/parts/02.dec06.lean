theorem dX6_walks_30 : decode cX6_walks 30 = .ok (.invokevirtual 66, 3) := by decide +kernel
theorem dX6_walks_33 : decode cX6_walks 33 = .ok (.ifCond .ne 5, 3) := by decide +kernel
theorem dX6_walks_36 : decode cX6_walks 36 = .ok (.iload_n 1, 1) := by decide +kernel
theorem dX6_walks_37 : decode cX6_walks 37 = .ok (.ireturn, 1) := by decide +kernel
theorem dX6_walks_38 : decode cX6_walks 38 = .ok (.aload_n 0, 1) := by decide +kernel
theorem dX6_walks_39 : decode cX6_walks 39 = .ok (.iload_n 2, 1) := by decide +kernel
theorem dX6_walks_40 : decode cX6_walks 40 = .ok (.invokevirtual 69, 3) := by decide +kernel
theorem dX6_walks_43 : decode cX6_walks 43 = .ok (.pop, 1) := by decide +kernel
theorem dX6_walks_44 : decode cX6_walks 44 = .ok (.iinc 1 1, 3) := by decide +kernel
theorem dX6_walks_47 : decode cX6_walks 47 = .ok (.goto (-40), 3) := by decide +kernel
theorem dX6_walks_50 : decode cX6_walks 50 = .ok (.iconst (-1), 1) := by decide +kernel
theorem dX6_walks_51 : decode cX6_walks 51 = .ok (.ireturn, 1) := by decide +kernel
theorem dX6_judges_0 : decode cX6_judges 0 = .ok (.aload_n 0, 1) := by decide +kernel
theorem dX6_judges_1 : decode cX6_judges 1 = .ok (.invokevirtual 154, 3) := by decide +kernel
theorem dX6_judges_4 : decode cX6_judges 4 = .ok (.istore_n 1, 1) := by decide +kernel
theorem dX6_judges_5 : decode cX6_judges 5 = .ok (.aload_n 0, 1) := by decide +kernel
theorem dX6_judges_6 : decode cX6_judges 6 = .ok (.iconst 5, 1) := by decide +kernel
theorem dX6_judges_7 : decode cX6_judges 7 = .ok (.invokevirtual 142, 3) := by decide +kernel
theorem dX6_judges_10 : decode cX6_judges 10 = .ok (.iload_n 1, 1) := by decide +kernel
theorem dX6_judges_11 : decode cX6_judges 11 = .ok (.ireturn, 1) := by decide +kernel
theorem dX6_planned_0 : decode cX6_planned 0 = .ok (.aload_n 0, 1) := by decide +kernel
theorem dX6_planned_1 : decode cX6_planned 1 = .ok (.iload_n 1, 1) := by decide +kernel
theorem dX6_planned_2 : decode cX6_planned 2 = .ok (.invokevirtual 108, 3) := by decide +kernel
theorem dX6_planned_5 : decode cX6_planned 5 = .ok (.ifCond .eq 12, 3) := by decide +kernel
theorem dX6_planned_8 : decode cX6_planned 8 = .ok (.iload_n 2, 1) := by decide +kernel
theorem dX6_planned_9 : decode cX6_planned 9 = .ok (.iconst 0, 1) := by decide +kernel
theorem dX6_planned_10 : decode cX6_planned 10 = .ok (.iconst 1, 1) := by decide +kernel
theorem dX6_planned_11 : decode cX6_planned 11 = .ok (.invokestatic 48, 3) := by decide +kernel
theorem dX6_planned_14 : decode cX6_planned 14 = .ok (.ifCond .ne 10, 3) := by decide +kernel
theorem dX6_planned_17 : decode cX6_planned 17 = .ok (.aload_n 0, 1) := by decide +kernel
theorem dX6_planned_18 : decode cX6_planned 18 = .ok (.bipush (-2), 2) := by decide +kernel
theorem dX6_planned_20 : decode cX6_planned 20 = .ok (.invokevirtual 38, 3) := by decide +kernel
theorem dX6_planned_23 : decode cX6_planned 23 = .ok (.ireturn, 1) := by decide +kernel
theorem dX6_planned_24 : decode cX6_planned 24 = .ok (.aload_n 0, 1) := by decide +kernel
theorem dX6_planned_25 : decode cX6_planned 25 = .ok (.invokevirtual 154, 3) := by decide +kernel
theorem dX6_planned_28 : decode cX6_planned 28 = .ok (.pop, 1) := by decide +kernel
theorem dX6_planned_29 : decode cX6_planned 29 = .ok (.aload_n 0, 1) := by decide +kernel
theorem dX6_planned_30 : decode cX6_planned 30 = .ok (.getfield 7, 3) := by decide +kernel
theorem dX6_planned_33 : decode cX6_planned 33 = .ok (.iconst 4, 1) := by decide +kernel
theorem dX6_planned_34 : decode cX6_planned 34 = .ok (.iconst 4, 1) := by decide +kernel
theorem dX6_planned_35 : decode cX6_planned 35 = .ok (.iload_n 1, 1) := by decide +kernel
theorem dX6_planned_36 : decode cX6_planned 36 = .ok (.imul, 1) := by decide +kernel
theorem dX6_planned_37 : decode cX6_planned 37 = .ok (.iadd, 1) := by decide +kernel
theorem dX6_planned_38 : decode cX6_planned 38 = .ok (.iload_n 2, 1) := by decide +kernel
theorem dX6_planned_39 : decode cX6_planned 39 = .ok (.iadd, 1) := by decide +kernel
theorem dX6_planned_40 : decode cX6_planned 40 = .ok (.iaload, 1) := by decide +kernel
theorem dX6_planned_41 : decode cX6_planned 41 = .ok (.istore_n 3, 1) := by decide +kernel
theorem dX6_planned_42 : decode cX6_planned 42 = .ok (.aload_n 0, 1) := by decide +kernel
theorem dX6_planned_43 : decode cX6_planned 43 = .ok (.iconst 5, 1) := by decide +kernel
theorem dX6_planned_44 : decode cX6_planned 44 = .ok (.invokevirtual 142, 3) := by decide +kernel
theorem dX6_planned_47 : decode cX6_planned 47 = .ok (.iload_n 3, 1) := by decide +kernel
theorem dX6_planned_48 : decode cX6_planned 48 = .ok (.ireturn, 1) := by decide +kernel
theorem dX6_number_0 : decode cX6_number 0 = .ok (.iload_n 1, 1) := by decide +kernel
theorem dX6_number_1 : decode cX6_number 1 = .ok (.tableswitch 114 0 6 #[43, 43, 50, 55, 60, 100, 107], 43) := by decide +kernel
theorem dX6_number_44 : decode cX6_number 44 = .ok (.aload_n 0, 1) := by decide +kernel
theorem dX6_number_45 : decode cX6_number 45 = .ok (.getfield 7, 3) := by decide +kernel
theorem dX6_number_48 : decode cX6_number 48 = .ok (.iload_n 1, 1) := by decide +kernel
theorem dX6_number_49 : decode cX6_number 49 = .ok (.iaload, 1) := by decide +kernel
theorem dX6_number_50 : decode cX6_number 50 = .ok (.ireturn, 1) := by decide +kernel
theorem dX6_number_51 : decode cX6_number 51 = .ok (.aload_n 0, 1) := by decide +kernel
theorem dX6_number_52 : decode cX6_number 52 = .ok (.invokevirtual 93, 3) := by decide +kernel
theorem dX6_number_55 : decode cX6_number 55 = .ok (.ireturn, 1) := by decide +kernel
theorem dX6_number_56 : decode cX6_number 56 = .ok (.aload_n 0, 1) := by decide +kernel
theorem dX6_number_57 : decode cX6_number 57 = .ok (.invokevirtual 132, 3) := by decide +kernel
theorem dX6_number_60 : decode cX6_number 60 = .ok (.ireturn, 1) := by decide +kernel
theorem dX6_number_61 : decode cX6_number 61 = .ok (.iconst 0, 1) := by decide +kernel
theorem dX6_number_62 : decode cX6_number 62 = .ok (.istore_n 2, 1) := by decide +kernel
theorem dX6_number_63 : decode cX6_number 63 = .ok (.iconst 0, 1) := by decide +kernel
theorem dX6_number_64 : decode cX6_number 64 = .ok (.istore_n 3, 1) := by decide +kernel
theorem dX6_number_65 : decode cX6_number 65 = .ok (.iload_n 3, 1) := by decide +kernel
theorem dX6_number_66 : decode cX6_number 66 = .ok (.aload_n 0, 1) := by decide +kernel
theorem dX6_number_67 : decode cX6_number 67 = .ok (.getfield 7, 3) := by decide +kernel
theorem dX6_number_70 : decode cX6_number 70 = .ok (.iconst 1, 1) := by decide +kernel
theorem dX6_number_71 : decode cX6_number 71 = .ok (.iaload, 1) := by decide +kernel
theorem dX6_number_72 : decode cX6_number 72 = .ok (.if_icmp .ge 27, 3) := by decide +kernel
theorem dX6_number_75 : decode cX6_number 75 = .ok (.iload_n 2, 1) := by decide +kernel
theorem dX6_number_76 : decode cX6_number 76 = .ok (.aload_n 0, 1) := by decide +kernel
theorem dX6_number_77 : decode cX6_number 77 = .ok (.iload_n 3, 1) := by decide +kernel
theorem dX6_number_78 : decode cX6_number 78 = .ok (.invokevirtual 66, 3) := by decide +kernel
theorem dX6_number_81 : decode cX6_number 81 = .ok (.ifCond .eq 9, 3) := by decide +kernel
theorem dX6_number_84 : decode cX6_number 84 = .ok (.iconst 1, 1) := by decide +kernel
theorem dX6_number_85 : decode cX6_number 85 = .ok (.iload_n 3, 1) := by decide +kernel
theorem dX6_number_86 : decode cX6_number 86 = .ok (.ishl, 1) := by decide +kernel
theorem dX6_number_87 : decode cX6_number 87 = .ok (.goto 4, 3) := by decide +kernel
theorem dX6_number_90 : decode cX6_number 90 = .ok (.iconst 0, 1) := by decide +kernel
theorem dX6_number_91 : decode cX6_number 91 = .ok (.ior, 1) := by decide +kernel
theorem dX6_number_92 : decode cX6_number 92 = .ok (.istore_n 2, 1) := by decide +kernel
theorem dX6_number_93 : decode cX6_number 93 = .ok (.iinc 3 1, 3) := by decide +kernel
theorem dX6_number_96 : decode cX6_number 96 = .ok (.goto (-31), 3) := by decide +kernel
theorem dX6_number_99 : decode cX6_number 99 = .ok (.iload_n 2, 1) := by decide +kernel
theorem dX6_number_100 : decode cX6_number 100 = .ok (.ireturn, 1) := by decide +kernel
theorem dX6_number_101 : decode cX6_number 101 = .ok (.aload_n 0, 1) := by decide +kernel
theorem dX6_number_102 : decode cX6_number 102 = .ok (.getfield 7, 3) := by decide +kernel
theorem dX6_number_105 : decode cX6_number 105 = .ok (.iconst 2, 1) := by decide +kernel
theorem dX6_number_106 : decode cX6_number 106 = .ok (.iaload, 1) := by decide +kernel
theorem dX6_number_107 : decode cX6_number 107 = .ok (.ireturn, 1) := by decide +kernel
theorem dX6_number_108 : decode cX6_number 108 = .ok (.aload_n 0, 1) := by decide +kernel
theorem dX6_number_109 : decode cX6_number 109 = .ok (.getfield 7, 3) := by decide +kernel
theorem dX6_number_112 : decode cX6_number 112 = .ok (.iconst 3, 1) := by decide +kernel
theorem dX6_number_113 : decode cX6_number 113 = .ok (.iaload, 1) := by decide +kernel
theorem dX6_number_114 : decode cX6_number 114 = .ok (.ireturn, 1) := by decide +kernel
theorem dX6_number_115 : decode cX6_number 115 = .ok (.bipush (-2), 2) := by decide +kernel
theorem dX6_number_117 : decode cX6_number 117 = .ok (.ireturn, 1) := by decide +kernel
theorem dX6_count_0 : decode cX6_count 0 = .ok (.aload_n 0, 1) := by decide +kernel
theorem dX6_count_1 : decode cX6_count 1 = .ok (.aload_n 0, 1) := by decide +kernel
theorem dX6_count_2 : decode cX6_count 2 = .ok (.iload_n 1, 1) := by decide +kernel
theorem dX6_count_3 : decode cX6_count 3 = .ok (.invokevirtual 157, 3) := by decide +kernel
theorem dX6_count_6 : decode cX6_count 6 = .ok (.invokevirtual 114, 3) := by decide +kernel
theorem dX6_count_9 : decode cX6_count 9 = .ok (.ireturn, 1) := by decide +kernel
theorem dX6_type_0 : decode cX6_type 0 = .ok (.iload_n 1, 1) := by decide +kernel
theorem dX6_type_1 : decode cX6_type 1 = .ok (.iconst 0, 1) := by decide +kernel
theorem dX6_type_2 : decode cX6_type 2 = .ok (.bipush 127, 2) := by decide +kernel
theorem dX6_type_4 : decode cX6_type 4 = .ok (.invokestatic 48, 3) := by decide +kernel
theorem dX6_type_7 : decode cX6_type 7 = .ok (.ifCond .ne 10, 3) := by decide +kernel
theorem dX6_type_10 : decode cX6_type 10 = .ok (.aload_n 0, 1) := by decide +kernel
theorem dX6_type_11 : decode cX6_type 11 = .ok (.bipush (-2), 2) := by decide +kernel
theorem dX6_type_13 : decode cX6_type 13 = .ok (.invokevirtual 38, 3) := by decide +kernel
theorem dX6_type_16 : decode cX6_type 16 = .ok (.ireturn, 1) := by decide +kernel
theorem dX6_type_17 : decode cX6_type 17 = .ok (.aload_n 0, 1) := by decide +kernel
theorem dX6_type_18 : decode cX6_type 18 = .ok (.getfield 34, 3) := by decide +kernel
theorem dX6_type_21 : decode cX6_type 21 = .ok (.bipush 120, 2) := by decide +kernel
theorem dX6_type_23 : decode cX6_type 23 = .ok (.if_icmp .ne 10, 3) := by decide +kernel
theorem dX6_type_26 : decode cX6_type 26 = .ok (.aload_n 0, 1) := by decide +kernel
theorem dX6_type_27 : decode cX6_type 27 = .ok (.bipush (-4), 2) := by decide +kernel
theorem dX6_type_29 : decode cX6_type 29 = .ok (.invokevirtual 38, 3) := by decide +kernel
theorem dX6_type_32 : decode cX6_type 32 = .ok (.ireturn, 1) := by decide +kernel
theorem dX6_type_33 : decode cX6_type 33 = .ok (.aload_n 0, 1) := by decide +kernel
theorem dX6_type_34 : decode cX6_type 34 = .ok (.getfield 22, 3) := by decide +kernel
theorem dX6_type_37 : decode cX6_type 37 = .ok (.aload_n 0, 1) := by decide +kernel
theorem dX6_type_38 : decode cX6_type 38 = .ok (.getfield 34, 3) := by decide +kernel
theorem dX6_type_41 : decode cX6_type 41 = .ok (.iload_n 1, 1) := by decide +kernel
theorem dX6_type_42 : decode cX6_type 42 = .ok (.iastore, 1) := by decide +kernel
theorem dX6_type_43 : decode cX6_type 43 = .ok (.aload_n 0, 1) := by decide +kernel
theorem dX6_type_44 : decode cX6_type 44 = .ok (.dup, 1) := by decide +kernel
theorem dX6_type_45 : decode cX6_type 45 = .ok (.getfield 34, 3) := by decide +kernel
theorem dX6_type_48 : decode cX6_type 48 = .ok (.iconst 1, 1) := by decide +kernel
theorem dX6_type_49 : decode cX6_type 49 = .ok (.iadd, 1) := by decide +kernel
theorem dX6_type_50 : decode cX6_type 50 = .ok (.putfield 34, 3) := by decide +kernel
theorem dX6_type_53 : decode cX6_type 53 = .ok (.aload_n 0, 1) := by decide +kernel
theorem dX6_type_54 : decode cX6_type 54 = .ok (.getfield 34, 3) := by decide +kernel
theorem dX6_type_57 : decode cX6_type 57 = .ok (.ireturn, 1) := by decide +kernel
theorem dX6_clear_0 : decode cX6_clear 0 = .ok (.aload_n 0, 1) := by decide +kernel
theorem dX6_clear_1 : decode cX6_clear 1 = .ok (.getfield 34, 3) := by decide +kernel
theorem dX6_clear_4 : decode cX6_clear 4 = .ok (.istore_n 1, 1) := by decide +kernel
theorem dX6_clear_5 : decode cX6_clear 5 = .ok (.aload_n 0, 1) := by decide +kernel
theorem dX6_clear_6 : decode cX6_clear 6 = .ok (.iconst 0, 1) := by decide +kernel
theorem dX6_clear_7 : decode cX6_clear 7 = .ok (.putfield 34, 3) := by decide +kernel
theorem dX6_clear_10 : decode cX6_clear 10 = .ok (.iload_n 1, 1) := by decide +kernel
theorem dX6_clear_11 : decode cX6_clear 11 = .ok (.ireturn, 1) := by decide +kernel
theorem dX6_byteAt_0 : decode cX6_byteAt 0 = .ok (.iload_n 1, 1) := by decide +kernel
theorem dX6_byteAt_1 : decode cX6_byteAt 1 = .ok (.aload_n 0, 1) := by decide +kernel
theorem dX6_byteAt_2 : decode cX6_byteAt 2 = .ok (.getfield 34, 3) := by decide +kernel
theorem dX6_byteAt_5 : decode cX6_byteAt 5 = .ok (.if_icmp .ge 12, 3) := by decide +kernel
theorem dX6_byteAt_8 : decode cX6_byteAt 8 = .ok (.aload_n 0, 1) := by decide +kernel
theorem dX6_byteAt_9 : decode cX6_byteAt 9 = .ok (.getfield 22, 3) := by decide +kernel
theorem dX6_byteAt_12 : decode cX6_byteAt 12 = .ok (.iload_n 1, 1) := by decide +kernel
theorem dX6_byteAt_13 : decode cX6_byteAt 13 = .ok (.iaload, 1) := by decide +kernel
theorem dX6_byteAt_14 : decode cX6_byteAt 14 = .ok (.goto 4, 3) := by decide +kernel
theorem dX6_byteAt_17 : decode cX6_byteAt 17 = .ok (.iconst 0, 1) := by decide +kernel
theorem dX6_byteAt_18 : decode cX6_byteAt 18 = .ok (.ireturn, 1) := by decide +kernel
theorem dX6_isFigure_0 : decode cX6_isFigure 0 = .ok (.iload_n 0, 1) := by decide +kernel
theorem dX6_isFigure_1 : decode cX6_isFigure 1 = .ok (.bipush 48, 2) := by decide +kernel
theorem dX6_isFigure_3 : decode cX6_isFigure 3 = .ok (.if_icmp .lt 13, 3) := by decide +kernel
theorem dX6_isFigure_6 : decode cX6_isFigure 6 = .ok (.iload_n 0, 1) := by decide +kernel
theorem dX6_isFigure_7 : decode cX6_isFigure 7 = .ok (.bipush 57, 2) := by decide +kernel
theorem dX6_isFigure_9 : decode cX6_isFigure 9 = .ok (.if_icmp .gt 7, 3) := by decide +kernel
theorem dX6_isFigure_12 : decode cX6_isFigure 12 = .ok (.iconst 1, 1) := by decide +kernel
theorem dX6_isFigure_13 : decode cX6_isFigure 13 = .ok (.goto 4, 3) := by decide +kernel
theorem dX6_isFigure_16 : decode cX6_isFigure 16 = .ok (.iconst 0, 1) := by decide +kernel
theorem dX6_isFigure_17 : decode cX6_isFigure 17 = .ok (.ireturn, 1) := by decide +kernel
theorem dX6_blanks_0 : decode cX6_blanks 0 = .ok (.aload_n 0, 1) := by decide +kernel
theorem dX6_blanks_1 : decode cX6_blanks 1 = .ok (.aload_n 0, 1) := by decide +kernel
theorem dX6_blanks_2 : decode cX6_blanks 2 = .ok (.getfield 160, 3) := by decide +kernel
theorem dX6_blanks_5 : decode cX6_blanks 5 = .ok (.invokevirtual 163, 3) := by decide +kernel
theorem dX6_blanks_8 : decode cX6_blanks 8 = .ok (.bipush 32, 2) := by decide +kernel
theorem dX6_blanks_10 : decode cX6_blanks 10 = .ok (.if_icmp .ne 27, 3) := by decide +kernel
theorem dX6_blanks_13 : decode cX6_blanks 13 = .ok (.aload_n 0, 1) := by decide +kernel
theorem dX6_blanks_14 : decode cX6_blanks 14 = .ok (.getfield 160, 3) := by decide +kernel
theorem dX6_blanks_17 : decode cX6_blanks 17 = .ok (.aload_n 0, 1) := by decide +kernel
theorem dX6_blanks_18 : decode cX6_blanks 18 = .ok (.getfield 34, 3) := by decide +kernel
theorem dX6_blanks_21 : decode cX6_blanks 21 = .ok (.if_icmp .ge 16, 3) := by decide +kernel
theorem dX6_blanks_24 : decode cX6_blanks 24 = .ok (.aload_n 0, 1) := by decide +kernel
theorem dX6_blanks_25 : decode cX6_blanks 25 = .ok (.dup, 1) := by decide +kernel
theorem dX6_blanks_26 : decode cX6_blanks 26 = .ok (.getfield 160, 3) := by decide +kernel
theorem dX6_blanks_29 : decode cX6_blanks 29 = .ok (.iconst 1, 1) := by decide +kernel
theorem dX6_blanks_30 : decode cX6_blanks 30 = .ok (.iadd, 1) := by decide +kernel
theorem dX6_blanks_31 : decode cX6_blanks 31 = .ok (.putfield 160, 3) := by decide +kernel
theorem dX6_blanks_34 : decode cX6_blanks 34 = .ok (.goto (-34), 3) := by decide +kernel
theorem dX6_blanks_37 : decode cX6_blanks 37 = .ok (.return_, 1) := by decide +kernel
theorem dX6_fails_0 : decode cX6_fails 0 = .ok (.aload_n 0, 1) := by decide +kernel
theorem dX6_fails_1 : decode cX6_fails 1 = .ok (.iload_n 1, 1) := by decide +kernel
theorem dX6_fails_2 : decode cX6_fails 2 = .ok (.putfield 166, 3) := by decide +kernel
theorem dX6_fails_5 : decode cX6_fails 5 = .ok (.iconst 0, 1) := by decide +kernel
theorem dX6_fails_6 : decode cX6_fails 6 = .ok (.ireturn, 1) := by decide +kernel
theorem dX6_readsNumber_0 : decode cX6_readsNumber 0 = .ok (.aload_n 0, 1) := by decide +kernel
theorem dX6_readsNumber_1 : decode cX6_readsNumber 1 = .ok (.invokevirtual 169, 3) := by decide +kernel
theorem dX6_readsNumber_4 : decode cX6_readsNumber 4 = .ok (.aload_n 0, 1) := by decide +kernel
theorem dX6_readsNumber_5 : decode cX6_readsNumber 5 = .ok (.getfield 160, 3) := by decide +kernel
theorem dX6_readsNumber_8 : decode cX6_readsNumber 8 = .ok (.istore_n 1, 1) := by decide +kernel
theorem dX6_readsNumber_9 : decode cX6_readsNumber 9 = .ok (.aload_n 0, 1) := by decide +kernel
theorem dX6_readsNumber_10 : decode cX6_readsNumber 10 = .ok (.iconst 0, 1) := by decide +kernel
theorem dX6_readsNumber_11 : decode cX6_readsNumber 11 = .ok (.putfield 172, 3) := by decide +kernel
theorem dX6_readsNumber_14 : decode cX6_readsNumber 14 = .ok (.aload_n 0, 1) := by decide +kernel
theorem dX6_readsNumber_15 : decode cX6_readsNumber 15 = .ok (.getfield 160, 3) := by decide +kernel
theorem dX6_readsNumber_18 : decode cX6_readsNumber 18 = .ok (.aload_n 0, 1) := by decide +kernel
theorem dX6_readsNumber_19 : decode cX6_readsNumber 19 = .ok (.getfield 34, 3) := by decide +kernel
theorem dX6_readsNumber_22 : decode cX6_readsNumber 22 = .ok (.if_icmp .ge 65, 3) := by decide +kernel
theorem dX6_readsNumber_25 : decode cX6_readsNumber 25 = .ok (.aload_n 0, 1) := by decide +kernel
theorem dX6_readsNumber_26 : decode cX6_readsNumber 26 = .ok (.getfield 22, 3) := by decide +kernel
theorem dX6_readsNumber_29 : decode cX6_readsNumber 29 = .ok (.aload_n 0, 1) := by decide +kernel
theorem dX6_readsNumber_30 : decode cX6_readsNumber 30 = .ok (.getfield 160, 3) := by decide +kernel
theorem dX6_readsNumber_33 : decode cX6_readsNumber 33 = .ok (.iaload, 1) := by decide +kernel
theorem dX6_readsNumber_34 : decode cX6_readsNumber 34 = .ok (.invokestatic 175, 3) := by decide +kernel
theorem dX6_readsNumber_37 : decode cX6_readsNumber 37 = .ok (.ifCond .eq 50, 3) := by decide +kernel
theorem dX6_readsNumber_40 : decode cX6_readsNumber 40 = .ok (.aload_n 0, 1) := by decide +kernel
theorem dX6_readsNumber_41 : decode cX6_readsNumber 41 = .ok (.getfield 160, 3) := by decide +kernel
theorem dX6_readsNumber_44 : decode cX6_readsNumber 44 = .ok (.iload_n 1, 1) := by decide +kernel
theorem dX6_readsNumber_45 : decode cX6_readsNumber 45 = .ok (.iconst 2, 1) := by decide +kernel
theorem dX6_readsNumber_46 : decode cX6_readsNumber 46 = .ok (.iadd, 1) := by decide +kernel
theorem dX6_readsNumber_47 : decode cX6_readsNumber 47 = .ok (.if_icmp .ge 40, 3) := by decide +kernel
theorem dX6_readsNumber_50 : decode cX6_readsNumber 50 = .ok (.aload_n 0, 1) := by decide +kernel
theorem dX6_readsNumber_51 : decode cX6_readsNumber 51 = .ok (.bipush 10, 2) := by decide +kernel
theorem dX6_readsNumber_53 : decode cX6_readsNumber 53 = .ok (.aload_n 0, 1) := by decide +kernel
theorem dX6_readsNumber_54 : decode cX6_readsNumber 54 = .ok (.getfield 172, 3) := by decide +kernel
theorem dX6_readsNumber_57 : decode cX6_readsNumber 57 = .ok (.imul, 1) := by decide +kernel
theorem dX6_readsNumber_58 : decode cX6_readsNumber 58 = .ok (.aload_n 0, 1) := by decide +kernel
theorem dX6_readsNumber_59 : decode cX6_readsNumber 59 = .ok (.getfield 22, 3) := by decide +kernel
theorem dX6_readsNumber_62 : decode cX6_readsNumber 62 = .ok (.aload_n 0, 1) := by decide +kernel
theorem dX6_readsNumber_63 : decode cX6_readsNumber 63 = .ok (.getfield 160, 3) := by decide +kernel
theorem dX6_readsNumber_66 : decode cX6_readsNumber 66 = .ok (.iaload, 1) := by decide +kernel
theorem dX6_readsNumber_67 : decode cX6_readsNumber 67 = .ok (.iadd, 1) := by decide +kernel
theorem dX6_readsNumber_68 : decode cX6_readsNumber 68 = .ok (.bipush 48, 2) := by decide +kernel
theorem dX6_readsNumber_70 : decode cX6_readsNumber 70 = .ok (.isub, 1) := by decide +kernel
theorem dX6_readsNumber_71 : decode cX6_readsNumber 71 = .ok (.putfield 172, 3) := by decide +kernel
theorem dX6_readsNumber_74 : decode cX6_readsNumber 74 = .ok (.aload_n 0, 1) := by decide +kernel
theorem dX6_readsNumber_75 : decode cX6_readsNumber 75 = .ok (.dup, 1) := by decide +kernel
theorem dX6_readsNumber_76 : decode cX6_readsNumber 76 = .ok (.getfield 160, 3) := by decide +kernel
theorem dX6_readsNumber_79 : decode cX6_readsNumber 79 = .ok (.iconst 1, 1) := by decide +kernel
theorem dX6_readsNumber_80 : decode cX6_readsNumber 80 = .ok (.iadd, 1) := by decide +kernel
theorem dX6_readsNumber_81 : decode cX6_readsNumber 81 = .ok (.putfield 160, 3) := by decide +kernel
theorem dX6_readsNumber_84 : decode cX6_readsNumber 84 = .ok (.goto (-70), 3) := by decide +kernel
theorem dX6_readsNumber_87 : decode cX6_readsNumber 87 = .ok (.aload_n 0, 1) := by decide +kernel
theorem dX6_readsNumber_88 : decode cX6_readsNumber 88 = .ok (.getfield 160, 3) := by decide +kernel
theorem dX6_readsNumber_91 : decode cX6_readsNumber 91 = .ok (.iload_n 1, 1) := by decide +kernel
theorem dX6_readsNumber_92 : decode cX6_readsNumber 92 = .ok (.if_icmp .le 33, 3) := by decide +kernel
theorem dX6_readsNumber_95 : decode cX6_readsNumber 95 = .ok (.aload_n 0, 1) := by decide +kernel
theorem dX6_readsNumber_96 : decode cX6_readsNumber 96 = .ok (.getfield 160, 3) := by decide +kernel
theorem dX6_readsNumber_99 : decode cX6_readsNumber 99 = .ok (.aload_n 0, 1) := by decide +kernel
theorem dX6_readsNumber_100 : decode cX6_readsNumber 100 = .ok (.getfield 34, 3) := by decide +kernel
theorem dX6_readsNumber_103 : decode cX6_readsNumber 103 = .ok (.if_icmp .eq 18, 3) := by decide +kernel
theorem dX6_readsNumber_106 : decode cX6_readsNumber 106 = .ok (.aload_n 0, 1) := by decide +kernel
theorem dX6_readsNumber_107 : decode cX6_readsNumber 107 = .ok (.getfield 22, 3) := by decide +kernel
theorem dX6_readsNumber_110 : decode cX6_readsNumber 110 = .ok (.aload_n 0, 1) := by decide +kernel
theorem dX6_readsNumber_111 : decode cX6_readsNumber 111 = .ok (.getfield 160, 3) := by decide +kernel
theorem dX6_readsNumber_114 : decode cX6_readsNumber 114 = .ok (.iaload, 1) := by decide +kernel
theorem dX6_readsNumber_115 : decode cX6_readsNumber 115 = .ok (.invokestatic 175, 3) := by decide +kernel
theorem dX6_readsNumber_118 : decode cX6_readsNumber 118 = .ok (.ifCond .ne 7, 3) := by decide +kernel
theorem dX6_readsNumber_121 : decode cX6_readsNumber 121 = .ok (.iconst 1, 1) := by decide +kernel
theorem dX6_readsNumber_122 : decode cX6_readsNumber 122 = .ok (.goto 4, 3) := by decide +kernel
theorem dX6_readsNumber_125 : decode cX6_readsNumber 125 = .ok (.iconst 0, 1) := by decide +kernel
theorem dX6_readsNumber_126 : decode cX6_readsNumber 126 = .ok (.istore_n 2, 1) := by decide +kernel
theorem dX6_readsNumber_127 : decode cX6_readsNumber 127 = .ok (.iload_n 2, 1) := by decide +kernel
theorem dX6_readsNumber_128 : decode cX6_readsNumber 128 = .ok (.ifCond .ne 14, 3) := by decide +kernel
theorem dX6_readsNumber_131 : decode cX6_readsNumber 131 = .ok (.aload_n 0, 1) := by decide +kernel
theorem dX6_readsNumber_132 : decode cX6_readsNumber 132 = .ok (.aload_n 0, 1) := by decide +kernel
theorem dX6_readsNumber_133 : decode cX6_readsNumber 133 = .ok (.getfield 160, 3) := by decide +kernel
theorem dX6_readsNumber_136 : decode cX6_readsNumber 136 = .ok (.invokevirtual 178, 3) := by decide +kernel
theorem dX6_readsNumber_139 : decode cX6_readsNumber 139 = .ok (.ifCond .eq 7, 3) := by decide +kernel
theorem dX6_readsNumber_142 : decode cX6_readsNumber 142 = .ok (.iconst 1, 1) := by decide +kernel
theorem dX6_readsNumber_143 : decode cX6_readsNumber 143 = .ok (.goto 4, 3) := by decide +kernel
theorem dX6_readsNumber_146 : decode cX6_readsNumber 146 = .ok (.iconst 0, 1) := by decide +kernel
theorem dX6_readsNumber_147 : decode cX6_readsNumber 147 = .ok (.ireturn, 1) := by decide +kernel
theorem dX6_readsCycle_0 : decode cX6_readsCycle 0 = .ok (.iconst (-1), 1) := by decide +kernel
theorem dX6_readsCycle_1 : decode cX6_readsCycle 1 = .ok (.istore_n 2, 1) := by decide +kernel
theorem dX6_readsCycle_2 : decode cX6_readsCycle 2 = .ok (.iconst (-1), 1) := by decide +kernel
theorem dX6_readsCycle_3 : decode cX6_readsCycle 3 = .ok (.istore_n 3, 1) := by decide +kernel
theorem dX6_readsCycle_4 : decode cX6_readsCycle 4 = .ok (.iconst 0, 1) := by decide +kernel
theorem dX6_readsCycle_5 : decode cX6_readsCycle 5 = .ok (.istore 4, 2) := by decide +kernel
theorem dX6_readsCycle_7 : decode cX6_readsCycle 7 = .ok (.aload_n 0, 1) := by decide +kernel
theorem dX6_readsCycle_8 : decode cX6_readsCycle 8 = .ok (.invokevirtual 169, 3) := by decide +kernel
theorem dX6_readsCycle_11 : decode cX6_readsCycle 11 = .ok (.aload_n 0, 1) := by decide +kernel
theorem dX6_readsCycle_12 : decode cX6_readsCycle 12 = .ok (.aload_n 0, 1) := by decide +kernel
theorem dX6_readsCycle_13 : decode cX6_readsCycle 13 = .ok (.getfield 160, 3) := by decide +kernel
theorem dX6_readsCycle_16 : decode cX6_readsCycle 16 = .ok (.invokevirtual 163, 3) := by decide +kernel
theorem dX6_readsCycle_19 : decode cX6_readsCycle 19 = .ok (.bipush 41, 2) := by decide +kernel
theorem dX6_readsCycle_21 : decode cX6_readsCycle 21 = .ok (.if_icmp .ne 14, 3) := by decide +kernel
theorem dX6_readsCycle_24 : decode cX6_readsCycle 24 = .ok (.aload_n 0, 1) := by decide +kernel
theorem dX6_readsCycle_25 : decode cX6_readsCycle 25 = .ok (.getfield 160, 3) := by decide +kernel
theorem dX6_readsCycle_28 : decode cX6_readsCycle 28 = .ok (.aload_n 0, 1) := by decide +kernel
theorem dX6_readsCycle_29 : decode cX6_readsCycle 29 = .ok (.getfield 34, 3) := by decide +kernel
theorem dX6_readsCycle_32 : decode cX6_readsCycle 32 = .ok (.if_icmp .ne 113, 3) := by decide +kernel
theorem dX6_readsCycle_35 : decode cX6_readsCycle 35 = .ok (.aload_n 0, 1) := by decide +kernel
theorem dX6_readsCycle_36 : decode cX6_readsCycle 36 = .ok (.getfield 160, 3) := by decide +kernel
theorem dX6_readsCycle_39 : decode cX6_readsCycle 39 = .ok (.istore 5, 2) := by decide +kernel
theorem dX6_readsCycle_41 : decode cX6_readsCycle 41 = .ok (.aload_n 0, 1) := by decide +kernel
theorem dX6_readsCycle_42 : decode cX6_readsCycle 42 = .ok (.invokevirtual 181, 3) := by decide +kernel
theorem dX6_readsCycle_45 : decode cX6_readsCycle 45 = .ok (.ifCond .ne 5, 3) := by decide +kernel
theorem dX6_readsCycle_48 : decode cX6_readsCycle 48 = .ok (.iconst 0, 1) := by decide +kernel
theorem dX6_readsCycle_49 : decode cX6_readsCycle 49 = .ok (.ireturn, 1) := by decide +kernel
theorem dX6_readsCycle_50 : decode cX6_readsCycle 50 = .ok (.aload_n 0, 1) := by decide +kernel
theorem dX6_readsCycle_51 : decode cX6_readsCycle 51 = .ok (.getfield 172, 3) := by decide +kernel
theorem dX6_readsCycle_54 : decode cX6_readsCycle 54 = .ok (.bipush 11, 2) := by decide +kernel
theorem dX6_readsCycle_56 : decode cX6_readsCycle 56 = .ok (.if_icmp .gt 19, 3) := by decide +kernel
theorem dX6_readsCycle_59 : decode cX6_readsCycle 59 = .ok (.aload_n 0, 1) := by decide +kernel
theorem dX6_readsCycle_60 : decode cX6_readsCycle 60 = .ok (.getfield 31, 3) := by decide +kernel
theorem dX6_readsCycle_63 : decode cX6_readsCycle 63 = .ok (.iload_n 1, 1) := by decide +kernel
theorem dX6_readsCycle_64 : decode cX6_readsCycle 64 = .ok (.iconst 1, 1) := by decide +kernel
theorem dX6_readsCycle_65 : decode cX6_readsCycle 65 = .ok (.iadd, 1) := by decide +kernel
theorem dX6_readsCycle_66 : decode cX6_readsCycle 66 = .ok (.aload_n 0, 1) := by decide +kernel
theorem dX6_readsCycle_67 : decode cX6_readsCycle 67 = .ok (.getfield 172, 3) := by decide +kernel
theorem dX6_readsCycle_70 : decode cX6_readsCycle 70 = .ok (.iadd, 1) := by decide +kernel
theorem dX6_readsCycle_71 : decode cX6_readsCycle 71 = .ok (.iaload, 1) := by decide +kernel
theorem dX6_readsCycle_72 : decode cX6_readsCycle 72 = .ok (.ifCond .lt 10, 3) := by decide +kernel
theorem dX6_readsCycle_75 : decode cX6_readsCycle 75 = .ok (.aload_n 0, 1) := by decide +kernel
theorem dX6_readsCycle_76 : decode cX6_readsCycle 76 = .ok (.iload 5, 2) := by decide +kernel
theorem dX6_readsCycle_78 : decode cX6_readsCycle 78 = .ok (.invokevirtual 178, 3) := by decide +kernel
theorem dX6_readsCycle_81 : decode cX6_readsCycle 81 = .ok (.ireturn, 1) := by decide +kernel
theorem dX6_readsCycle_82 : decode cX6_readsCycle 82 = .ok (.iload_n 3, 1) := by decide +kernel
theorem dX6_readsCycle_83 : decode cX6_readsCycle 83 = .ok (.ifCond .lt 17, 3) := by decide +kernel
theorem dX6_readsCycle_86 : decode cX6_readsCycle 86 = .ok (.aload_n 0, 1) := by decide +kernel
theorem dX6_readsCycle_87 : decode cX6_readsCycle 87 = .ok (.getfield 31, 3) := by decide +kernel
theorem dX6_readsCycle_90 : decode cX6_readsCycle 90 = .ok (.iload_n 1, 1) := by decide +kernel
theorem dX6_readsCycle_91 : decode cX6_readsCycle 91 = .ok (.iconst 1, 1) := by decide +kernel
theorem dX6_readsCycle_92 : decode cX6_readsCycle 92 = .ok (.iadd, 1) := by decide +kernel
theorem dX6_readsCycle_93 : decode cX6_readsCycle 93 = .ok (.iload_n 3, 1) := by decide +kernel
theorem dX6_readsCycle_94 : decode cX6_readsCycle 94 = .ok (.iadd, 1) := by decide +kernel
theorem dX6_readsCycle_95 : decode cX6_readsCycle 95 = .ok (.aload_n 0, 1) := by decide +kernel
theorem dX6_readsCycle_96 : decode cX6_readsCycle 96 = .ok (.getfield 172, 3) := by decide +kernel
theorem dX6_readsCycle_99 : decode cX6_readsCycle 99 = .ok (.iastore, 1) := by decide +kernel
theorem dX6_readsCycle_100 : decode cX6_readsCycle 100 = .ok (.iload_n 2, 1) := by decide +kernel
theorem dX6_readsCycle_101 : decode cX6_readsCycle 101 = .ok (.ifCond .ge 10, 3) := by decide +kernel
theorem dX6_readsCycle_104 : decode cX6_readsCycle 104 = .ok (.aload_n 0, 1) := by decide +kernel
theorem dX6_readsCycle_105 : decode cX6_readsCycle 105 = .ok (.getfield 172, 3) := by decide +kernel
theorem dX6_readsCycle_108 : decode cX6_readsCycle 108 = .ok (.goto 4, 3) := by decide +kernel
theorem dX6_readsCycle_111 : decode cX6_readsCycle 111 = .ok (.iload_n 2, 1) := by decide +kernel
theorem dX6_readsCycle_112 : decode cX6_readsCycle 112 = .ok (.istore_n 2, 1) := by decide +kernel
theorem dX6_readsCycle_113 : decode cX6_readsCycle 113 = .ok (.aload_n 0, 1) := by decide +kernel
theorem dX6_readsCycle_114 : decode cX6_readsCycle 114 = .ok (.getfield 172, 3) := by decide +kernel
theorem dX6_readsCycle_117 : decode cX6_readsCycle 117 = .ok (.istore_n 3, 1) := by decide +kernel
theorem dX6_readsCycle_118 : decode cX6_readsCycle 118 = .ok (.aload_n 0, 1) := by decide +kernel
theorem dX6_readsCycle_119 : decode cX6_readsCycle 119 = .ok (.getfield 31, 3) := by decide +kernel
theorem dX6_readsCycle_122 : decode cX6_readsCycle 122 = .ok (.iload_n 1, 1) := by decide +kernel
theorem dX6_readsCycle_123 : decode cX6_readsCycle 123 = .ok (.iconst 1, 1) := by decide +kernel
theorem dX6_readsCycle_124 : decode cX6_readsCycle 124 = .ok (.iadd, 1) := by decide +kernel
theorem dX6_readsCycle_125 : decode cX6_readsCycle 125 = .ok (.aload_n 0, 1) := by decide +kernel
theorem dX6_readsCycle_126 : decode cX6_readsCycle 126 = .ok (.getfield 172, 3) := by decide +kernel
theorem dX6_readsCycle_129 : decode cX6_readsCycle 129 = .ok (.iadd, 1) := by decide +kernel
theorem dX6_readsCycle_130 : decode cX6_readsCycle 130 = .ok (.aload_n 0, 1) := by decide +kernel
theorem dX6_readsCycle_131 : decode cX6_readsCycle 131 = .ok (.getfield 172, 3) := by decide +kernel
theorem dX6_readsCycle_134 : decode cX6_readsCycle 134 = .ok (.iastore, 1) := by decide +kernel
theorem dX6_readsCycle_135 : decode cX6_readsCycle 135 = .ok (.iinc 4 1, 3) := by decide +kernel
theorem dX6_readsCycle_138 : decode cX6_readsCycle 138 = .ok (.aload_n 0, 1) := by decide +kernel
theorem dX6_readsCycle_139 : decode cX6_readsCycle 139 = .ok (.invokevirtual 169, 3) := by decide +kernel
theorem dX6_readsCycle_142 : decode cX6_readsCycle 142 = .ok (.goto (-131), 3) := by decide +kernel
theorem dX6_readsCycle_145 : decode cX6_readsCycle 145 = .ok (.iload 4, 2) := by decide +kernel
theorem dX6_readsCycle_147 : decode cX6_readsCycle 147 = .ok (.iconst 2, 1) := by decide +kernel
theorem dX6_readsCycle_148 : decode cX6_readsCycle 148 = .ok (.if_icmp .ge 12, 3) := by decide +kernel
theorem dX6_readsCycle_151 : decode cX6_readsCycle 151 = .ok (.aload_n 0, 1) := by decide +kernel
theorem dX6_readsCycle_152 : decode cX6_readsCycle 152 = .ok (.aload_n 0, 1) := by decide +kernel
theorem dX6_readsCycle_153 : decode cX6_readsCycle 153 = .ok (.getfield 160, 3) := by decide +kernel
theorem dX6_readsCycle_156 : decode cX6_readsCycle 156 = .ok (.invokevirtual 178, 3) := by decide +kernel
theorem dX6_readsCycle_159 : decode cX6_readsCycle 159 = .ok (.ireturn, 1) := by decide +kernel
theorem dX6_readsCycle_160 : decode cX6_readsCycle 160 = .ok (.aload_n 0, 1) := by decide +kernel
theorem dX6_readsCycle_161 : decode cX6_readsCycle 161 = .ok (.getfield 31, 3) := by decide +kernel
theorem dX6_readsCycle_164 : decode cX6_readsCycle 164 = .ok (.iload_n 1, 1) := by decide +kernel
theorem dX6_readsCycle_165 : decode cX6_readsCycle 165 = .ok (.iconst 1, 1) := by decide +kernel
theorem dX6_readsCycle_166 : decode cX6_readsCycle 166 = .ok (.iadd, 1) := by decide +kernel
theorem dX6_readsCycle_167 : decode cX6_readsCycle 167 = .ok (.iload_n 3, 1) := by decide +kernel
theorem dX6_readsCycle_168 : decode cX6_readsCycle 168 = .ok (.iadd, 1) := by decide +kernel
theorem dX6_readsCycle_169 : decode cX6_readsCycle 169 = .ok (.iload_n 2, 1) := by decide +kernel
theorem dX6_readsCycle_170 : decode cX6_readsCycle 170 = .ok (.iastore, 1) := by decide +kernel
theorem dX6_readsCycle_171 : decode cX6_readsCycle 171 = .ok (.aload_n 0, 1) := by decide +kernel
theorem dX6_readsCycle_172 : decode cX6_readsCycle 172 = .ok (.dup, 1) := by decide +kernel
theorem dX6_readsCycle_173 : decode cX6_readsCycle 173 = .ok (.getfield 160, 3) := by decide +kernel
theorem dX6_readsCycle_176 : decode cX6_readsCycle 176 = .ok (.iconst 1, 1) := by decide +kernel
theorem dX6_readsCycle_177 : decode cX6_readsCycle 177 = .ok (.iadd, 1) := by decide +kernel
theorem dX6_readsCycle_178 : decode cX6_readsCycle 178 = .ok (.putfield 160, 3) := by decide +kernel
theorem dX6_readsCycle_181 : decode cX6_readsCycle 181 = .ok (.iconst 1, 1) := by decide +kernel
theorem dX6_readsCycle_182 : decode cX6_readsCycle 182 = .ok (.ireturn, 1) := by decide +kernel
theorem dX6_readsCycles_0 : decode cX6_readsCycles 0 = .ok (.iconst 0, 1) := by decide +kernel
theorem dX6_readsCycles_1 : decode cX6_readsCycles 1 = .ok (.istore_n 2, 1) := by decide +kernel
theorem dX6_readsCycles_2 : decode cX6_readsCycles 2 = .ok (.iload_n 2, 1) := by decide +kernel
theorem dX6_readsCycles_3 : decode cX6_readsCycles 3 = .ok (.bipush 12, 2) := by decide +kernel
theorem dX6_readsCycles_5 : decode cX6_readsCycles 5 = .ok (.if_icmp .ge 20, 3) := by decide +kernel
theorem dX6_readsCycles_8 : decode cX6_readsCycles 8 = .ok (.aload_n 0, 1) := by decide +kernel
theorem dX6_readsCycles_9 : decode cX6_readsCycles 9 = .ok (.getfield 31, 3) := by decide +kernel
theorem dX6_readsCycles_12 : decode cX6_readsCycles 12 = .ok (.iload_n 1, 1) := by decide +kernel
theorem dX6_readsCycles_13 : decode cX6_readsCycles 13 = .ok (.iconst 1, 1) := by decide +kernel
theorem dX6_readsCycles_14 : decode cX6_readsCycles 14 = .ok (.iadd, 1) := by decide +kernel
theorem dX6_readsCycles_15 : decode cX6_readsCycles 15 = .ok (.iload_n 2, 1) := by decide +kernel
theorem dX6_readsCycles_16 : decode cX6_readsCycles 16 = .ok (.iadd, 1) := by decide +kernel
theorem dX6_readsCycles_17 : decode cX6_readsCycles 17 = .ok (.iconst (-1), 1) := by decide +kernel
theorem dX6_readsCycles_18 : decode cX6_readsCycles 18 = .ok (.iastore, 1) := by decide +kernel
theorem dX6_readsCycles_19 : decode cX6_readsCycles 19 = .ok (.iinc 2 1, 3) := by decide +kernel
theorem dX6_readsCycles_22 : decode cX6_readsCycles 22 = .ok (.goto (-20), 3) := by decide +kernel
theorem dX6_readsCycles_25 : decode cX6_readsCycles 25 = .ok (.aload_n 0, 1) := by decide +kernel
theorem dX6_readsCycles_26 : decode cX6_readsCycles 26 = .ok (.invokevirtual 169, 3) := by decide +kernel
theorem dX6_readsCycles_29 : decode cX6_readsCycles 29 = .ok (.aload_n 0, 1) := by decide +kernel
theorem dX6_readsCycles_30 : decode cX6_readsCycles 30 = .ok (.getfield 160, 3) := by decide +kernel
theorem dX6_readsCycles_33 : decode cX6_readsCycles 33 = .ok (.aload_n 0, 1) := by decide +kernel
theorem dX6_readsCycles_34 : decode cX6_readsCycles 34 = .ok (.getfield 34, 3) := by decide +kernel
theorem dX6_readsCycles_37 : decode cX6_readsCycles 37 = .ok (.if_icmp .ge 44, 3) := by decide +kernel
theorem dX6_readsCycles_40 : decode cX6_readsCycles 40 = .ok (.aload_n 0, 1) := by decide +kernel
theorem dX6_readsCycles_41 : decode cX6_readsCycles 41 = .ok (.getfield 22, 3) := by decide +kernel
theorem dX6_readsCycles_44 : decode cX6_readsCycles 44 = .ok (.aload_n 0, 1) := by decide +kernel
theorem dX6_readsCycles_45 : decode cX6_readsCycles 45 = .ok (.getfield 160, 3) := by decide +kernel
theorem dX6_readsCycles_48 : decode cX6_readsCycles 48 = .ok (.iaload, 1) := by decide +kernel
theorem dX6_readsCycles_49 : decode cX6_readsCycles 49 = .ok (.bipush 40, 2) := by decide +kernel
theorem dX6_readsCycles_51 : decode cX6_readsCycles 51 = .ok (.if_icmp .ne 30, 3) := by decide +kernel
theorem dX6_readsCycles_54 : decode cX6_readsCycles 54 = .ok (.aload_n 0, 1) := by decide +kernel
theorem dX6_readsCycles_55 : decode cX6_readsCycles 55 = .ok (.dup, 1) := by decide +kernel
theorem dX6_readsCycles_56 : decode cX6_readsCycles 56 = .ok (.getfield 160, 3) := by decide +kernel
theorem dX6_readsCycles_59 : decode cX6_readsCycles 59 = .ok (.iconst 1, 1) := by decide +kernel
theorem dX6_readsCycles_60 : decode cX6_readsCycles 60 = .ok (.iadd, 1) := by decide +kernel
theorem dX6_readsCycles_61 : decode cX6_readsCycles 61 = .ok (.putfield 160, 3) := by decide +kernel
theorem dX6_readsCycles_64 : decode cX6_readsCycles 64 = .ok (.aload_n 0, 1) := by decide +kernel
theorem dX6_readsCycles_65 : decode cX6_readsCycles 65 = .ok (.iload_n 1, 1) := by decide +kernel
theorem dX6_readsCycles_66 : decode cX6_readsCycles 66 = .ok (.invokevirtual 185, 3) := by decide +kernel
theorem dX6_readsCycles_69 : decode cX6_readsCycles 69 = .ok (.ifCond .ne 5, 3) := by decide +kernel
theorem dX6_readsCycles_72 : decode cX6_readsCycles 72 = .ok (.iconst 0, 1) := by decide +kernel
theorem dX6_readsCycles_73 : decode cX6_readsCycles 73 = .ok (.ireturn, 1) := by decide +kernel
theorem dX6_readsCycles_74 : decode cX6_readsCycles 74 = .ok (.aload_n 0, 1) := by decide +kernel
theorem dX6_readsCycles_75 : decode cX6_readsCycles 75 = .ok (.invokevirtual 169, 3) := by decide +kernel
theorem dX6_readsCycles_78 : decode cX6_readsCycles 78 = .ok (.goto (-49), 3) := by decide +kernel
theorem dX6_readsCycles_81 : decode cX6_readsCycles 81 = .ok (.iconst 1, 1) := by decide +kernel
theorem dX6_readsCycles_82 : decode cX6_readsCycles 82 = .ok (.ireturn, 1) := by decide +kernel
theorem dX6_numbersOf_0 : decode cX6_numbersOf 0 = .ok (.iload_n 0, 1) := by decide +kernel
theorem dX6_numbersOf_1 : decode cX6_numbersOf 1 = .ok (.bipush 117, 2) := by decide +kernel
theorem dX6_numbersOf_3 : decode cX6_numbersOf 3 = .ok (.if_icmp .eq 9, 3) := by decide +kernel
theorem dX6_numbersOf_6 : decode cX6_numbersOf 6 = .ok (.iload_n 0, 1) := by decide +kernel
theorem dX6_numbersOf_7 : decode cX6_numbersOf 7 = .ok (.bipush 119, 2) := by decide +kernel
theorem dX6_numbersOf_9 : decode cX6_numbersOf 9 = .ok (.if_icmp .ne 7, 3) := by decide +kernel
theorem dX6_numbersOf_12 : decode cX6_numbersOf 12 = .ok (.iconst 3, 1) := by decide +kernel
theorem dX6_numbersOf_13 : decode cX6_numbersOf 13 = .ok (.goto 40, 3) := by decide +kernel
theorem dX6_numbersOf_16 : decode cX6_numbersOf 16 = .ok (.iload_n 0, 1) := by decide +kernel
theorem dX6_numbersOf_17 : decode cX6_numbersOf 17 = .ok (.bipush 100, 2) := by decide +kernel
theorem dX6_numbersOf_19 : decode cX6_numbersOf 19 = .ok (.if_icmp .ne 7, 3) := by decide +kernel
theorem dX6_numbersOf_22 : decode cX6_numbersOf 22 = .ok (.iconst 2, 1) := by decide +kernel
theorem dX6_numbersOf_23 : decode cX6_numbersOf 23 = .ok (.goto 30, 3) := by decide +kernel
theorem dX6_numbersOf_26 : decode cX6_numbersOf 26 = .ok (.iload_n 0, 1) := by decide +kernel
theorem dX6_numbersOf_27 : decode cX6_numbersOf 27 = .ok (.bipush 103, 2) := by decide +kernel
theorem dX6_numbersOf_29 : decode cX6_numbersOf 29 = .ok (.if_icmp .eq 9, 3) := by decide +kernel
theorem dX6_numbersOf_32 : decode cX6_numbersOf 32 = .ok (.iload_n 0, 1) := by decide +kernel
theorem dX6_numbersOf_33 : decode cX6_numbersOf 33 = .ok (.bipush 112, 2) := by decide +kernel
theorem dX6_numbersOf_35 : decode cX6_numbersOf 35 = .ok (.if_icmp .ne 7, 3) := by decide +kernel
theorem dX6_numbersOf_38 : decode cX6_numbersOf 38 = .ok (.iconst 1, 1) := by decide +kernel
theorem dX6_numbersOf_39 : decode cX6_numbersOf 39 = .ok (.goto 14, 3) := by decide +kernel
theorem dX6_numbersOf_42 : decode cX6_numbersOf 42 = .ok (.iload_n 0, 1) := by decide +kernel
theorem dX6_numbersOf_43 : decode cX6_numbersOf 43 = .ok (.bipush 107, 2) := by decide +kernel
theorem dX6_numbersOf_45 : decode cX6_numbersOf 45 = .ok (.if_icmp .ne 7, 3) := by decide +kernel
theorem dX6_numbersOf_48 : decode cX6_numbersOf 48 = .ok (.iconst 0, 1) := by decide +kernel
theorem dX6_numbersOf_49 : decode cX6_numbersOf 49 = .ok (.goto 4, 3) := by decide +kernel
theorem dX6_numbersOf_52 : decode cX6_numbersOf 52 = .ok (.iconst (-1), 1) := by decide +kernel
theorem dX6_numbersOf_53 : decode cX6_numbersOf 53 = .ok (.ireturn, 1) := by decide +kernel
theorem dX6_readsOrder_0 : decode cX6_readsOrder 0 = .ok (.bipush 13, 2) := by decide +kernel
theorem dX6_readsOrder_2 : decode cX6_readsOrder 2 = .ok (.aload_n 0, 1) := by decide +kernel
theorem dX6_readsOrder_3 : decode cX6_readsOrder 3 = .ok (.getfield 188, 3) := by decide +kernel
theorem dX6_readsOrder_6 : decode cX6_readsOrder 6 = .ok (.imul, 1) := by decide +kernel
theorem dX6_readsOrder_7 : decode cX6_readsOrder 7 = .ok (.istore_n 1, 1) := by decide +kernel
theorem dX6_readsOrder_8 : decode cX6_readsOrder 8 = .ok (.aload_n 0, 1) := by decide +kernel
theorem dX6_readsOrder_9 : decode cX6_readsOrder 9 = .ok (.aload_n 0, 1) := by decide +kernel
theorem dX6_readsOrder_10 : decode cX6_readsOrder 10 = .ok (.getfield 160, 3) := by decide +kernel
theorem dX6_readsOrder_13 : decode cX6_readsOrder 13 = .ok (.invokevirtual 163, 3) := by decide +kernel
theorem dX6_readsOrder_16 : decode cX6_readsOrder 16 = .ok (.invokestatic 191, 3) := by decide +kernel
theorem dX6_readsOrder_19 : decode cX6_readsOrder 19 = .ok (.istore_n 2, 1) := by decide +kernel
theorem dX6_readsOrder_20 : decode cX6_readsOrder 20 = .ok (.iload_n 2, 1) := by decide +kernel
theorem dX6_readsOrder_21 : decode cX6_readsOrder 21 = .ok (.ifCond .ge 12, 3) := by decide +kernel
theorem dX6_readsOrder_24 : decode cX6_readsOrder 24 = .ok (.aload_n 0, 1) := by decide +kernel
theorem dX6_readsOrder_25 : decode cX6_readsOrder 25 = .ok (.aload_n 0, 1) := by decide +kernel
theorem dX6_readsOrder_26 : decode cX6_readsOrder 26 = .ok (.getfield 160, 3) := by decide +kernel
theorem dX6_readsOrder_29 : decode cX6_readsOrder 29 = .ok (.invokevirtual 178, 3) := by decide +kernel
theorem dX6_readsOrder_32 : decode cX6_readsOrder 32 = .ok (.ireturn, 1) := by decide +kernel
theorem dX6_readsOrder_33 : decode cX6_readsOrder 33 = .ok (.aload_n 0, 1) := by decide +kernel
theorem dX6_readsOrder_34 : decode cX6_readsOrder 34 = .ok (.getfield 31, 3) := by decide +kernel
theorem dX6_readsOrder_37 : decode cX6_readsOrder 37 = .ok (.iload_n 1, 1) := by decide +kernel
theorem dX6_readsOrder_38 : decode cX6_readsOrder 38 = .ok (.aload_n 0, 1) := by decide +kernel
theorem dX6_readsOrder_39 : decode cX6_readsOrder 39 = .ok (.getfield 22, 3) := by decide +kernel
theorem dX6_readsOrder_42 : decode cX6_readsOrder 42 = .ok (.aload_n 0, 1) := by decide +kernel
theorem dX6_readsOrder_43 : decode cX6_readsOrder 43 = .ok (.getfield 160, 3) := by decide +kernel
theorem dX6_readsOrder_46 : decode cX6_readsOrder 46 = .ok (.iaload, 1) := by decide +kernel
theorem dX6_readsOrder_47 : decode cX6_readsOrder 47 = .ok (.iastore, 1) := by decide +kernel
theorem dX6_readsOrder_48 : decode cX6_readsOrder 48 = .ok (.aload_n 0, 1) := by decide +kernel
theorem dX6_readsOrder_49 : decode cX6_readsOrder 49 = .ok (.dup, 1) := by decide +kernel
theorem dX6_readsOrder_50 : decode cX6_readsOrder 50 = .ok (.getfield 160, 3) := by decide +kernel
theorem dX6_readsOrder_53 : decode cX6_readsOrder 53 = .ok (.iconst 1, 1) := by decide +kernel
theorem dX6_readsOrder_54 : decode cX6_readsOrder 54 = .ok (.iadd, 1) := by decide +kernel
theorem dX6_readsOrder_55 : decode cX6_readsOrder 55 = .ok (.putfield 160, 3) := by decide +kernel
theorem dX6_readsOrder_58 : decode cX6_readsOrder 58 = .ok (.iload_n 2, 1) := by decide +kernel
theorem dX6_readsOrder_59 : decode cX6_readsOrder 59 = .ok (.ifCond .ne 13, 3) := by decide +kernel
theorem dX6_readsOrder_62 : decode cX6_readsOrder 62 = .ok (.aload_n 0, 1) := by decide +kernel
theorem dX6_readsOrder_63 : decode cX6_readsOrder 63 = .ok (.iload_n 1, 1) := by decide +kernel
theorem dX6_readsOrder_64 : decode cX6_readsOrder 64 = .ok (.invokevirtual 194, 3) := by decide +kernel
theorem dX6_readsOrder_67 : decode cX6_readsOrder 67 = .ok (.ifCond .ne 5, 3) := by decide +kernel
theorem dX6_readsOrder_70 : decode cX6_readsOrder 70 = .ok (.iconst 0, 1) := by decide +kernel
theorem dX6_readsOrder_71 : decode cX6_readsOrder 71 = .ok (.ireturn, 1) := by decide +kernel
theorem dX6_readsOrder_72 : decode cX6_readsOrder 72 = .ok (.iconst 0, 1) := by decide +kernel
theorem dX6_readsOrder_73 : decode cX6_readsOrder 73 = .ok (.istore_n 3, 1) := by decide +kernel
theorem dX6_readsOrder_74 : decode cX6_readsOrder 74 = .ok (.iload_n 3, 1) := by decide +kernel
theorem dX6_readsOrder_75 : decode cX6_readsOrder 75 = .ok (.iload_n 2, 1) := by decide +kernel
theorem dX6_readsOrder_76 : decode cX6_readsOrder 76 = .ok (.if_icmp .ge 32, 3) := by decide +kernel
theorem dX6_readsOrder_79 : decode cX6_readsOrder 79 = .ok (.aload_n 0, 1) := by decide +kernel
theorem dX6_readsOrder_80 : decode cX6_readsOrder 80 = .ok (.invokevirtual 181, 3) := by decide +kernel
theorem dX6_readsOrder_83 : decode cX6_readsOrder 83 = .ok (.ifCond .ne 5, 3) := by decide +kernel
theorem dX6_readsOrder_86 : decode cX6_readsOrder 86 = .ok (.iconst 0, 1) := by decide +kernel
theorem dX6_readsOrder_87 : decode cX6_readsOrder 87 = .ok (.ireturn, 1) := by decide +kernel
theorem dX6_readsOrder_88 : decode cX6_readsOrder 88 = .ok (.aload_n 0, 1) := by decide +kernel
theorem dX6_readsOrder_89 : decode cX6_readsOrder 89 = .ok (.getfield 31, 3) := by decide +kernel
theorem dX6_readsOrder_92 : decode cX6_readsOrder 92 = .ok (.iload_n 1, 1) := by decide +kernel
theorem dX6_readsOrder_93 : decode cX6_readsOrder 93 = .ok (.iconst 1, 1) := by decide +kernel
theorem dX6_readsOrder_94 : decode cX6_readsOrder 94 = .ok (.iadd, 1) := by decide +kernel
theorem dX6_readsOrder_95 : decode cX6_readsOrder 95 = .ok (.iload_n 3, 1) := by decide +kernel
theorem dX6_readsOrder_96 : decode cX6_readsOrder 96 = .ok (.iadd, 1) := by decide +kernel
theorem dX6_readsOrder_97 : decode cX6_readsOrder 97 = .ok (.aload_n 0, 1) := by decide +kernel
theorem dX6_readsOrder_98 : decode cX6_readsOrder 98 = .ok (.getfield 172, 3) := by decide +kernel
theorem dX6_readsOrder_101 : decode cX6_readsOrder 101 = .ok (.iastore, 1) := by decide +kernel
theorem dX6_readsOrder_102 : decode cX6_readsOrder 102 = .ok (.iinc 3 1, 3) := by decide +kernel
theorem dX6_readsOrder_105 : decode cX6_readsOrder 105 = .ok (.goto (-31), 3) := by decide +kernel
theorem dX6_readsOrder_108 : decode cX6_readsOrder 108 = .ok (.aload_n 0, 1) := by decide +kernel
theorem dX6_readsOrder_109 : decode cX6_readsOrder 109 = .ok (.invokevirtual 169, 3) := by decide +kernel
theorem dX6_readsOrder_112 : decode cX6_readsOrder 112 = .ok (.aload_n 0, 1) := by decide +kernel
theorem dX6_readsOrder_113 : decode cX6_readsOrder 113 = .ok (.aload_n 0, 1) := by decide +kernel
theorem dX6_readsOrder_114 : decode cX6_readsOrder 114 = .ok (.getfield 160, 3) := by decide +kernel
theorem dX6_readsOrder_117 : decode cX6_readsOrder 117 = .ok (.invokevirtual 163, 3) := by decide +kernel
theorem dX6_readsOrder_120 : decode cX6_readsOrder 120 = .ok (.bipush 59, 2) := by decide +kernel
theorem dX6_readsOrder_122 : decode cX6_readsOrder 122 = .ok (.if_icmp .eq 12, 3) := by decide +kernel
theorem dX6_readsOrder_125 : decode cX6_readsOrder 125 = .ok (.aload_n 0, 1) := by decide +kernel
theorem dX6_readsOrder_126 : decode cX6_readsOrder 126 = .ok (.aload_n 0, 1) := by decide +kernel
theorem dX6_readsOrder_127 : decode cX6_readsOrder 127 = .ok (.getfield 160, 3) := by decide +kernel
theorem dX6_readsOrder_130 : decode cX6_readsOrder 130 = .ok (.invokevirtual 178, 3) := by decide +kernel
theorem dX6_readsOrder_133 : decode cX6_readsOrder 133 = .ok (.ireturn, 1) := by decide +kernel
theorem dX6_readsOrder_134 : decode cX6_readsOrder 134 = .ok (.aload_n 0, 1) := by decide +kernel
theorem dX6_readsOrder_135 : decode cX6_readsOrder 135 = .ok (.dup, 1) := by decide +kernel
theorem dX6_readsOrder_136 : decode cX6_readsOrder 136 = .ok (.getfield 160, 3) := by decide +kernel
theorem dX6_readsOrder_139 : decode cX6_readsOrder 139 = .ok (.iconst 1, 1) := by decide +kernel
theorem dX6_readsOrder_140 : decode cX6_readsOrder 140 = .ok (.iadd, 1) := by decide +kernel
theorem dX6_readsOrder_141 : decode cX6_readsOrder 141 = .ok (.putfield 160, 3) := by decide +kernel
theorem dX6_readsOrder_144 : decode cX6_readsOrder 144 = .ok (.aload_n 0, 1) := by decide +kernel
theorem dX6_readsOrder_145 : decode cX6_readsOrder 145 = .ok (.dup, 1) := by decide +kernel
theorem dX6_readsOrder_146 : decode cX6_readsOrder 146 = .ok (.getfield 188, 3) := by decide +kernel
theorem dX6_readsOrder_149 : decode cX6_readsOrder 149 = .ok (.iconst 1, 1) := by decide +kernel
theorem dX6_readsOrder_150 : decode cX6_readsOrder 150 = .ok (.iadd, 1) := by decide +kernel
theorem dX6_readsOrder_151 : decode cX6_readsOrder 151 = .ok (.putfield 188, 3) := by decide +kernel
theorem dX6_readsOrder_154 : decode cX6_readsOrder 154 = .ok (.iconst 1, 1) := by decide +kernel
theorem dX6_readsOrder_155 : decode cX6_readsOrder 155 = .ok (.ireturn, 1) := by decide +kernel
theorem dX6_reads_0 : decode cX6_reads 0 = .ok (.aload_n 0, 1) := by decide +kernel
theorem dX6_reads_1 : decode cX6_reads 1 = .ok (.iconst 0, 1) := by decide +kernel
theorem dX6_reads_2 : decode cX6_reads 2 = .ok (.putfield 160, 3) := by decide +kernel
theorem dX6_reads_5 : decode cX6_reads 5 = .ok (.aload_n 0, 1) := by decide +kernel
theorem dX6_reads_6 : decode cX6_reads 6 = .ok (.iconst 0, 1) := by decide +kernel
theorem dX6_reads_7 : decode cX6_reads 7 = .ok (.putfield 188, 3) := by decide +kernel
theorem dX6_reads_10 : decode cX6_reads 10 = .ok (.aload_n 0, 1) := by decide +kernel
theorem dX6_reads_11 : decode cX6_reads 11 = .ok (.invokevirtual 169, 3) := by decide +kernel
theorem dX6_reads_14 : decode cX6_reads 14 = .ok (.aload_n 0, 1) := by decide +kernel
theorem dX6_reads_15 : decode cX6_reads 15 = .ok (.getfield 160, 3) := by decide +kernel
theorem dX6_reads_18 : decode cX6_reads 18 = .ok (.aload_n 0, 1) := by decide +kernel
theorem dX6_reads_19 : decode cX6_reads 19 = .ok (.getfield 34, 3) := by decide +kernel
theorem dX6_reads_22 : decode cX6_reads 22 = .ok (.if_icmp .lt 10, 3) := by decide +kernel
theorem dX6_reads_25 : decode cX6_reads 25 = .ok (.aload_n 0, 1) := by decide +kernel
theorem dX6_reads_26 : decode cX6_reads 26 = .ok (.getfield 188, 3) := by decide +kernel
theorem dX6_reads_29 : decode cX6_reads 29 = .ok (.ifCond .ne 19, 3) := by decide +kernel
theorem dX6_reads_32 : decode cX6_reads 32 = .ok (.aload_n 0, 1) := by decide +kernel
theorem dX6_reads_33 : decode cX6_reads 33 = .ok (.invokevirtual 197, 3) := by decide +kernel
theorem dX6_reads_36 : decode cX6_reads 36 = .ok (.ifCond .ne 5, 3) := by decide +kernel
theorem dX6_reads_39 : decode cX6_reads 39 = .ok (.iconst 0, 1) := by decide +kernel
theorem dX6_reads_40 : decode cX6_reads 40 = .ok (.ireturn, 1) := by decide +kernel
theorem dX6_reads_41 : decode cX6_reads 41 = .ok (.aload_n 0, 1) := by decide +kernel
theorem dX6_reads_42 : decode cX6_reads 42 = .ok (.invokevirtual 169, 3) := by decide +kernel
theorem dX6_reads_45 : decode cX6_reads 45 = .ok (.goto (-31), 3) := by decide +kernel
theorem dX6_reads_48 : decode cX6_reads 48 = .ok (.iconst 1, 1) := by decide +kernel
theorem dX6_reads_49 : decode cX6_reads 49 = .ok (.ireturn, 1) := by decide +kernel
theorem dX6_doesOne_0 : decode cX6_doesOne 0 = .ok (.aload_n 0, 1) := by decide +kernel
theorem dX6_doesOne_1 : decode cX6_doesOne 1 = .ok (.getfield 31, 3) := by decide +kernel
theorem dX6_doesOne_4 : decode cX6_doesOne 4 = .ok (.iload_n 1, 1) := by decide +kernel
theorem dX6_doesOne_5 : decode cX6_doesOne 5 = .ok (.iconst 1, 1) := by decide +kernel
theorem dX6_doesOne_6 : decode cX6_doesOne 6 = .ok (.iadd, 1) := by decide +kernel
theorem dX6_doesOne_7 : decode cX6_doesOne 7 = .ok (.iaload, 1) := by decide +kernel
theorem dX6_doesOne_8 : decode cX6_doesOne 8 = .ok (.istore_n 2, 1) := by decide +kernel
theorem dX6_doesOne_9 : decode cX6_doesOne 9 = .ok (.aload_n 0, 1) := by decide +kernel
theorem dX6_doesOne_10 : decode cX6_doesOne 10 = .ok (.getfield 31, 3) := by decide +kernel
theorem dX6_doesOne_13 : decode cX6_doesOne 13 = .ok (.iload_n 1, 1) := by decide +kernel
theorem dX6_doesOne_14 : decode cX6_doesOne 14 = .ok (.iconst 2, 1) := by decide +kernel
theorem dX6_doesOne_15 : decode cX6_doesOne 15 = .ok (.iadd, 1) := by decide +kernel
theorem dX6_doesOne_16 : decode cX6_doesOne 16 = .ok (.iaload, 1) := by decide +kernel
theorem dX6_doesOne_17 : decode cX6_doesOne 17 = .ok (.istore_n 3, 1) := by decide +kernel
theorem dX6_doesOne_18 : decode cX6_doesOne 18 = .ok (.aload_n 0, 1) := by decide +kernel
theorem dX6_doesOne_19 : decode cX6_doesOne 19 = .ok (.getfield 31, 3) := by decide +kernel
theorem dX6_doesOne_22 : decode cX6_doesOne 22 = .ok (.iload_n 1, 1) := by decide +kernel
theorem dX6_doesOne_23 : decode cX6_doesOne 23 = .ok (.iaload, 1) := by decide +kernel
theorem dX6_doesOne_24 : decode cX6_doesOne 24 = .ok (.lookupswitch 103 #[(100, 84), (103, 91), (112, 97), (117, 52), (119, 68)], 52) := by decide +kernel
theorem dX6_doesOne_76 : decode cX6_doesOne 76 = .ok (.aload_n 0, 1) := by decide +kernel
theorem dX6_doesOne_77 : decode cX6_doesOne 77 = .ok (.iload_n 2, 1) := by decide +kernel
theorem dX6_doesOne_78 : decode cX6_doesOne 78 = .ok (.iload_n 3, 1) := by decide +kernel
theorem dX6_doesOne_79 : decode cX6_doesOne 79 = .ok (.iconst 1, 1) := by decide +kernel
theorem dX6_doesOne_80 : decode cX6_doesOne 80 = .ok (.aload_n 0, 1) := by decide +kernel
theorem dX6_doesOne_81 : decode cX6_doesOne 81 = .ok (.getfield 31, 3) := by decide +kernel
theorem dX6_doesOne_84 : decode cX6_doesOne 84 = .ok (.iload_n 1, 1) := by decide +kernel
theorem dX6_doesOne_85 : decode cX6_doesOne 85 = .ok (.iconst 3, 1) := by decide +kernel
theorem dX6_doesOne_86 : decode cX6_doesOne 86 = .ok (.iadd, 1) := by decide +kernel
theorem dX6_doesOne_87 : decode cX6_doesOne 87 = .ok (.iaload, 1) := by decide +kernel
theorem dX6_doesOne_88 : decode cX6_doesOne 88 = .ok (.invokevirtual 86, 3) := by decide +kernel
theorem dX6_doesOne_91 : decode cX6_doesOne 91 = .ok (.ireturn, 1) := by decide +kernel
theorem dX6_doesOne_92 : decode cX6_doesOne 92 = .ok (.aload_n 0, 1) := by decide +kernel
theorem dX6_doesOne_93 : decode cX6_doesOne 93 = .ok (.iload_n 2, 1) := by decide +kernel
theorem dX6_doesOne_94 : decode cX6_doesOne 94 = .ok (.iload_n 3, 1) := by decide +kernel
theorem dX6_doesOne_95 : decode cX6_doesOne 95 = .ok (.iconst 2, 1) := by decide +kernel
theorem dX6_doesOne_96 : decode cX6_doesOne 96 = .ok (.aload_n 0, 1) := by decide +kernel
theorem dX6_doesOne_97 : decode cX6_doesOne 97 = .ok (.getfield 31, 3) := by decide +kernel
theorem dX6_doesOne_100 : decode cX6_doesOne 100 = .ok (.iload_n 1, 1) := by decide +kernel
theorem dX6_doesOne_101 : decode cX6_doesOne 101 = .ok (.iconst 3, 1) := by decide +kernel
theorem dX6_doesOne_102 : decode cX6_doesOne 102 = .ok (.iadd, 1) := by decide +kernel
theorem dX6_doesOne_103 : decode cX6_doesOne 103 = .ok (.iaload, 1) := by decide +kernel
theorem dX6_doesOne_104 : decode cX6_doesOne 104 = .ok (.invokevirtual 86, 3) := by decide +kernel
theorem dX6_doesOne_107 : decode cX6_doesOne 107 = .ok (.ireturn, 1) := by decide +kernel
theorem dX6_doesOne_108 : decode cX6_doesOne 108 = .ok (.aload_n 0, 1) := by decide +kernel
theorem dX6_doesOne_109 : decode cX6_doesOne 109 = .ok (.iload_n 2, 1) := by decide +kernel
theorem dX6_doesOne_110 : decode cX6_doesOne 110 = .ok (.iload_n 3, 1) := by decide +kernel
theorem dX6_doesOne_111 : decode cX6_doesOne 111 = .ok (.invokevirtual 75, 3) := by decide +kernel
theorem dX6_doesOne_114 : decode cX6_doesOne 114 = .ok (.ireturn, 1) := by decide +kernel
theorem dX6_doesOne_115 : decode cX6_doesOne 115 = .ok (.aload_n 0, 1) := by decide +kernel
theorem dX6_doesOne_116 : decode cX6_doesOne 116 = .ok (.iload_n 2, 1) := by decide +kernel
theorem dX6_doesOne_117 : decode cX6_doesOne 117 = .ok (.invokevirtual 90, 3) := by decide +kernel
theorem dX6_doesOne_120 : decode cX6_doesOne 120 = .ok (.ireturn, 1) := by decide +kernel
theorem dX6_doesOne_121 : decode cX6_doesOne 121 = .ok (.aload_n 0, 1) := by decide +kernel
theorem dX6_doesOne_122 : decode cX6_doesOne 122 = .ok (.iload_n 2, 1) := by decide +kernel
theorem dX6_doesOne_123 : decode cX6_doesOne 123 = .ok (.invokevirtual 96, 3) := by decide +kernel
theorem dX6_doesOne_126 : decode cX6_doesOne 126 = .ok (.ireturn, 1) := by decide +kernel
theorem dX6_doesOne_127 : decode cX6_doesOne 127 = .ok (.aload_n 0, 1) := by decide +kernel
theorem dX6_doesOne_128 : decode cX6_doesOne 128 = .ok (.invokevirtual 82, 3) := by decide +kernel
theorem dX6_doesOne_131 : decode cX6_doesOne 131 = .ok (.istore 4, 2) := by decide +kernel
theorem dX6_doesOne_133 : decode cX6_doesOne 133 = .ok (.iconst 0, 1) := by decide +kernel
theorem dX6_doesOne_134 : decode cX6_doesOne 134 = .ok (.istore 5, 2) := by decide +kernel
theorem dX6_doesOne_136 : decode cX6_doesOne 136 = .ok (.iload 5, 2) := by decide +kernel
theorem dX6_doesOne_138 : decode cX6_doesOne 138 = .ok (.bipush 12, 2) := by decide +kernel
theorem dX6_doesOne_140 : decode cX6_doesOne 140 = .ok (.if_icmp .ge 58, 3) := by decide +kernel
theorem dX6_doesOne_143 : decode cX6_doesOne 143 = .ok (.iload 4, 2) := by decide +kernel
theorem dX6_doesOne_145 : decode cX6_doesOne 145 = .ok (.ifCond .lt 53, 3) := by decide +kernel
theorem dX6_doesOne_148 : decode cX6_doesOne 148 = .ok (.aload_n 0, 1) := by decide +kernel
theorem dX6_doesOne_149 : decode cX6_doesOne 149 = .ok (.getfield 7, 3) := by decide +kernel
theorem dX6_doesOne_152 : decode cX6_doesOne 152 = .ok (.aload_n 0, 1) := by decide +kernel
theorem dX6_doesOne_153 : decode cX6_doesOne 153 = .ok (.iload 4, 2) := by decide +kernel
theorem dX6_doesOne_155 : decode cX6_doesOne 155 = .ok (.iload 5, 2) := by decide +kernel
theorem dX6_doesOne_157 : decode cX6_doesOne 157 = .ok (.iconst 0, 1) := by decide +kernel
theorem dX6_doesOne_158 : decode cX6_doesOne 158 = .ok (.invokevirtual 56, 3) := by decide +kernel
theorem dX6_doesOne_161 : decode cX6_doesOne 161 = .ok (.aload_n 0, 1) := by decide +kernel
theorem dX6_doesOne_162 : decode cX6_doesOne 162 = .ok (.getfield 31, 3) := by decide +kernel
theorem dX6_doesOne_165 : decode cX6_doesOne 165 = .ok (.iload_n 1, 1) := by decide +kernel
theorem dX6_doesOne_166 : decode cX6_doesOne 166 = .ok (.iconst 1, 1) := by decide +kernel
theorem dX6_doesOne_167 : decode cX6_doesOne 167 = .ok (.iadd, 1) := by decide +kernel
theorem dX6_doesOne_168 : decode cX6_doesOne 168 = .ok (.iload 5, 2) := by decide +kernel
theorem dX6_doesOne_170 : decode cX6_doesOne 170 = .ok (.iadd, 1) := by decide +kernel
theorem dX6_doesOne_171 : decode cX6_doesOne 171 = .ok (.iaload, 1) := by decide +kernel
theorem dX6_doesOne_172 : decode cX6_doesOne 172 = .ok (.ifCond .ge 8, 3) := by decide +kernel
theorem dX6_doesOne_175 : decode cX6_doesOne 175 = .ok (.iload 5, 2) := by decide +kernel
theorem dX6_doesOne_177 : decode cX6_doesOne 177 = .ok (.goto 14, 3) := by decide +kernel
theorem dX6_doesOne_180 : decode cX6_doesOne 180 = .ok (.aload_n 0, 1) := by decide +kernel
theorem dX6_doesOne_181 : decode cX6_doesOne 181 = .ok (.getfield 31, 3) := by decide +kernel
theorem dX6_doesOne_184 : decode cX6_doesOne 184 = .ok (.iload_n 1, 1) := by decide +kernel
theorem dX6_doesOne_185 : decode cX6_doesOne 185 = .ok (.iconst 1, 1) := by decide +kernel
theorem dX6_doesOne_186 : decode cX6_doesOne 186 = .ok (.iadd, 1) := by decide +kernel
theorem dX6_doesOne_187 : decode cX6_doesOne 187 = .ok (.iload 5, 2) := by decide +kernel
theorem dX6_doesOne_189 : decode cX6_doesOne 189 = .ok (.iadd, 1) := by decide +kernel
theorem dX6_doesOne_190 : decode cX6_doesOne 190 = .ok (.iaload, 1) := by decide +kernel
theorem dX6_doesOne_191 : decode cX6_doesOne 191 = .ok (.iastore, 1) := by decide +kernel
theorem dX6_doesOne_192 : decode cX6_doesOne 192 = .ok (.iinc 5 1, 3) := by decide +kernel
theorem dX6_doesOne_195 : decode cX6_doesOne 195 = .ok (.goto (-59), 3) := by decide +kernel
theorem dX6_doesOne_198 : decode cX6_doesOne 198 = .ok (.iload 4, 2) := by decide +kernel
theorem dX6_doesOne_200 : decode cX6_doesOne 200 = .ok (.ireturn, 1) := by decide +kernel
theorem dX6_does_0 : decode cX6_does 0 = .ok (.aload_n 0, 1) := by decide +kernel
theorem dX6_does_1 : decode cX6_does 1 = .ok (.invokevirtual 200, 3) := by decide +kernel
theorem dX6_does_4 : decode cX6_does 4 = .ok (.ifCond .ne 11, 3) := by decide +kernel
theorem dX6_does_7 : decode cX6_does 7 = .ok (.bipush (-10), 2) := by decide +kernel
theorem dX6_does_9 : decode cX6_does 9 = .ok (.aload_n 0, 1) := by decide +kernel
theorem dX6_does_10 : decode cX6_does 10 = .ok (.getfield 166, 3) := by decide +kernel
theorem dX6_does_13 : decode cX6_does 13 = .ok (.isub, 1) := by decide +kernel
theorem dX6_does_14 : decode cX6_does 14 = .ok (.ireturn, 1) := by decide +kernel
theorem dX6_does_15 : decode cX6_does 15 = .ok (.aload_n 0, 1) := by decide +kernel
theorem dX6_does_16 : decode cX6_does 16 = .ok (.invokevirtual 72, 3) := by decide +kernel
theorem dX6_does_19 : decode cX6_does 19 = .ok (.iconst 0, 1) := by decide +kernel
theorem dX6_does_20 : decode cX6_does 20 = .ok (.istore_n 1, 1) := by decide +kernel
theorem dX6_does_21 : decode cX6_does 21 = .ok (.iload_n 1, 1) := by decide +kernel
theorem dX6_does_22 : decode cX6_does 22 = .ok (.aload_n 0, 1) := by decide +kernel
theorem dX6_does_23 : decode cX6_does 23 = .ok (.getfield 188, 3) := by decide +kernel
theorem dX6_does_26 : decode cX6_does 26 = .ok (.if_icmp .ge 54, 3) := by decide +kernel
theorem dX6_does_29 : decode cX6_does 29 = .ok (.aload_n 0, 1) := by decide +kernel
theorem dX6_does_30 : decode cX6_does 30 = .ok (.bipush 13, 2) := by decide +kernel
theorem dX6_does_32 : decode cX6_does 32 = .ok (.iload_n 1, 1) := by decide +kernel
theorem dX6_does_33 : decode cX6_does 33 = .ok (.imul, 1) := by decide +kernel
theorem dX6_does_34 : decode cX6_does 34 = .ok (.invokevirtual 203, 3) := by decide +kernel
theorem dX6_does_37 : decode cX6_does 37 = .ok (.iconst (-1), 1) := by decide +kernel
theorem dX6_does_38 : decode cX6_does 38 = .ok (.if_icmp .ge 36, 3) := by decide +kernel
theorem dX6_does_41 : decode cX6_does 41 = .ok (.iconst 0, 1) := by decide +kernel
theorem dX6_does_42 : decode cX6_does 42 = .ok (.istore_n 2, 1) := by decide +kernel
theorem dX6_does_43 : decode cX6_does 43 = .ok (.iload_n 2, 1) := by decide +kernel
theorem dX6_does_44 : decode cX6_does 44 = .ok (.sipush 336, 3) := by decide +kernel
theorem dX6_does_47 : decode cX6_does 47 = .ok (.if_icmp .ge 21, 3) := by decide +kernel
theorem dX6_does_50 : decode cX6_does 50 = .ok (.aload_n 0, 1) := by decide +kernel
theorem dX6_does_51 : decode cX6_does 51 = .ok (.getfield 7, 3) := by decide +kernel
theorem dX6_does_54 : decode cX6_does 54 = .ok (.iload_n 2, 1) := by decide +kernel
theorem dX6_does_55 : decode cX6_does 55 = .ok (.aload_n 0, 1) := by decide +kernel
theorem dX6_does_56 : decode cX6_does 56 = .ok (.getfield 16, 3) := by decide +kernel
theorem dX6_does_59 : decode cX6_does 59 = .ok (.iload_n 2, 1) := by decide +kernel
theorem dX6_does_60 : decode cX6_does 60 = .ok (.iaload, 1) := by decide +kernel
theorem dX6_does_61 : decode cX6_does 61 = .ok (.iastore, 1) := by decide +kernel
theorem dX6_does_62 : decode cX6_does 62 = .ok (.iinc 2 1, 3) := by decide +kernel
theorem dX6_does_65 : decode cX6_does 65 = .ok (.goto (-22), 3) := by decide +kernel
theorem dX6_does_68 : decode cX6_does 68 = .ok (.sipush (-1000), 3) := by decide +kernel
theorem dX6_does_71 : decode cX6_does 71 = .ok (.iload_n 1, 1) := by decide +kernel
theorem dX6_does_72 : decode cX6_does 72 = .ok (.isub, 1) := by decide +kernel
theorem dX6_does_73 : decode cX6_does 73 = .ok (.ireturn, 1) := by decide +kernel
theorem dX6_does_74 : decode cX6_does 74 = .ok (.iinc 1 1, 3) := by decide +kernel
theorem dX6_does_77 : decode cX6_does 77 = .ok (.goto (-56), 3) := by decide +kernel
theorem dX6_does_80 : decode cX6_does 80 = .ok (.aload_n 0, 1) := by decide +kernel
theorem dX6_does_81 : decode cX6_does 81 = .ok (.aload_n 0, 1) := by decide +kernel
theorem dX6_does_82 : decode cX6_does 82 = .ok (.getfield 188, 3) := by decide +kernel
theorem dX6_does_85 : decode cX6_does 85 = .ok (.invokevirtual 79, 3) := by decide +kernel
theorem dX6_does_88 : decode cX6_does 88 = .ok (.ireturn, 1) := by decide +kernel
theorem dX6_toldOf_0 : decode cX6_toldOf 0 = .ok (.iload_n 1, 1) := by decide +kernel
theorem dX6_toldOf_1 : decode cX6_toldOf 1 = .ok (.iconst 0, 1) := by decide +kernel
theorem dX6_toldOf_2 : decode cX6_toldOf 2 = .ok (.iconst 4, 1) := by decide +kernel
theorem dX6_toldOf_3 : decode cX6_toldOf 3 = .ok (.invokestatic 48, 3) := by decide +kernel
theorem dX6_toldOf_6 : decode cX6_toldOf 6 = .ok (.ifCond .eq 36, 3) := by decide +kernel
theorem dX6_toldOf_9 : decode cX6_toldOf 9 = .ok (.iload_n 1, 1) := by decide +kernel
theorem dX6_toldOf_10 : decode cX6_toldOf 10 = .ok (.iconst 3, 1) := by decide +kernel
theorem dX6_toldOf_11 : decode cX6_toldOf 11 = .ok (.if_icmp .ge 12, 3) := by decide +kernel
theorem dX6_toldOf_14 : decode cX6_toldOf 14 = .ok (.aload_n 0, 1) := by decide +kernel
theorem dX6_toldOf_15 : decode cX6_toldOf 15 = .ok (.getfield 19, 3) := by decide +kernel
theorem dX6_toldOf_18 : decode cX6_toldOf 18 = .ok (.iload_n 1, 1) := by decide +kernel
theorem dX6_toldOf_19 : decode cX6_toldOf 19 = .ok (.iaload, 1) := by decide +kernel
theorem dX6_toldOf_20 : decode cX6_toldOf 20 = .ok (.goto 24, 3) := by decide +kernel
theorem dX6_toldOf_23 : decode cX6_toldOf 23 = .ok (.iload_n 1, 1) := by decide +kernel
theorem dX6_toldOf_24 : decode cX6_toldOf 24 = .ok (.iconst 3, 1) := by decide +kernel
theorem dX6_toldOf_25 : decode cX6_toldOf 25 = .ok (.if_icmp .ne 10, 3) := by decide +kernel
theorem dX6_toldOf_28 : decode cX6_toldOf 28 = .ok (.aload_n 0, 1) := by decide +kernel
theorem dX6_toldOf_29 : decode cX6_toldOf 29 = .ok (.getfield 34, 3) := by decide +kernel
theorem dX6_toldOf_32 : decode cX6_toldOf 32 = .ok (.goto 12, 3) := by decide +kernel
theorem dX6_toldOf_35 : decode cX6_toldOf 35 = .ok (.aload_n 0, 1) := by decide +kernel
theorem dX6_toldOf_36 : decode cX6_toldOf 36 = .ok (.getfield 42, 3) := by decide +kernel
theorem dX6_toldOf_39 : decode cX6_toldOf 39 = .ok (.goto 5, 3) := by decide +kernel
theorem dX6_toldOf_42 : decode cX6_toldOf 42 = .ok (.bipush (-2), 2) := by decide +kernel
theorem dX6_toldOf_44 : decode cX6_toldOf 44 = .ok (.ireturn, 1) := by decide +kernel
theorem dX6_told_0 : decode cX6_told 0 = .ok (.aload_n 0, 1) := by decide +kernel
theorem dX6_told_1 : decode cX6_told 1 = .ok (.aload_n 0, 1) := by decide +kernel
theorem dX6_told_2 : decode cX6_told 2 = .ok (.iload_n 1, 1) := by decide +kernel
theorem dX6_told_3 : decode cX6_told 3 = .ok (.invokevirtual 206, 3) := by decide +kernel
theorem dX6_told_6 : decode cX6_told 6 = .ok (.invokevirtual 114, 3) := by decide +kernel
theorem dX6_told_9 : decode cX6_told 9 = .ok (.ireturn, 1) := by decide +kernel
theorem dX6_digest_0 : decode cX6_digest 0 = .ok (.ldc2_w 209, 3) := by decide +kernel
theorem dX6_digest_3 : decode cX6_digest 3 = .ok (.lstore_n 1, 1) := by decide +kernel
theorem dX6_digest_4 : decode cX6_digest 4 = .ok (.iconst 0, 1) := by decide +kernel
theorem dX6_digest_5 : decode cX6_digest 5 = .ok (.istore_n 3, 1) := by decide +kernel
theorem dX6_digest_6 : decode cX6_digest 6 = .ok (.iload_n 3, 1) := by decide +kernel
theorem dX6_digest_7 : decode cX6_digest 7 = .ok (.bipush 12, 2) := by decide +kernel
theorem dX6_digest_9 : decode cX6_digest 9 = .ok (.if_icmp .ge 37, 3) := by decide +kernel
theorem dX6_digest_12 : decode cX6_digest 12 = .ok (.ldc2_w 211, 3) := by decide +kernel
theorem dX6_digest_15 : decode cX6_digest 15 = .ok (.lload_n 1, 1) := by decide +kernel
theorem dX6_digest_16 : decode cX6_digest 16 = .ok (.lmul, 1) := by decide +kernel
theorem dX6_digest_17 : decode cX6_digest 17 = .ok (.iload_n 3, 1) := by decide +kernel
theorem dX6_digest_18 : decode cX6_digest 18 = .ok (.iconst 5, 1) := by decide +kernel
theorem dX6_digest_19 : decode cX6_digest 19 = .ok (.if_icmp .ge 11, 3) := by decide +kernel
theorem dX6_digest_22 : decode cX6_digest 22 = .ok (.aload_n 0, 1) := by decide +kernel
theorem dX6_digest_23 : decode cX6_digest 23 = .ok (.iload_n 3, 1) := by decide +kernel
theorem dX6_digest_24 : decode cX6_digest 24 = .ok (.invokevirtual 206, 3) := by decide +kernel
theorem dX6_digest_27 : decode cX6_digest 27 = .ok (.goto 10, 3) := by decide +kernel
theorem dX6_digest_30 : decode cX6_digest 30 = .ok (.aload_n 0, 1) := by decide +kernel
theorem dX6_digest_31 : decode cX6_digest 31 = .ok (.iload_n 3, 1) := by decide +kernel
theorem dX6_digest_32 : decode cX6_digest 32 = .ok (.iconst 5, 1) := by decide +kernel
theorem dX6_digest_33 : decode cX6_digest 33 = .ok (.isub, 1) := by decide +kernel
theorem dX6_digest_34 : decode cX6_digest 34 = .ok (.invokevirtual 157, 3) := by decide +kernel
theorem dX6_digest_37 : decode cX6_digest 37 = .ok (.i2l, 1) := by decide +kernel
theorem dX6_digest_38 : decode cX6_digest 38 = .ok (.ladd, 1) := by decide +kernel
theorem dX6_digest_39 : decode cX6_digest 39 = .ok (.lstore_n 1, 1) := by decide +kernel
theorem dX6_digest_40 : decode cX6_digest 40 = .ok (.iinc 3 1, 3) := by decide +kernel
theorem dX6_digest_43 : decode cX6_digest 43 = .ok (.goto (-37), 3) := by decide +kernel
theorem dX6_digest_46 : decode cX6_digest 46 = .ok (.iconst 0, 1) := by decide +kernel
theorem dX6_digest_47 : decode cX6_digest 47 = .ok (.istore_n 3, 1) := by decide +kernel
theorem dX6_digest_48 : decode cX6_digest 48 = .ok (.iload_n 3, 1) := by decide +kernel
theorem dX6_digest_49 : decode cX6_digest 49 = .ok (.aload_n 0, 1) := by decide +kernel
theorem dX6_digest_50 : decode cX6_digest 50 = .ok (.getfield 7, 3) := by decide +kernel
theorem dX6_digest_53 : decode cX6_digest 53 = .ok (.iconst 0, 1) := by decide +kernel
theorem dX6_digest_54 : decode cX6_digest 54 = .ok (.iaload, 1) := by decide +kernel
theorem dX6_digest_55 : decode cX6_digest 55 = .ok (.if_icmp .ge 40, 3) := by decide +kernel
theorem dX6_digest_58 : decode cX6_digest 58 = .ok (.iconst 0, 1) := by decide +kernel
theorem dX6_digest_59 : decode cX6_digest 59 = .ok (.istore 4, 2) := by decide +kernel
theorem dX6_digest_61 : decode cX6_digest 61 = .ok (.iload 4, 2) := by decide +kernel
theorem dX6_digest_63 : decode cX6_digest 63 = .ok (.bipush 7, 2) := by decide +kernel
theorem dX6_digest_65 : decode cX6_digest 65 = .ok (.if_icmp .ge 24, 3) := by decide +kernel
theorem dX6_digest_68 : decode cX6_digest 68 = .ok (.ldc2_w 211, 3) := by decide +kernel
theorem dX6_digest_71 : decode cX6_digest 71 = .ok (.lload_n 1, 1) := by decide +kernel
theorem dX6_digest_72 : decode cX6_digest 72 = .ok (.lmul, 1) := by decide +kernel
theorem dX6_digest_73 : decode cX6_digest 73 = .ok (.aload_n 0, 1) := by decide +kernel
theorem dX6_digest_74 : decode cX6_digest 74 = .ok (.iload_n 3, 1) := by decide +kernel
theorem dX6_digest_75 : decode cX6_digest 75 = .ok (.iload 4, 2) := by decide +kernel
theorem dX6_digest_77 : decode cX6_digest 77 = .ok (.invokevirtual 111, 3) := by decide +kernel
theorem dX6_digest_80 : decode cX6_digest 80 = .ok (.i2l, 1) := by decide +kernel
theorem dX6_digest_81 : decode cX6_digest 81 = .ok (.ladd, 1) := by decide +kernel
theorem dX6_digest_82 : decode cX6_digest 82 = .ok (.lstore_n 1, 1) := by decide +kernel
theorem dX6_digest_83 : decode cX6_digest 83 = .ok (.iinc 4 1, 3) := by decide +kernel
theorem dX6_digest_86 : decode cX6_digest 86 = .ok (.goto (-25), 3) := by decide +kernel
theorem dX6_digest_89 : decode cX6_digest 89 = .ok (.iinc 3 1, 3) := by decide +kernel
theorem dX6_digest_92 : decode cX6_digest 92 = .ok (.goto (-44), 3) := by decide +kernel
