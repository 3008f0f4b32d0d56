theorem dX6_back_49 : decode cX6_back 49 = .ok (.imul, 1) := by decide +kernel
theorem dX6_back_50 : decode cX6_back 50 = .ok (.iload_n 1, 1) := by decide +kernel
theorem dX6_back_51 : decode cX6_back 51 = .ok (.iadd, 1) := by decide +kernel
theorem dX6_back_52 : decode cX6_back 52 = .ok (.iaload, 1) := by decide +kernel
theorem dX6_back_53 : decode cX6_back 53 = .ok (.iastore, 1) := by decide +kernel
theorem dX6_back_54 : decode cX6_back 54 = .ok (.iinc 1 1, 3) := by decide +kernel
theorem dX6_back_57 : decode cX6_back 57 = .ok (.goto (-31), 3) := by decide +kernel
theorem dX6_back_60 : decode cX6_back 60 = .ok (.aload_n 0, 1) := by decide +kernel
theorem dX6_back_61 : decode cX6_back 61 = .ok (.getfield 42, 3) := by decide +kernel
theorem dX6_back_64 : decode cX6_back 64 = .ok (.ireturn, 1) := by decide +kernel
theorem dX6_isHome_0 : decode cX6_isHome 0 = .ok (.aload_n 0, 1) := by decide +kernel
theorem dX6_isHome_1 : decode cX6_isHome 1 = .ok (.getfield 7, 3) := by decide +kernel
theorem dX6_isHome_4 : decode cX6_isHome 4 = .ok (.iconst 4, 1) := by decide +kernel
theorem dX6_isHome_5 : decode cX6_isHome 5 = .ok (.iconst 4, 1) := by decide +kernel
theorem dX6_isHome_6 : decode cX6_isHome 6 = .ok (.iload_n 1, 1) := by decide +kernel
theorem dX6_isHome_7 : decode cX6_isHome 7 = .ok (.imul, 1) := by decide +kernel
theorem dX6_isHome_8 : decode cX6_isHome 8 = .ok (.iadd, 1) := by decide +kernel
theorem dX6_isHome_9 : decode cX6_isHome 9 = .ok (.iaload, 1) := by decide +kernel
theorem dX6_isHome_10 : decode cX6_isHome 10 = .ok (.aload_n 0, 1) := by decide +kernel
theorem dX6_isHome_11 : decode cX6_isHome 11 = .ok (.getfield 7, 3) := by decide +kernel
theorem dX6_isHome_14 : decode cX6_isHome 14 = .ok (.bipush 6, 2) := by decide +kernel
theorem dX6_isHome_16 : decode cX6_isHome 16 = .ok (.iconst 4, 1) := by decide +kernel
theorem dX6_isHome_17 : decode cX6_isHome 17 = .ok (.iload_n 1, 1) := by decide +kernel
theorem dX6_isHome_18 : decode cX6_isHome 18 = .ok (.imul, 1) := by decide +kernel
theorem dX6_isHome_19 : decode cX6_isHome 19 = .ok (.iadd, 1) := by decide +kernel
theorem dX6_isHome_20 : decode cX6_isHome 20 = .ok (.iaload, 1) := by decide +kernel
theorem dX6_isHome_21 : decode cX6_isHome 21 = .ok (.if_icmp .ne 31, 3) := by decide +kernel
theorem dX6_isHome_24 : decode cX6_isHome 24 = .ok (.aload_n 0, 1) := by decide +kernel
theorem dX6_isHome_25 : decode cX6_isHome 25 = .ok (.getfield 7, 3) := by decide +kernel
theorem dX6_isHome_28 : decode cX6_isHome 28 = .ok (.iconst 5, 1) := by decide +kernel
theorem dX6_isHome_29 : decode cX6_isHome 29 = .ok (.iconst 4, 1) := by decide +kernel
theorem dX6_isHome_30 : decode cX6_isHome 30 = .ok (.iload_n 1, 1) := by decide +kernel
theorem dX6_isHome_31 : decode cX6_isHome 31 = .ok (.imul, 1) := by decide +kernel
theorem dX6_isHome_32 : decode cX6_isHome 32 = .ok (.iadd, 1) := by decide +kernel
theorem dX6_isHome_33 : decode cX6_isHome 33 = .ok (.iaload, 1) := by decide +kernel
theorem dX6_isHome_34 : decode cX6_isHome 34 = .ok (.aload_n 0, 1) := by decide +kernel
theorem dX6_isHome_35 : decode cX6_isHome 35 = .ok (.getfield 7, 3) := by decide +kernel
theorem dX6_isHome_38 : decode cX6_isHome 38 = .ok (.bipush 7, 2) := by decide +kernel
theorem dX6_isHome_40 : decode cX6_isHome 40 = .ok (.iconst 4, 1) := by decide +kernel
theorem dX6_isHome_41 : decode cX6_isHome 41 = .ok (.iload_n 1, 1) := by decide +kernel
theorem dX6_isHome_42 : decode cX6_isHome 42 = .ok (.imul, 1) := by decide +kernel
theorem dX6_isHome_43 : decode cX6_isHome 43 = .ok (.iadd, 1) := by decide +kernel
theorem dX6_isHome_44 : decode cX6_isHome 44 = .ok (.iaload, 1) := by decide +kernel
theorem dX6_isHome_45 : decode cX6_isHome 45 = .ok (.if_icmp .ne 7, 3) := by decide +kernel
theorem dX6_isHome_48 : decode cX6_isHome 48 = .ok (.iconst 1, 1) := by decide +kernel
theorem dX6_isHome_49 : decode cX6_isHome 49 = .ok (.goto 4, 3) := by decide +kernel
theorem dX6_isHome_52 : decode cX6_isHome 52 = .ok (.iconst 0, 1) := by decide +kernel
theorem dX6_isHome_53 : decode cX6_isHome 53 = .ok (.ireturn, 1) := by decide +kernel
theorem dX6_atHome_0 : decode cX6_atHome 0 = .ok (.iconst 0, 1) := by decide +kernel
theorem dX6_atHome_1 : decode cX6_atHome 1 = .ok (.istore_n 1, 1) := by decide +kernel
theorem dX6_atHome_2 : decode cX6_atHome 2 = .ok (.iconst 0, 1) := by decide +kernel
theorem dX6_atHome_3 : decode cX6_atHome 3 = .ok (.istore_n 2, 1) := by decide +kernel
theorem dX6_atHome_4 : decode cX6_atHome 4 = .ok (.iload_n 2, 1) := by decide +kernel
theorem dX6_atHome_5 : decode cX6_atHome 5 = .ok (.aload_n 0, 1) := by decide +kernel
theorem dX6_atHome_6 : decode cX6_atHome 6 = .ok (.getfield 7, 3) := by decide +kernel
theorem dX6_atHome_9 : decode cX6_atHome 9 = .ok (.iconst 0, 1) := by decide +kernel
theorem dX6_atHome_10 : decode cX6_atHome 10 = .ok (.iaload, 1) := by decide +kernel
theorem dX6_atHome_11 : decode cX6_atHome 11 = .ok (.if_icmp .ge 25, 3) := by decide +kernel
theorem dX6_atHome_14 : decode cX6_atHome 14 = .ok (.iload_n 1, 1) := by decide +kernel
theorem dX6_atHome_15 : decode cX6_atHome 15 = .ok (.aload_n 0, 1) := by decide +kernel
theorem dX6_atHome_16 : decode cX6_atHome 16 = .ok (.iload_n 2, 1) := by decide +kernel
theorem dX6_atHome_17 : decode cX6_atHome 17 = .ok (.invokevirtual 99, 3) := by decide +kernel
theorem dX6_atHome_20 : decode cX6_atHome 20 = .ok (.ifCond .eq 7, 3) := by decide +kernel
theorem dX6_atHome_23 : decode cX6_atHome 23 = .ok (.iconst 1, 1) := by decide +kernel
theorem dX6_atHome_24 : decode cX6_atHome 24 = .ok (.goto 4, 3) := by decide +kernel
theorem dX6_atHome_27 : decode cX6_atHome 27 = .ok (.iconst 0, 1) := by decide +kernel
theorem dX6_atHome_28 : decode cX6_atHome 28 = .ok (.iadd, 1) := by decide +kernel
theorem dX6_atHome_29 : decode cX6_atHome 29 = .ok (.istore_n 1, 1) := by decide +kernel
theorem dX6_atHome_30 : decode cX6_atHome 30 = .ok (.iinc 2 1, 3) := by decide +kernel
theorem dX6_atHome_33 : decode cX6_atHome 33 = .ok (.goto (-29), 3) := by decide +kernel
theorem dX6_atHome_36 : decode cX6_atHome 36 = .ok (.iload_n 1, 1) := by decide +kernel
theorem dX6_atHome_37 : decode cX6_atHome 37 = .ok (.ireturn, 1) := by decide +kernel
theorem dX6_partner_0 : decode cX6_partner 0 = .ok (.iload_n 1, 1) := by decide +kernel
theorem dX6_partner_1 : decode cX6_partner 1 = .ok (.iconst 2, 1) := by decide +kernel
theorem dX6_partner_2 : decode cX6_partner 2 = .ok (.irem, 1) := by decide +kernel
theorem dX6_partner_3 : decode cX6_partner 3 = .ok (.ifCond .ne 9, 3) := by decide +kernel
theorem dX6_partner_6 : decode cX6_partner 6 = .ok (.iload_n 1, 1) := by decide +kernel
theorem dX6_partner_7 : decode cX6_partner 7 = .ok (.iconst 1, 1) := by decide +kernel
theorem dX6_partner_8 : decode cX6_partner 8 = .ok (.iadd, 1) := by decide +kernel
theorem dX6_partner_9 : decode cX6_partner 9 = .ok (.goto 6, 3) := by decide +kernel
theorem dX6_partner_12 : decode cX6_partner 12 = .ok (.iload_n 1, 1) := by decide +kernel
theorem dX6_partner_13 : decode cX6_partner 13 = .ok (.iconst 1, 1) := by decide +kernel
theorem dX6_partner_14 : decode cX6_partner 14 = .ok (.isub, 1) := by decide +kernel
theorem dX6_partner_15 : decode cX6_partner 15 = .ok (.istore_n 2, 1) := by decide +kernel
theorem dX6_partner_16 : decode cX6_partner 16 = .ok (.iload_n 2, 1) := by decide +kernel
theorem dX6_partner_17 : decode cX6_partner 17 = .ok (.aload_n 0, 1) := by decide +kernel
theorem dX6_partner_18 : decode cX6_partner 18 = .ok (.getfield 7, 3) := by decide +kernel
theorem dX6_partner_21 : decode cX6_partner 21 = .ok (.iconst 0, 1) := by decide +kernel
theorem dX6_partner_22 : decode cX6_partner 22 = .ok (.iaload, 1) := by decide +kernel
theorem dX6_partner_23 : decode cX6_partner 23 = .ok (.if_icmp .ge 7, 3) := by decide +kernel
theorem dX6_partner_26 : decode cX6_partner 26 = .ok (.iload_n 2, 1) := by decide +kernel
theorem dX6_partner_27 : decode cX6_partner 27 = .ok (.goto 4, 3) := by decide +kernel
theorem dX6_partner_30 : decode cX6_partner 30 = .ok (.iconst (-1), 1) := by decide +kernel
theorem dX6_partner_31 : decode cX6_partner 31 = .ok (.ireturn, 1) := by decide +kernel
theorem dX6_arePaired_0 : decode cX6_arePaired 0 = .ok (.aload_n 0, 1) := by decide +kernel
theorem dX6_arePaired_1 : decode cX6_arePaired 1 = .ok (.iload_n 1, 1) := by decide +kernel
theorem dX6_arePaired_2 : decode cX6_arePaired 2 = .ok (.invokevirtual 102, 3) := by decide +kernel
theorem dX6_arePaired_5 : decode cX6_arePaired 5 = .ok (.istore_n 2, 1) := by decide +kernel
theorem dX6_arePaired_6 : decode cX6_arePaired 6 = .ok (.iload_n 2, 1) := by decide +kernel
theorem dX6_arePaired_7 : decode cX6_arePaired 7 = .ok (.ifCond .lt 26, 3) := by decide +kernel
theorem dX6_arePaired_10 : decode cX6_arePaired 10 = .ok (.aload_n 0, 1) := by decide +kernel
theorem dX6_arePaired_11 : decode cX6_arePaired 11 = .ok (.getfield 7, 3) := by decide +kernel
theorem dX6_arePaired_14 : decode cX6_arePaired 14 = .ok (.iconst 5, 1) := by decide +kernel
theorem dX6_arePaired_15 : decode cX6_arePaired 15 = .ok (.iconst 4, 1) := by decide +kernel
theorem dX6_arePaired_16 : decode cX6_arePaired 16 = .ok (.iload_n 1, 1) := by decide +kernel
theorem dX6_arePaired_17 : decode cX6_arePaired 17 = .ok (.imul, 1) := by decide +kernel
theorem dX6_arePaired_18 : decode cX6_arePaired 18 = .ok (.iadd, 1) := by decide +kernel
theorem dX6_arePaired_19 : decode cX6_arePaired 19 = .ok (.iaload, 1) := by decide +kernel
theorem dX6_arePaired_20 : decode cX6_arePaired 20 = .ok (.aload_n 0, 1) := by decide +kernel
theorem dX6_arePaired_21 : decode cX6_arePaired 21 = .ok (.getfield 7, 3) := by decide +kernel
theorem dX6_arePaired_24 : decode cX6_arePaired 24 = .ok (.iconst 5, 1) := by decide +kernel
theorem dX6_arePaired_25 : decode cX6_arePaired 25 = .ok (.iconst 4, 1) := by decide +kernel
theorem dX6_arePaired_26 : decode cX6_arePaired 26 = .ok (.iload_n 2, 1) := by decide +kernel
theorem dX6_arePaired_27 : decode cX6_arePaired 27 = .ok (.imul, 1) := by decide +kernel
theorem dX6_arePaired_28 : decode cX6_arePaired 28 = .ok (.iadd, 1) := by decide +kernel
theorem dX6_arePaired_29 : decode cX6_arePaired 29 = .ok (.iaload, 1) := by decide +kernel
theorem dX6_arePaired_30 : decode cX6_arePaired 30 = .ok (.if_icmp .eq 5, 3) := by decide +kernel
theorem dX6_arePaired_33 : decode cX6_arePaired 33 = .ok (.iconst 0, 1) := by decide +kernel
theorem dX6_arePaired_34 : decode cX6_arePaired 34 = .ok (.ireturn, 1) := by decide +kernel
theorem dX6_arePaired_35 : decode cX6_arePaired 35 = .ok (.aload_n 0, 1) := by decide +kernel
theorem dX6_arePaired_36 : decode cX6_arePaired 36 = .ok (.getfield 7, 3) := by decide +kernel
theorem dX6_arePaired_39 : decode cX6_arePaired 39 = .ok (.iconst 4, 1) := by decide +kernel
theorem dX6_arePaired_40 : decode cX6_arePaired 40 = .ok (.iconst 4, 1) := by decide +kernel
theorem dX6_arePaired_41 : decode cX6_arePaired 41 = .ok (.iload_n 1, 1) := by decide +kernel
theorem dX6_arePaired_42 : decode cX6_arePaired 42 = .ok (.imul, 1) := by decide +kernel
theorem dX6_arePaired_43 : decode cX6_arePaired 43 = .ok (.iadd, 1) := by decide +kernel
theorem dX6_arePaired_44 : decode cX6_arePaired 44 = .ok (.iaload, 1) := by decide +kernel
theorem dX6_arePaired_45 : decode cX6_arePaired 45 = .ok (.istore_n 3, 1) := by decide +kernel
theorem dX6_arePaired_46 : decode cX6_arePaired 46 = .ok (.aload_n 0, 1) := by decide +kernel
theorem dX6_arePaired_47 : decode cX6_arePaired 47 = .ok (.getfield 7, 3) := by decide +kernel
theorem dX6_arePaired_50 : decode cX6_arePaired 50 = .ok (.iconst 4, 1) := by decide +kernel
theorem dX6_arePaired_51 : decode cX6_arePaired 51 = .ok (.iconst 4, 1) := by decide +kernel
theorem dX6_arePaired_52 : decode cX6_arePaired 52 = .ok (.iload_n 2, 1) := by decide +kernel
theorem dX6_arePaired_53 : decode cX6_arePaired 53 = .ok (.imul, 1) := by decide +kernel
theorem dX6_arePaired_54 : decode cX6_arePaired 54 = .ok (.iadd, 1) := by decide +kernel
theorem dX6_arePaired_55 : decode cX6_arePaired 55 = .ok (.iaload, 1) := by decide +kernel
theorem dX6_arePaired_56 : decode cX6_arePaired 56 = .ok (.istore 4, 2) := by decide +kernel
theorem dX6_arePaired_58 : decode cX6_arePaired 58 = .ok (.iload_n 3, 1) := by decide +kernel
theorem dX6_arePaired_59 : decode cX6_arePaired 59 = .ok (.iconst 4, 1) := by decide +kernel
theorem dX6_arePaired_60 : decode cX6_arePaired 60 = .ok (.idiv, 1) := by decide +kernel
theorem dX6_arePaired_61 : decode cX6_arePaired 61 = .ok (.iload 4, 2) := by decide +kernel
theorem dX6_arePaired_63 : decode cX6_arePaired 63 = .ok (.iconst 4, 1) := by decide +kernel
theorem dX6_arePaired_64 : decode cX6_arePaired 64 = .ok (.idiv, 1) := by decide +kernel
theorem dX6_arePaired_65 : decode cX6_arePaired 65 = .ok (.if_icmp .ne 23, 3) := by decide +kernel
theorem dX6_arePaired_68 : decode cX6_arePaired 68 = .ok (.iload_n 3, 1) := by decide +kernel
theorem dX6_arePaired_69 : decode cX6_arePaired 69 = .ok (.iload 4, 2) := by decide +kernel
theorem dX6_arePaired_71 : decode cX6_arePaired 71 = .ok (.isub, 1) := by decide +kernel
theorem dX6_arePaired_72 : decode cX6_arePaired 72 = .ok (.iconst 1, 1) := by decide +kernel
theorem dX6_arePaired_73 : decode cX6_arePaired 73 = .ok (.if_icmp .eq 11, 3) := by decide +kernel
theorem dX6_arePaired_76 : decode cX6_arePaired 76 = .ok (.iload 4, 2) := by decide +kernel
theorem dX6_arePaired_78 : decode cX6_arePaired 78 = .ok (.iload_n 3, 1) := by decide +kernel
theorem dX6_arePaired_79 : decode cX6_arePaired 79 = .ok (.isub, 1) := by decide +kernel
theorem dX6_arePaired_80 : decode cX6_arePaired 80 = .ok (.iconst 1, 1) := by decide +kernel
theorem dX6_arePaired_81 : decode cX6_arePaired 81 = .ok (.if_icmp .ne 7, 3) := by decide +kernel
theorem dX6_arePaired_84 : decode cX6_arePaired 84 = .ok (.iconst 1, 1) := by decide +kernel
theorem dX6_arePaired_85 : decode cX6_arePaired 85 = .ok (.goto 4, 3) := by decide +kernel
theorem dX6_arePaired_88 : decode cX6_arePaired 88 = .ok (.iconst 0, 1) := by decide +kernel
theorem dX6_arePaired_89 : decode cX6_arePaired 89 = .ok (.ireturn, 1) := by decide +kernel
theorem dX6_pairs_0 : decode cX6_pairs 0 = .ok (.iconst 0, 1) := by decide +kernel
theorem dX6_pairs_1 : decode cX6_pairs 1 = .ok (.istore_n 1, 1) := by decide +kernel
theorem dX6_pairs_2 : decode cX6_pairs 2 = .ok (.iconst 0, 1) := by decide +kernel
theorem dX6_pairs_3 : decode cX6_pairs 3 = .ok (.istore_n 2, 1) := by decide +kernel
theorem dX6_pairs_4 : decode cX6_pairs 4 = .ok (.iload_n 2, 1) := by decide +kernel
theorem dX6_pairs_5 : decode cX6_pairs 5 = .ok (.iconst 1, 1) := by decide +kernel
theorem dX6_pairs_6 : decode cX6_pairs 6 = .ok (.iadd, 1) := by decide +kernel
theorem dX6_pairs_7 : decode cX6_pairs 7 = .ok (.aload_n 0, 1) := by decide +kernel
theorem dX6_pairs_8 : decode cX6_pairs 8 = .ok (.getfield 7, 3) := by decide +kernel
theorem dX6_pairs_11 : decode cX6_pairs 11 = .ok (.iconst 0, 1) := by decide +kernel
theorem dX6_pairs_12 : decode cX6_pairs 12 = .ok (.iaload, 1) := by decide +kernel
theorem dX6_pairs_13 : decode cX6_pairs 13 = .ok (.if_icmp .ge 25, 3) := by decide +kernel
theorem dX6_pairs_16 : decode cX6_pairs 16 = .ok (.iload_n 1, 1) := by decide +kernel
theorem dX6_pairs_17 : decode cX6_pairs 17 = .ok (.aload_n 0, 1) := by decide +kernel
theorem dX6_pairs_18 : decode cX6_pairs 18 = .ok (.iload_n 2, 1) := by decide +kernel
theorem dX6_pairs_19 : decode cX6_pairs 19 = .ok (.invokevirtual 105, 3) := by decide +kernel
theorem dX6_pairs_22 : decode cX6_pairs 22 = .ok (.ifCond .eq 7, 3) := by decide +kernel
theorem dX6_pairs_25 : decode cX6_pairs 25 = .ok (.iconst 1, 1) := by decide +kernel
theorem dX6_pairs_26 : decode cX6_pairs 26 = .ok (.goto 4, 3) := by decide +kernel
theorem dX6_pairs_29 : decode cX6_pairs 29 = .ok (.iconst 0, 1) := by decide +kernel
theorem dX6_pairs_30 : decode cX6_pairs 30 = .ok (.iadd, 1) := by decide +kernel
theorem dX6_pairs_31 : decode cX6_pairs 31 = .ok (.istore_n 1, 1) := by decide +kernel
theorem dX6_pairs_32 : decode cX6_pairs 32 = .ok (.iinc 2 2, 3) := by decide +kernel
theorem dX6_pairs_35 : decode cX6_pairs 35 = .ok (.goto (-31), 3) := by decide +kernel
theorem dX6_pairs_38 : decode cX6_pairs 38 = .ok (.iload_n 1, 1) := by decide +kernel
theorem dX6_pairs_39 : decode cX6_pairs 39 = .ok (.ireturn, 1) := by decide +kernel
theorem dX6_ofDancer_0 : decode cX6_ofDancer 0 = .ok (.aload_n 0, 1) := by decide +kernel
theorem dX6_ofDancer_1 : decode cX6_ofDancer 1 = .ok (.iload_n 1, 1) := by decide +kernel
theorem dX6_ofDancer_2 : decode cX6_ofDancer 2 = .ok (.invokevirtual 108, 3) := by decide +kernel
theorem dX6_ofDancer_5 : decode cX6_ofDancer 5 = .ok (.ifCond .eq 13, 3) := by decide +kernel
theorem dX6_ofDancer_8 : decode cX6_ofDancer 8 = .ok (.iload_n 2, 1) := by decide +kernel
theorem dX6_ofDancer_9 : decode cX6_ofDancer 9 = .ok (.iconst 0, 1) := by decide +kernel
theorem dX6_ofDancer_10 : decode cX6_ofDancer 10 = .ok (.bipush 6, 2) := by decide +kernel
theorem dX6_ofDancer_12 : decode cX6_ofDancer 12 = .ok (.invokestatic 48, 3) := by decide +kernel
theorem dX6_ofDancer_15 : decode cX6_ofDancer 15 = .ok (.ifCond .ne 6, 3) := by decide +kernel
theorem dX6_ofDancer_18 : decode cX6_ofDancer 18 = .ok (.bipush (-2), 2) := by decide +kernel
theorem dX6_ofDancer_20 : decode cX6_ofDancer 20 = .ok (.ireturn, 1) := by decide +kernel
theorem dX6_ofDancer_21 : decode cX6_ofDancer 21 = .ok (.iload_n 2, 1) := by decide +kernel
theorem dX6_ofDancer_22 : decode cX6_ofDancer 22 = .ok (.tableswitch 60 4 6 #[26, 40, 46], 26) := by decide +kernel
theorem dX6_ofDancer_48 : decode cX6_ofDancer 48 = .ok (.aload_n 0, 1) := by decide +kernel
theorem dX6_ofDancer_49 : decode cX6_ofDancer 49 = .ok (.iload_n 1, 1) := by decide +kernel
theorem dX6_ofDancer_50 : decode cX6_ofDancer 50 = .ok (.invokevirtual 99, 3) := by decide +kernel
theorem dX6_ofDancer_53 : decode cX6_ofDancer 53 = .ok (.ifCond .eq 7, 3) := by decide +kernel
theorem dX6_ofDancer_56 : decode cX6_ofDancer 56 = .ok (.iconst 1, 1) := by decide +kernel
theorem dX6_ofDancer_57 : decode cX6_ofDancer 57 = .ok (.goto 4, 3) := by decide +kernel
theorem dX6_ofDancer_60 : decode cX6_ofDancer 60 = .ok (.iconst 0, 1) := by decide +kernel
theorem dX6_ofDancer_61 : decode cX6_ofDancer 61 = .ok (.ireturn, 1) := by decide +kernel
theorem dX6_ofDancer_62 : decode cX6_ofDancer 62 = .ok (.aload_n 0, 1) := by decide +kernel
theorem dX6_ofDancer_63 : decode cX6_ofDancer 63 = .ok (.iload_n 1, 1) := by decide +kernel
theorem dX6_ofDancer_64 : decode cX6_ofDancer 64 = .ok (.invokevirtual 102, 3) := by decide +kernel
theorem dX6_ofDancer_67 : decode cX6_ofDancer 67 = .ok (.ireturn, 1) := by decide +kernel
theorem dX6_ofDancer_68 : decode cX6_ofDancer 68 = .ok (.aload_n 0, 1) := by decide +kernel
theorem dX6_ofDancer_69 : decode cX6_ofDancer 69 = .ok (.iload_n 1, 1) := by decide +kernel
theorem dX6_ofDancer_70 : decode cX6_ofDancer 70 = .ok (.invokevirtual 105, 3) := by decide +kernel
theorem dX6_ofDancer_73 : decode cX6_ofDancer 73 = .ok (.ifCond .eq 7, 3) := by decide +kernel
theorem dX6_ofDancer_76 : decode cX6_ofDancer 76 = .ok (.iconst 1, 1) := by decide +kernel
theorem dX6_ofDancer_77 : decode cX6_ofDancer 77 = .ok (.goto 4, 3) := by decide +kernel
theorem dX6_ofDancer_80 : decode cX6_ofDancer 80 = .ok (.iconst 0, 1) := by decide +kernel
theorem dX6_ofDancer_81 : decode cX6_ofDancer 81 = .ok (.ireturn, 1) := by decide +kernel
theorem dX6_ofDancer_82 : decode cX6_ofDancer 82 = .ok (.aload_n 0, 1) := by decide +kernel
theorem dX6_ofDancer_83 : decode cX6_ofDancer 83 = .ok (.getfield 7, 3) := by decide +kernel
theorem dX6_ofDancer_86 : decode cX6_ofDancer 86 = .ok (.iconst 4, 1) := by decide +kernel
theorem dX6_ofDancer_87 : decode cX6_ofDancer 87 = .ok (.iconst 4, 1) := by decide +kernel
theorem dX6_ofDancer_88 : decode cX6_ofDancer 88 = .ok (.iload_n 1, 1) := by decide +kernel
theorem dX6_ofDancer_89 : decode cX6_ofDancer 89 = .ok (.imul, 1) := by decide +kernel
theorem dX6_ofDancer_90 : decode cX6_ofDancer 90 = .ok (.iadd, 1) := by decide +kernel
theorem dX6_ofDancer_91 : decode cX6_ofDancer 91 = .ok (.iload_n 2, 1) := by decide +kernel
theorem dX6_ofDancer_92 : decode cX6_ofDancer 92 = .ok (.iadd, 1) := by decide +kernel
theorem dX6_ofDancer_93 : decode cX6_ofDancer 93 = .ok (.iaload, 1) := by decide +kernel
theorem dX6_ofDancer_94 : decode cX6_ofDancer 94 = .ok (.ireturn, 1) := by decide +kernel
theorem dX6_of_0 : decode cX6_of 0 = .ok (.aload_n 0, 1) := by decide +kernel
theorem dX6_of_1 : decode cX6_of 1 = .ok (.aload_n 0, 1) := by decide +kernel
theorem dX6_of_2 : decode cX6_of 2 = .ok (.iload_n 1, 1) := by decide +kernel
theorem dX6_of_3 : decode cX6_of 3 = .ok (.iload_n 2, 1) := by decide +kernel
theorem dX6_of_4 : decode cX6_of 4 = .ok (.invokevirtual 111, 3) := by decide +kernel
theorem dX6_of_7 : decode cX6_of 7 = .ok (.invokevirtual 114, 3) := by decide +kernel
theorem dX6_of_10 : decode cX6_of 10 = .ok (.ireturn, 1) := by decide +kernel
theorem dX6_on_0 : decode cX6_on 0 = .ok (.iload_n 1, 1) := by decide +kernel
theorem dX6_on_1 : decode cX6_on 1 = .ok (.invokestatic 52, 3) := by decide +kernel
theorem dX6_on_4 : decode cX6_on 4 = .ok (.ifCond .eq 11, 3) := by decide +kernel
theorem dX6_on_7 : decode cX6_on 7 = .ok (.aload_n 0, 1) := by decide +kernel
theorem dX6_on_8 : decode cX6_on 8 = .ok (.iload_n 1, 1) := by decide +kernel
theorem dX6_on_9 : decode cX6_on 9 = .ok (.invokevirtual 63, 3) := by decide +kernel
theorem dX6_on_12 : decode cX6_on 12 = .ok (.goto 9, 3) := by decide +kernel
theorem dX6_on_15 : decode cX6_on 15 = .ok (.aload_n 0, 1) := by decide +kernel
theorem dX6_on_16 : decode cX6_on 16 = .ok (.bipush (-2), 2) := by decide +kernel
theorem dX6_on_18 : decode cX6_on 18 = .ok (.invokevirtual 38, 3) := by decide +kernel
theorem dX6_on_21 : decode cX6_on 21 = .ok (.ireturn, 1) := by decide +kernel
theorem dX6_atSpot_0 : decode cX6_atSpot 0 = .ok (.aload_n 0, 1) := by decide +kernel
theorem dX6_atSpot_1 : decode cX6_atSpot 1 = .ok (.iload_n 1, 1) := by decide +kernel
theorem dX6_atSpot_2 : decode cX6_atSpot 2 = .ok (.invokevirtual 60, 3) := by decide +kernel
theorem dX6_atSpot_5 : decode cX6_atSpot 5 = .ok (.ifCond .eq 34, 3) := by decide +kernel
theorem dX6_atSpot_8 : decode cX6_atSpot 8 = .ok (.iload_n 2, 1) := by decide +kernel
theorem dX6_atSpot_9 : decode cX6_atSpot 9 = .ok (.invokestatic 52, 3) := by decide +kernel
theorem dX6_atSpot_12 : decode cX6_atSpot 12 = .ok (.ifCond .eq 27, 3) := by decide +kernel
theorem dX6_atSpot_15 : decode cX6_atSpot 15 = .ok (.iload_n 3, 1) := by decide +kernel
theorem dX6_atSpot_16 : decode cX6_atSpot 16 = .ok (.iconst 0, 1) := by decide +kernel
theorem dX6_atSpot_17 : decode cX6_atSpot 17 = .ok (.iconst 2, 1) := by decide +kernel
theorem dX6_atSpot_18 : decode cX6_atSpot 18 = .ok (.invokestatic 48, 3) := by decide +kernel
theorem dX6_atSpot_21 : decode cX6_atSpot 21 = .ok (.ifCond .eq 18, 3) := by decide +kernel
theorem dX6_atSpot_24 : decode cX6_atSpot 24 = .ok (.aload_n 0, 1) := by decide +kernel
theorem dX6_atSpot_25 : decode cX6_atSpot 25 = .ok (.getfield 7, 3) := by decide +kernel
theorem dX6_atSpot_28 : decode cX6_atSpot 28 = .ok (.aload_n 0, 1) := by decide +kernel
theorem dX6_atSpot_29 : decode cX6_atSpot 29 = .ok (.iload_n 1, 1) := by decide +kernel
theorem dX6_atSpot_30 : decode cX6_atSpot 30 = .ok (.iload_n 2, 1) := by decide +kernel
theorem dX6_atSpot_31 : decode cX6_atSpot 31 = .ok (.iload_n 3, 1) := by decide +kernel
theorem dX6_atSpot_32 : decode cX6_atSpot 32 = .ok (.invokevirtual 56, 3) := by decide +kernel
theorem dX6_atSpot_35 : decode cX6_atSpot 35 = .ok (.iaload, 1) := by decide +kernel
theorem dX6_atSpot_36 : decode cX6_atSpot 36 = .ok (.goto 5, 3) := by decide +kernel
theorem dX6_atSpot_39 : decode cX6_atSpot 39 = .ok (.bipush (-2), 2) := by decide +kernel
theorem dX6_atSpot_41 : decode cX6_atSpot 41 = .ok (.ireturn, 1) := by decide +kernel
theorem dX6_at_0 : decode cX6_at 0 = .ok (.aload_n 0, 1) := by decide +kernel
theorem dX6_at_1 : decode cX6_at 1 = .ok (.aload_n 0, 1) := by decide +kernel
theorem dX6_at_2 : decode cX6_at 2 = .ok (.iload_n 1, 1) := by decide +kernel
theorem dX6_at_3 : decode cX6_at 3 = .ok (.iload_n 2, 1) := by decide +kernel
theorem dX6_at_4 : decode cX6_at 4 = .ok (.iload_n 3, 1) := by decide +kernel
theorem dX6_at_5 : decode cX6_at 5 = .ok (.invokevirtual 117, 3) := by decide +kernel
theorem dX6_at_8 : decode cX6_at 8 = .ok (.invokevirtual 114, 3) := by decide +kernel
theorem dX6_at_11 : decode cX6_at 11 = .ok (.ireturn, 1) := by decide +kernel
theorem dX6_common_0 : decode cX6_common 0 = .ok (.iload_n 0, 1) := by decide +kernel
theorem dX6_common_1 : decode cX6_common 1 = .ok (.istore_n 2, 1) := by decide +kernel
theorem dX6_common_2 : decode cX6_common 2 = .ok (.iload_n 1, 1) := by decide +kernel
theorem dX6_common_3 : decode cX6_common 3 = .ok (.istore_n 3, 1) := by decide +kernel
theorem dX6_common_4 : decode cX6_common 4 = .ok (.iload_n 3, 1) := by decide +kernel
theorem dX6_common_5 : decode cX6_common 5 = .ok (.ifCond .eq 16, 3) := by decide +kernel
theorem dX6_common_8 : decode cX6_common 8 = .ok (.iload_n 2, 1) := by decide +kernel
theorem dX6_common_9 : decode cX6_common 9 = .ok (.iload_n 3, 1) := by decide +kernel
theorem dX6_common_10 : decode cX6_common 10 = .ok (.irem, 1) := by decide +kernel
theorem dX6_common_11 : decode cX6_common 11 = .ok (.istore 4, 2) := by decide +kernel
theorem dX6_common_13 : decode cX6_common 13 = .ok (.iload_n 3, 1) := by decide +kernel
theorem dX6_common_14 : decode cX6_common 14 = .ok (.istore_n 2, 1) := by decide +kernel
theorem dX6_common_15 : decode cX6_common 15 = .ok (.iload 4, 2) := by decide +kernel
theorem dX6_common_17 : decode cX6_common 17 = .ok (.istore_n 3, 1) := by decide +kernel
theorem dX6_common_18 : decode cX6_common 18 = .ok (.goto (-14), 3) := by decide +kernel
theorem dX6_common_21 : decode cX6_common 21 = .ok (.iload_n 2, 1) := by decide +kernel
theorem dX6_common_22 : decode cX6_common 22 = .ok (.ireturn, 1) := by decide +kernel
theorem dX6_cycle_0 : decode cX6_cycle 0 = .ok (.iconst 0, 1) := by decide +kernel
theorem dX6_cycle_1 : decode cX6_cycle 1 = .ok (.istore_n 3, 1) := by decide +kernel
theorem dX6_cycle_2 : decode cX6_cycle 2 = .ok (.iconst 0, 1) := by decide +kernel
theorem dX6_cycle_3 : decode cX6_cycle 3 = .ok (.istore 4, 2) := by decide +kernel
theorem dX6_cycle_5 : decode cX6_cycle 5 = .ok (.iload_n 2, 1) := by decide +kernel
theorem dX6_cycle_6 : decode cX6_cycle 6 = .ok (.istore 5, 2) := by decide +kernel
theorem dX6_cycle_8 : decode cX6_cycle 8 = .ok (.iload_n 3, 1) := by decide +kernel
theorem dX6_cycle_9 : decode cX6_cycle 9 = .ok (.ifCond .eq 14, 3) := by decide +kernel
theorem dX6_cycle_12 : decode cX6_cycle 12 = .ok (.iload 5, 2) := by decide +kernel
theorem dX6_cycle_14 : decode cX6_cycle 14 = .ok (.iload_n 2, 1) := by decide +kernel
theorem dX6_cycle_15 : decode cX6_cycle 15 = .ok (.if_icmp .ne 8, 3) := by decide +kernel
theorem dX6_cycle_18 : decode cX6_cycle 18 = .ok (.iload 4, 2) := by decide +kernel
theorem dX6_cycle_20 : decode cX6_cycle 20 = .ok (.ifCond .eq 44, 3) := by decide +kernel
theorem dX6_cycle_23 : decode cX6_cycle 23 = .ok (.iload 4, 2) := by decide +kernel
theorem dX6_cycle_25 : decode cX6_cycle 25 = .ok (.aload_n 0, 1) := by decide +kernel
theorem dX6_cycle_26 : decode cX6_cycle 26 = .ok (.getfield 7, 3) := by decide +kernel
theorem dX6_cycle_29 : decode cX6_cycle 29 = .ok (.aload_n 0, 1) := by decide +kernel
theorem dX6_cycle_30 : decode cX6_cycle 30 = .ok (.iload_n 1, 1) := by decide +kernel
theorem dX6_cycle_31 : decode cX6_cycle 31 = .ok (.iload 5, 2) := by decide +kernel
theorem dX6_cycle_33 : decode cX6_cycle 33 = .ok (.iconst 1, 1) := by decide +kernel
theorem dX6_cycle_34 : decode cX6_cycle 34 = .ok (.invokevirtual 56, 3) := by decide +kernel
theorem dX6_cycle_37 : decode cX6_cycle 37 = .ok (.iaload, 1) := by decide +kernel
theorem dX6_cycle_38 : decode cX6_cycle 38 = .ok (.iadd, 1) := by decide +kernel
theorem dX6_cycle_39 : decode cX6_cycle 39 = .ok (.iconst 4, 1) := by decide +kernel
theorem dX6_cycle_40 : decode cX6_cycle 40 = .ok (.irem, 1) := by decide +kernel
theorem dX6_cycle_41 : decode cX6_cycle 41 = .ok (.istore 4, 2) := by decide +kernel
theorem dX6_cycle_43 : decode cX6_cycle 43 = .ok (.aload_n 0, 1) := by decide +kernel
theorem dX6_cycle_44 : decode cX6_cycle 44 = .ok (.getfield 7, 3) := by decide +kernel
theorem dX6_cycle_47 : decode cX6_cycle 47 = .ok (.aload_n 0, 1) := by decide +kernel
theorem dX6_cycle_48 : decode cX6_cycle 48 = .ok (.iload_n 1, 1) := by decide +kernel
theorem dX6_cycle_49 : decode cX6_cycle 49 = .ok (.iload 5, 2) := by decide +kernel
theorem dX6_cycle_51 : decode cX6_cycle 51 = .ok (.iconst 0, 1) := by decide +kernel
theorem dX6_cycle_52 : decode cX6_cycle 52 = .ok (.invokevirtual 56, 3) := by decide +kernel
theorem dX6_cycle_55 : decode cX6_cycle 55 = .ok (.iaload, 1) := by decide +kernel
theorem dX6_cycle_56 : decode cX6_cycle 56 = .ok (.istore 5, 2) := by decide +kernel
theorem dX6_cycle_58 : decode cX6_cycle 58 = .ok (.iinc 3 1, 3) := by decide +kernel
theorem dX6_cycle_61 : decode cX6_cycle 61 = .ok (.goto (-53), 3) := by decide +kernel
theorem dX6_cycle_64 : decode cX6_cycle 64 = .ok (.iload_n 3, 1) := by decide +kernel
theorem dX6_cycle_65 : decode cX6_cycle 65 = .ok (.ireturn, 1) := by decide +kernel
theorem dX6_round_0 : decode cX6_round 0 = .ok (.iconst 1, 1) := by decide +kernel
theorem dX6_round_1 : decode cX6_round 1 = .ok (.istore_n 2, 1) := by decide +kernel
theorem dX6_round_2 : decode cX6_round 2 = .ok (.iconst 0, 1) := by decide +kernel
theorem dX6_round_3 : decode cX6_round 3 = .ok (.istore_n 3, 1) := by decide +kernel
theorem dX6_round_4 : decode cX6_round 4 = .ok (.iload_n 3, 1) := by decide +kernel
theorem dX6_round_5 : decode cX6_round 5 = .ok (.bipush 12, 2) := by decide +kernel
theorem dX6_round_7 : decode cX6_round 7 = .ok (.if_icmp .ge 29, 3) := by decide +kernel
theorem dX6_round_10 : decode cX6_round 10 = .ok (.aload_n 0, 1) := by decide +kernel
theorem dX6_round_11 : decode cX6_round 11 = .ok (.iload_n 1, 1) := by decide +kernel
theorem dX6_round_12 : decode cX6_round 12 = .ok (.iload_n 3, 1) := by decide +kernel
theorem dX6_round_13 : decode cX6_round 13 = .ok (.invokevirtual 120, 3) := by decide +kernel
theorem dX6_round_16 : decode cX6_round 16 = .ok (.istore 4, 2) := by decide +kernel
theorem dX6_round_18 : decode cX6_round 18 = .ok (.iload_n 2, 1) := by decide +kernel
theorem dX6_round_19 : decode cX6_round 19 = .ok (.iload_n 2, 1) := by decide +kernel
theorem dX6_round_20 : decode cX6_round 20 = .ok (.iload 4, 2) := by decide +kernel
theorem dX6_round_22 : decode cX6_round 22 = .ok (.invokestatic 123, 3) := by decide +kernel
theorem dX6_round_25 : decode cX6_round 25 = .ok (.idiv, 1) := by decide +kernel
theorem dX6_round_26 : decode cX6_round 26 = .ok (.iload 4, 2) := by decide +kernel
theorem dX6_round_28 : decode cX6_round 28 = .ok (.imul, 1) := by decide +kernel
theorem dX6_round_29 : decode cX6_round 29 = .ok (.istore_n 2, 1) := by decide +kernel
theorem dX6_round_30 : decode cX6_round 30 = .ok (.iinc 3 1, 3) := by decide +kernel
theorem dX6_round_33 : decode cX6_round 33 = .ok (.goto (-29), 3) := by decide +kernel
theorem dX6_round_36 : decode cX6_round 36 = .ok (.iload_n 2, 1) := by decide +kernel
theorem dX6_round_37 : decode cX6_round 37 = .ok (.ireturn, 1) := by decide +kernel
theorem dX6_ofCall_0 : decode cX6_ofCall 0 = .ok (.aload_n 0, 1) := by decide +kernel
theorem dX6_ofCall_1 : decode cX6_ofCall 1 = .ok (.iload_n 1, 1) := by decide +kernel
theorem dX6_ofCall_2 : decode cX6_ofCall 2 = .ok (.invokevirtual 60, 3) := by decide +kernel
theorem dX6_ofCall_5 : decode cX6_ofCall 5 = .ok (.ifCond .eq 12, 3) := by decide +kernel
theorem dX6_ofCall_8 : decode cX6_ofCall 8 = .ok (.iload_n 2, 1) := by decide +kernel
theorem dX6_ofCall_9 : decode cX6_ofCall 9 = .ok (.iconst 0, 1) := by decide +kernel
theorem dX6_ofCall_10 : decode cX6_ofCall 10 = .ok (.iconst 3, 1) := by decide +kernel
theorem dX6_ofCall_11 : decode cX6_ofCall 11 = .ok (.invokestatic 48, 3) := by decide +kernel
theorem dX6_ofCall_14 : decode cX6_ofCall 14 = .ok (.ifCond .ne 6, 3) := by decide +kernel
theorem dX6_ofCall_17 : decode cX6_ofCall 17 = .ok (.bipush (-2), 2) := by decide +kernel
theorem dX6_ofCall_19 : decode cX6_ofCall 19 = .ok (.ireturn, 1) := by decide +kernel
theorem dX6_ofCall_20 : decode cX6_ofCall 20 = .ok (.iload_n 2, 1) := by decide +kernel
theorem dX6_ofCall_21 : decode cX6_ofCall 21 = .ok (.ifCond .eq 8, 3) := by decide +kernel
theorem dX6_ofCall_24 : decode cX6_ofCall 24 = .ok (.iload_n 2, 1) := by decide +kernel
theorem dX6_ofCall_25 : decode cX6_ofCall 25 = .ok (.iconst 2, 1) := by decide +kernel
theorem dX6_ofCall_26 : decode cX6_ofCall 26 = .ok (.if_icmp .ne 30, 3) := by decide +kernel
theorem dX6_ofCall_29 : decode cX6_ofCall 29 = .ok (.iload_n 2, 1) := by decide +kernel
theorem dX6_ofCall_30 : decode cX6_ofCall 30 = .ok (.iconst 2, 1) := by decide +kernel
theorem dX6_ofCall_31 : decode cX6_ofCall 31 = .ok (.if_icmp .ne 11, 3) := by decide +kernel
theorem dX6_ofCall_34 : decode cX6_ofCall 34 = .ok (.aload_n 0, 1) := by decide +kernel
theorem dX6_ofCall_35 : decode cX6_ofCall 35 = .ok (.iload_n 1, 1) := by decide +kernel
theorem dX6_ofCall_36 : decode cX6_ofCall 36 = .ok (.invokevirtual 126, 3) := by decide +kernel
theorem dX6_ofCall_39 : decode cX6_ofCall 39 = .ok (.goto 16, 3) := by decide +kernel
theorem dX6_ofCall_42 : decode cX6_ofCall 42 = .ok (.aload_n 0, 1) := by decide +kernel
theorem dX6_ofCall_43 : decode cX6_ofCall 43 = .ok (.iload_n 1, 1) := by decide +kernel
theorem dX6_ofCall_44 : decode cX6_ofCall 44 = .ok (.invokevirtual 66, 3) := by decide +kernel
theorem dX6_ofCall_47 : decode cX6_ofCall 47 = .ok (.ifCond .eq 7, 3) := by decide +kernel
theorem dX6_ofCall_50 : decode cX6_ofCall 50 = .ok (.iconst 1, 1) := by decide +kernel
theorem dX6_ofCall_51 : decode cX6_ofCall 51 = .ok (.goto 4, 3) := by decide +kernel
theorem dX6_ofCall_54 : decode cX6_ofCall 54 = .ok (.iconst 0, 1) := by decide +kernel
theorem dX6_ofCall_55 : decode cX6_ofCall 55 = .ok (.ireturn, 1) := by decide +kernel
theorem dX6_ofCall_56 : decode cX6_ofCall 56 = .ok (.iconst 0, 1) := by decide +kernel
theorem dX6_ofCall_57 : decode cX6_ofCall 57 = .ok (.istore_n 3, 1) := by decide +kernel
theorem dX6_ofCall_58 : decode cX6_ofCall 58 = .ok (.iconst 0, 1) := by decide +kernel
theorem dX6_ofCall_59 : decode cX6_ofCall 59 = .ok (.istore 4, 2) := by decide +kernel
theorem dX6_ofCall_61 : decode cX6_ofCall 61 = .ok (.iload 4, 2) := by decide +kernel
theorem dX6_ofCall_63 : decode cX6_ofCall 63 = .ok (.bipush 12, 2) := by decide +kernel
theorem dX6_ofCall_65 : decode cX6_ofCall 65 = .ok (.if_icmp .ge 61, 3) := by decide +kernel
theorem dX6_ofCall_68 : decode cX6_ofCall 68 = .ok (.iload_n 3, 1) := by decide +kernel
theorem dX6_ofCall_69 : decode cX6_ofCall 69 = .ok (.iload_n 2, 1) := by decide +kernel
theorem dX6_ofCall_70 : decode cX6_ofCall 70 = .ok (.iconst 1, 1) := by decide +kernel
theorem dX6_ofCall_71 : decode cX6_ofCall 71 = .ok (.if_icmp .ne 21, 3) := by decide +kernel
theorem dX6_ofCall_74 : decode cX6_ofCall 74 = .ok (.aload_n 0, 1) := by decide +kernel
theorem dX6_ofCall_75 : decode cX6_ofCall 75 = .ok (.getfield 7, 3) := by decide +kernel
theorem dX6_ofCall_78 : decode cX6_ofCall 78 = .ok (.aload_n 0, 1) := by decide +kernel
theorem dX6_ofCall_79 : decode cX6_ofCall 79 = .ok (.iload_n 1, 1) := by decide +kernel
theorem dX6_ofCall_80 : decode cX6_ofCall 80 = .ok (.iload 4, 2) := by decide +kernel
theorem dX6_ofCall_82 : decode cX6_ofCall 82 = .ok (.iconst 0, 1) := by decide +kernel
theorem dX6_ofCall_83 : decode cX6_ofCall 83 = .ok (.invokevirtual 56, 3) := by decide +kernel
theorem dX6_ofCall_86 : decode cX6_ofCall 86 = .ok (.iaload, 1) := by decide +kernel
theorem dX6_ofCall_87 : decode cX6_ofCall 87 = .ok (.iload 4, 2) := by decide +kernel
theorem dX6_ofCall_89 : decode cX6_ofCall 89 = .ok (.if_icmp .ne 24, 3) := by decide +kernel
theorem dX6_ofCall_92 : decode cX6_ofCall 92 = .ok (.iload_n 2, 1) := by decide +kernel
theorem dX6_ofCall_93 : decode cX6_ofCall 93 = .ok (.iconst 3, 1) := by decide +kernel
theorem dX6_ofCall_94 : decode cX6_ofCall 94 = .ok (.if_icmp .ne 23, 3) := by decide +kernel
theorem dX6_ofCall_97 : decode cX6_ofCall 97 = .ok (.aload_n 0, 1) := by decide +kernel
theorem dX6_ofCall_98 : decode cX6_ofCall 98 = .ok (.getfield 7, 3) := by decide +kernel
theorem dX6_ofCall_101 : decode cX6_ofCall 101 = .ok (.aload_n 0, 1) := by decide +kernel
theorem dX6_ofCall_102 : decode cX6_ofCall 102 = .ok (.iload_n 1, 1) := by decide +kernel
theorem dX6_ofCall_103 : decode cX6_ofCall 103 = .ok (.iload 4, 2) := by decide +kernel
theorem dX6_ofCall_105 : decode cX6_ofCall 105 = .ok (.iconst 2, 1) := by decide +kernel
theorem dX6_ofCall_106 : decode cX6_ofCall 106 = .ok (.invokevirtual 56, 3) := by decide +kernel
theorem dX6_ofCall_109 : decode cX6_ofCall 109 = .ok (.iaload, 1) := by decide +kernel
theorem dX6_ofCall_110 : decode cX6_ofCall 110 = .ok (.ifCond .eq 7, 3) := by decide +kernel
theorem dX6_ofCall_113 : decode cX6_ofCall 113 = .ok (.iconst 1, 1) := by decide +kernel
theorem dX6_ofCall_114 : decode cX6_ofCall 114 = .ok (.goto 4, 3) := by decide +kernel
theorem dX6_ofCall_117 : decode cX6_ofCall 117 = .ok (.iconst 0, 1) := by decide +kernel
theorem dX6_ofCall_118 : decode cX6_ofCall 118 = .ok (.iadd, 1) := by decide +kernel
theorem dX6_ofCall_119 : decode cX6_ofCall 119 = .ok (.istore_n 3, 1) := by decide +kernel
theorem dX6_ofCall_120 : decode cX6_ofCall 120 = .ok (.iinc 4 1, 3) := by decide +kernel
theorem dX6_ofCall_123 : decode cX6_ofCall 123 = .ok (.goto (-62), 3) := by decide +kernel
theorem dX6_ofCall_126 : decode cX6_ofCall 126 = .ok (.iload_n 3, 1) := by decide +kernel
theorem dX6_ofCall_127 : decode cX6_ofCall 127 = .ok (.ireturn, 1) := by decide +kernel
theorem dX6_tells_0 : decode cX6_tells 0 = .ok (.aload_n 0, 1) := by decide +kernel
theorem dX6_tells_1 : decode cX6_tells 1 = .ok (.aload_n 0, 1) := by decide +kernel
theorem dX6_tells_2 : decode cX6_tells 2 = .ok (.iload_n 1, 1) := by decide +kernel
theorem dX6_tells_3 : decode cX6_tells 3 = .ok (.iload_n 2, 1) := by decide +kernel
theorem dX6_tells_4 : decode cX6_tells 4 = .ok (.invokevirtual 129, 3) := by decide +kernel
theorem dX6_tells_7 : decode cX6_tells 7 = .ok (.invokevirtual 114, 3) := by decide +kernel
theorem dX6_tells_10 : decode cX6_tells 10 = .ok (.ireturn, 1) := by decide +kernel
theorem dX6_isGoal_0 : decode cX6_isGoal 0 = .ok (.iload_n 1, 1) := by decide +kernel
theorem dX6_isGoal_1 : decode cX6_isGoal 1 = .ok (.iconst 1, 1) := by decide +kernel
theorem dX6_isGoal_2 : decode cX6_isGoal 2 = .ok (.if_icmp .eq 16, 3) := by decide +kernel
theorem dX6_isGoal_5 : decode cX6_isGoal 5 = .ok (.aload_n 0, 1) := by decide +kernel
theorem dX6_isGoal_6 : decode cX6_isGoal 6 = .ok (.invokevirtual 93, 3) := by decide +kernel
theorem dX6_isGoal_9 : decode cX6_isGoal 9 = .ok (.aload_n 0, 1) := by decide +kernel
theorem dX6_isGoal_10 : decode cX6_isGoal 10 = .ok (.getfield 7, 3) := by decide +kernel
theorem dX6_isGoal_13 : decode cX6_isGoal 13 = .ok (.iconst 0, 1) := by decide +kernel
theorem dX6_isGoal_14 : decode cX6_isGoal 14 = .ok (.iaload, 1) := by decide +kernel
theorem dX6_isGoal_15 : decode cX6_isGoal 15 = .ok (.if_icmp .ne 26, 3) := by decide +kernel
theorem dX6_isGoal_18 : decode cX6_isGoal 18 = .ok (.iload_n 1, 1) := by decide +kernel
theorem dX6_isGoal_19 : decode cX6_isGoal 19 = .ok (.ifCond .eq 18, 3) := by decide +kernel
theorem dX6_isGoal_22 : decode cX6_isGoal 22 = .ok (.aload_n 0, 1) := by decide +kernel
theorem dX6_isGoal_23 : decode cX6_isGoal 23 = .ok (.invokevirtual 132, 3) := by decide +kernel
theorem dX6_isGoal_26 : decode cX6_isGoal 26 = .ok (.aload_n 0, 1) := by decide +kernel
theorem dX6_isGoal_27 : decode cX6_isGoal 27 = .ok (.getfield 7, 3) := by decide +kernel
theorem dX6_isGoal_30 : decode cX6_isGoal 30 = .ok (.iconst 0, 1) := by decide +kernel
theorem dX6_isGoal_31 : decode cX6_isGoal 31 = .ok (.iaload, 1) := by decide +kernel
theorem dX6_isGoal_32 : decode cX6_isGoal 32 = .ok (.iconst 2, 1) := by decide +kernel
theorem dX6_isGoal_33 : decode cX6_isGoal 33 = .ok (.idiv, 1) := by decide +kernel
theorem dX6_isGoal_34 : decode cX6_isGoal 34 = .ok (.if_icmp .ne 7, 3) := by decide +kernel
theorem dX6_isGoal_37 : decode cX6_isGoal 37 = .ok (.iconst 1, 1) := by decide +kernel
theorem dX6_isGoal_38 : decode cX6_isGoal 38 = .ok (.goto 4, 3) := by decide +kernel
theorem dX6_isGoal_41 : decode cX6_isGoal 41 = .ok (.iconst 0, 1) := by decide +kernel
theorem dX6_isGoal_42 : decode cX6_isGoal 42 = .ok (.ireturn, 1) := by decide +kernel
theorem dX6_holds_0 : decode cX6_holds 0 = .ok (.iconst 0, 1) := by decide +kernel
theorem dX6_holds_1 : decode cX6_holds 1 = .ok (.istore_n 2, 1) := by decide +kernel
theorem dX6_holds_2 : decode cX6_holds 2 = .ok (.iload_n 2, 1) := by decide +kernel
theorem dX6_holds_3 : decode cX6_holds 3 = .ok (.bipush 8, 2) := by decide +kernel
theorem dX6_holds_5 : decode cX6_holds 5 = .ok (.if_icmp .ge 57, 3) := by decide +kernel
theorem dX6_holds_8 : decode cX6_holds 8 = .ok (.aload_n 0, 1) := by decide +kernel
theorem dX6_holds_9 : decode cX6_holds 9 = .ok (.getfield 25, 3) := by decide +kernel
theorem dX6_holds_12 : decode cX6_holds 12 = .ok (.bipush 16, 2) := by decide +kernel
theorem dX6_holds_14 : decode cX6_holds 14 = .ok (.iload_n 1, 1) := by decide +kernel
theorem dX6_holds_15 : decode cX6_holds 15 = .ok (.imul, 1) := by decide +kernel
theorem dX6_holds_16 : decode cX6_holds 16 = .ok (.iconst 2, 1) := by decide +kernel
theorem dX6_holds_17 : decode cX6_holds 17 = .ok (.iload_n 2, 1) := by decide +kernel
theorem dX6_holds_18 : decode cX6_holds 18 = .ok (.imul, 1) := by decide +kernel
theorem dX6_holds_19 : decode cX6_holds 19 = .ok (.iadd, 1) := by decide +kernel
theorem dX6_holds_20 : decode cX6_holds 20 = .ok (.aload_n 0, 1) := by decide +kernel
theorem dX6_holds_21 : decode cX6_holds 21 = .ok (.getfield 7, 3) := by decide +kernel
theorem dX6_holds_24 : decode cX6_holds 24 = .ok (.iconst 4, 1) := by decide +kernel
theorem dX6_holds_25 : decode cX6_holds 25 = .ok (.iconst 4, 1) := by decide +kernel
theorem dX6_holds_26 : decode cX6_holds 26 = .ok (.iload_n 2, 1) := by decide +kernel
theorem dX6_holds_27 : decode cX6_holds 27 = .ok (.imul, 1) := by decide +kernel
theorem dX6_holds_28 : decode cX6_holds 28 = .ok (.iadd, 1) := by decide +kernel
theorem dX6_holds_29 : decode cX6_holds 29 = .ok (.iaload, 1) := by decide +kernel
theorem dX6_holds_30 : decode cX6_holds 30 = .ok (.iastore, 1) := by decide +kernel
theorem dX6_holds_31 : decode cX6_holds 31 = .ok (.aload_n 0, 1) := by decide +kernel
theorem dX6_holds_32 : decode cX6_holds 32 = .ok (.getfield 25, 3) := by decide +kernel
theorem dX6_holds_35 : decode cX6_holds 35 = .ok (.bipush 16, 2) := by decide +kernel
theorem dX6_holds_37 : decode cX6_holds 37 = .ok (.iload_n 1, 1) := by decide +kernel
theorem dX6_holds_38 : decode cX6_holds 38 = .ok (.imul, 1) := by decide +kernel
theorem dX6_holds_39 : decode cX6_holds 39 = .ok (.iconst 2, 1) := by decide +kernel
theorem dX6_holds_40 : decode cX6_holds 40 = .ok (.iload_n 2, 1) := by decide +kernel
theorem dX6_holds_41 : decode cX6_holds 41 = .ok (.imul, 1) := by decide +kernel
theorem dX6_holds_42 : decode cX6_holds 42 = .ok (.iadd, 1) := by decide +kernel
theorem dX6_holds_43 : decode cX6_holds 43 = .ok (.iconst 1, 1) := by decide +kernel
theorem dX6_holds_44 : decode cX6_holds 44 = .ok (.iadd, 1) := by decide +kernel
theorem dX6_holds_45 : decode cX6_holds 45 = .ok (.aload_n 0, 1) := by decide +kernel
theorem dX6_holds_46 : decode cX6_holds 46 = .ok (.getfield 7, 3) := by decide +kernel
theorem dX6_holds_49 : decode cX6_holds 49 = .ok (.iconst 5, 1) := by decide +kernel
theorem dX6_holds_50 : decode cX6_holds 50 = .ok (.iconst 4, 1) := by decide +kernel
theorem dX6_holds_51 : decode cX6_holds 51 = .ok (.iload_n 2, 1) := by decide +kernel
theorem dX6_holds_52 : decode cX6_holds 52 = .ok (.imul, 1) := by decide +kernel
theorem dX6_holds_53 : decode cX6_holds 53 = .ok (.iadd, 1) := by decide +kernel
theorem dX6_holds_54 : decode cX6_holds 54 = .ok (.iaload, 1) := by decide +kernel
theorem dX6_holds_55 : decode cX6_holds 55 = .ok (.iastore, 1) := by decide +kernel
theorem dX6_holds_56 : decode cX6_holds 56 = .ok (.iinc 2 1, 3) := by decide +kernel
theorem dX6_holds_59 : decode cX6_holds 59 = .ok (.goto (-57), 3) := by decide +kernel
theorem dX6_holds_62 : decode cX6_holds 62 = .ok (.return_, 1) := by decide +kernel
theorem dX6_returns_0 : decode cX6_returns 0 = .ok (.iconst 0, 1) := by decide +kernel
theorem dX6_returns_1 : decode cX6_returns 1 = .ok (.istore_n 2, 1) := by decide +kernel
theorem dX6_returns_2 : decode cX6_returns 2 = .ok (.iload_n 2, 1) := by decide +kernel
theorem dX6_returns_3 : decode cX6_returns 3 = .ok (.bipush 8, 2) := by decide +kernel
theorem dX6_returns_5 : decode cX6_returns 5 = .ok (.if_icmp .ge 57, 3) := by decide +kernel
theorem dX6_returns_8 : decode cX6_returns 8 = .ok (.aload_n 0, 1) := by decide +kernel
theorem dX6_returns_9 : decode cX6_returns 9 = .ok (.getfield 7, 3) := by decide +kernel
theorem dX6_returns_12 : decode cX6_returns 12 = .ok (.iconst 4, 1) := by decide +kernel
theorem dX6_returns_13 : decode cX6_returns 13 = .ok (.iconst 4, 1) := by decide +kernel
theorem dX6_returns_14 : decode cX6_returns 14 = .ok (.iload_n 2, 1) := by decide +kernel
theorem dX6_returns_15 : decode cX6_returns 15 = .ok (.imul, 1) := by decide +kernel
theorem dX6_returns_16 : decode cX6_returns 16 = .ok (.iadd, 1) := by decide +kernel
theorem dX6_returns_17 : decode cX6_returns 17 = .ok (.aload_n 0, 1) := by decide +kernel
theorem dX6_returns_18 : decode cX6_returns 18 = .ok (.getfield 25, 3) := by decide +kernel
theorem dX6_returns_21 : decode cX6_returns 21 = .ok (.bipush 16, 2) := by decide +kernel
theorem dX6_returns_23 : decode cX6_returns 23 = .ok (.iload_n 1, 1) := by decide +kernel
theorem dX6_returns_24 : decode cX6_returns 24 = .ok (.imul, 1) := by decide +kernel
theorem dX6_returns_25 : decode cX6_returns 25 = .ok (.iconst 2, 1) := by decide +kernel
theorem dX6_returns_26 : decode cX6_returns 26 = .ok (.iload_n 2, 1) := by decide +kernel
theorem dX6_returns_27 : decode cX6_returns 27 = .ok (.imul, 1) := by decide +kernel
theorem dX6_returns_28 : decode cX6_returns 28 = .ok (.iadd, 1) := by decide +kernel
theorem dX6_returns_29 : decode cX6_returns 29 = .ok (.iaload, 1) := by decide +kernel
theorem dX6_returns_30 : decode cX6_returns 30 = .ok (.iastore, 1) := by decide +kernel
theorem dX6_returns_31 : decode cX6_returns 31 = .ok (.aload_n 0, 1) := by decide +kernel
theorem dX6_returns_32 : decode cX6_returns 32 = .ok (.getfield 7, 3) := by decide +kernel
theorem dX6_returns_35 : decode cX6_returns 35 = .ok (.iconst 5, 1) := by decide +kernel
theorem dX6_returns_36 : decode cX6_returns 36 = .ok (.iconst 4, 1) := by decide +kernel
theorem dX6_returns_37 : decode cX6_returns 37 = .ok (.iload_n 2, 1) := by decide +kernel
theorem dX6_returns_38 : decode cX6_returns 38 = .ok (.imul, 1) := by decide +kernel
theorem dX6_returns_39 : decode cX6_returns 39 = .ok (.iadd, 1) := by decide +kernel
theorem dX6_returns_40 : decode cX6_returns 40 = .ok (.aload_n 0, 1) := by decide +kernel
theorem dX6_returns_41 : decode cX6_returns 41 = .ok (.getfield 25, 3) := by decide +kernel
theorem dX6_returns_44 : decode cX6_returns 44 = .ok (.bipush 16, 2) := by decide +kernel
theorem dX6_returns_46 : decode cX6_returns 46 = .ok (.iload_n 1, 1) := by decide +kernel
theorem dX6_returns_47 : decode cX6_returns 47 = .ok (.imul, 1) := by decide +kernel
theorem dX6_returns_48 : decode cX6_returns 48 = .ok (.iconst 2, 1) := by decide +kernel
theorem dX6_returns_49 : decode cX6_returns 49 = .ok (.iload_n 2, 1) := by decide +kernel
theorem dX6_returns_50 : decode cX6_returns 50 = .ok (.imul, 1) := by decide +kernel
theorem dX6_returns_51 : decode cX6_returns 51 = .ok (.iadd, 1) := by decide +kernel
theorem dX6_returns_52 : decode cX6_returns 52 = .ok (.iconst 1, 1) := by decide +kernel
theorem dX6_returns_53 : decode cX6_returns 53 = .ok (.iadd, 1) := by decide +kernel
theorem dX6_returns_54 : decode cX6_returns 54 = .ok (.iaload, 1) := by decide +kernel
theorem dX6_returns_55 : decode cX6_returns 55 = .ok (.iastore, 1) := by decide +kernel
theorem dX6_returns_56 : decode cX6_returns 56 = .ok (.iinc 2 1, 3) := by decide +kernel
theorem dX6_returns_59 : decode cX6_returns 59 = .ok (.goto (-57), 3) := by decide +kernel
theorem dX6_returns_62 : decode cX6_returns 62 = .ok (.return_, 1) := by decide +kernel
theorem dX6_isVaried_0 : decode cX6_isVaried 0 = .ok (.iconst 0, 1) := by decide +kernel
theorem dX6_isVaried_1 : decode cX6_isVaried 1 = .ok (.istore 4, 2) := by decide +kernel
theorem dX6_isVaried_3 : decode cX6_isVaried 3 = .ok (.iconst 0, 1) := by decide +kernel
theorem dX6_isVaried_4 : decode cX6_isVaried 4 = .ok (.istore 5, 2) := by decide +kernel
theorem dX6_isVaried_6 : decode cX6_isVaried 6 = .ok (.iload 5, 2) := by decide +kernel
theorem dX6_isVaried_8 : decode cX6_isVaried 8 = .ok (.iload_n 1, 1) := by decide +kernel
theorem dX6_isVaried_9 : decode cX6_isVaried 9 = .ok (.if_icmp .ge 30, 3) := by decide +kernel
theorem dX6_isVaried_12 : decode cX6_isVaried 12 = .ok (.iload 4, 2) := by decide +kernel
theorem dX6_isVaried_14 : decode cX6_isVaried 14 = .ok (.aload_n 0, 1) := by decide +kernel
theorem dX6_isVaried_15 : decode cX6_isVaried 15 = .ok (.getfield 28, 3) := by decide +kernel
theorem dX6_isVaried_18 : decode cX6_isVaried 18 = .ok (.iload 5, 2) := by decide +kernel
theorem dX6_isVaried_20 : decode cX6_isVaried 20 = .ok (.iaload, 1) := by decide +kernel
theorem dX6_isVaried_21 : decode cX6_isVaried 21 = .ok (.iload_n 2, 1) := by decide +kernel
theorem dX6_isVaried_22 : decode cX6_isVaried 22 = .ok (.if_icmp .ne 7, 3) := by decide +kernel
theorem dX6_isVaried_25 : decode cX6_isVaried 25 = .ok (.iconst 1, 1) := by decide +kernel
theorem dX6_isVaried_26 : decode cX6_isVaried 26 = .ok (.goto 4, 3) := by decide +kernel
theorem dX6_isVaried_29 : decode cX6_isVaried 29 = .ok (.iconst 0, 1) := by decide +kernel
theorem dX6_isVaried_30 : decode cX6_isVaried 30 = .ok (.iadd, 1) := by decide +kernel
theorem dX6_isVaried_31 : decode cX6_isVaried 31 = .ok (.istore 4, 2) := by decide +kernel
theorem dX6_isVaried_33 : decode cX6_isVaried 33 = .ok (.iinc 5 1, 3) := by decide +kernel
theorem dX6_isVaried_36 : decode cX6_isVaried 36 = .ok (.goto (-30), 3) := by decide +kernel
theorem dX6_isVaried_39 : decode cX6_isVaried 39 = .ok (.iload 4, 2) := by decide +kernel
theorem dX6_isVaried_41 : decode cX6_isVaried 41 = .ok (.iload_n 3, 1) := by decide +kernel
theorem dX6_isVaried_42 : decode cX6_isVaried 42 = .ok (.if_icmp .ge 23, 3) := by decide +kernel
theorem dX6_isVaried_45 : decode cX6_isVaried 45 = .ok (.iload_n 1, 1) := by decide +kernel
theorem dX6_isVaried_46 : decode cX6_isVaried 46 = .ok (.ifCond .eq 15, 3) := by decide +kernel
theorem dX6_isVaried_49 : decode cX6_isVaried 49 = .ok (.aload_n 0, 1) := by decide +kernel
theorem dX6_isVaried_50 : decode cX6_isVaried 50 = .ok (.getfield 28, 3) := by decide +kernel
theorem dX6_isVaried_53 : decode cX6_isVaried 53 = .ok (.iload_n 1, 1) := by decide +kernel
theorem dX6_isVaried_54 : decode cX6_isVaried 54 = .ok (.iconst 1, 1) := by decide +kernel
theorem dX6_isVaried_55 : decode cX6_isVaried 55 = .ok (.isub, 1) := by decide +kernel
theorem dX6_isVaried_56 : decode cX6_isVaried 56 = .ok (.iaload, 1) := by decide +kernel
theorem dX6_isVaried_57 : decode cX6_isVaried 57 = .ok (.iload_n 2, 1) := by decide +kernel
theorem dX6_isVaried_58 : decode cX6_isVaried 58 = .ok (.if_icmp .eq 7, 3) := by decide +kernel
theorem dX6_isVaried_61 : decode cX6_isVaried 61 = .ok (.iconst 1, 1) := by decide +kernel
theorem dX6_isVaried_62 : decode cX6_isVaried 62 = .ok (.goto 4, 3) := by decide +kernel
theorem dX6_isVaried_65 : decode cX6_isVaried 65 = .ok (.iconst 0, 1) := by decide +kernel
theorem dX6_isVaried_66 : decode cX6_isVaried 66 = .ok (.ireturn, 1) := by decide +kernel
theorem dX6_search_0 : decode cX6_search 0 = .ok (.iload_n 1, 1) := by decide +kernel
theorem dX6_search_1 : decode cX6_search 1 = .ok (.ifCond .ne 17, 3) := by decide +kernel
theorem dX6_search_4 : decode cX6_search 4 = .ok (.aload_n 0, 1) := by decide +kernel
theorem dX6_search_5 : decode cX6_search 5 = .ok (.iload_n 2, 1) := by decide +kernel
theorem dX6_search_6 : decode cX6_search 6 = .ok (.invokevirtual 135, 3) := by decide +kernel
theorem dX6_search_9 : decode cX6_search 9 = .ok (.ifCond .eq 7, 3) := by decide +kernel
theorem dX6_search_12 : decode cX6_search 12 = .ok (.iconst 1, 1) := by decide +kernel
theorem dX6_search_13 : decode cX6_search 13 = .ok (.goto 4, 3) := by decide +kernel
theorem dX6_search_16 : decode cX6_search 16 = .ok (.iconst 0, 1) := by decide +kernel
theorem dX6_search_17 : decode cX6_search 17 = .ok (.ireturn, 1) := by decide +kernel
theorem dX6_search_18 : decode cX6_search 18 = .ok (.iconst 0, 1) := by decide +kernel
theorem dX6_search_19 : decode cX6_search 19 = .ok (.istore 4, 2) := by decide +kernel
theorem dX6_search_21 : decode cX6_search 21 = .ok (.iconst 0, 1) := by decide +kernel
theorem dX6_search_22 : decode cX6_search 22 = .ok (.istore 5, 2) := by decide +kernel
theorem dX6_search_24 : decode cX6_search 24 = .ok (.aload_n 0, 1) := by decide +kernel
theorem dX6_search_25 : decode cX6_search 25 = .ok (.iconst 0, 1) := by decide +kernel
theorem dX6_search_26 : decode cX6_search 26 = .ok (.invokevirtual 138, 3) := by decide +kernel
theorem dX6_search_29 : decode cX6_search 29 = .ok (.aload_n 0, 1) := by decide +kernel
theorem dX6_search_30 : decode cX6_search 30 = .ok (.getfield 28, 3) := by decide +kernel
theorem dX6_search_33 : decode cX6_search 33 = .ok (.iconst 0, 1) := by decide +kernel
theorem dX6_search_34 : decode cX6_search 34 = .ok (.iconst (-1), 1) := by decide +kernel
theorem dX6_search_35 : decode cX6_search 35 = .ok (.iastore, 1) := by decide +kernel
theorem dX6_search_36 : decode cX6_search 36 = .ok (.iload 5, 2) := by decide +kernel
theorem dX6_search_38 : decode cX6_search 38 = .ok (.ifCond .lt 136, 3) := by decide +kernel
theorem dX6_search_41 : decode cX6_search 41 = .ok (.iload_n 3, 1) := by decide +kernel
theorem dX6_search_42 : decode cX6_search 42 = .ok (.ifCond .eq 8, 3) := by decide +kernel
theorem dX6_search_45 : decode cX6_search 45 = .ok (.iload 4, 2) := by decide +kernel
theorem dX6_search_47 : decode cX6_search 47 = .ok (.ifCond .ne 127, 3) := by decide +kernel
theorem dX6_search_50 : decode cX6_search 50 = .ok (.aload_n 0, 1) := by decide +kernel
theorem dX6_search_51 : decode cX6_search 51 = .ok (.iload 5, 2) := by decide +kernel
theorem dX6_search_53 : decode cX6_search 53 = .ok (.invokevirtual 142, 3) := by decide +kernel
theorem dX6_search_56 : decode cX6_search 56 = .ok (.aload_n 0, 1) := by decide +kernel
theorem dX6_search_57 : decode cX6_search 57 = .ok (.getfield 28, 3) := by decide +kernel
theorem dX6_search_60 : decode cX6_search 60 = .ok (.iload 5, 2) := by decide +kernel
theorem dX6_search_62 : decode cX6_search 62 = .ok (.dup2, 1) := by decide +kernel
theorem dX6_search_63 : decode cX6_search 63 = .ok (.iaload, 1) := by decide +kernel
theorem dX6_search_64 : decode cX6_search 64 = .ok (.iconst 1, 1) := by decide +kernel
theorem dX6_search_65 : decode cX6_search 65 = .ok (.iadd, 1) := by decide +kernel
theorem dX6_search_66 : decode cX6_search 66 = .ok (.iastore, 1) := by decide +kernel
theorem dX6_search_67 : decode cX6_search 67 = .ok (.aload_n 0, 1) := by decide +kernel
theorem dX6_search_68 : decode cX6_search 68 = .ok (.getfield 28, 3) := by decide +kernel
theorem dX6_search_71 : decode cX6_search 71 = .ok (.iload 5, 2) := by decide +kernel
theorem dX6_search_73 : decode cX6_search 73 = .ok (.iaload, 1) := by decide +kernel
theorem dX6_search_74 : decode cX6_search 74 = .ok (.istore 6, 2) := by decide +kernel
theorem dX6_search_76 : decode cX6_search 76 = .ok (.iload 6, 2) := by decide +kernel
theorem dX6_search_78 : decode cX6_search 78 = .ok (.aload_n 0, 1) := by decide +kernel
theorem dX6_search_79 : decode cX6_search 79 = .ok (.getfield 7, 3) := by decide +kernel
theorem dX6_search_82 : decode cX6_search 82 = .ok (.iconst 1, 1) := by decide +kernel
theorem dX6_search_83 : decode cX6_search 83 = .ok (.iaload, 1) := by decide +kernel
theorem dX6_search_84 : decode cX6_search 84 = .ok (.if_icmp .ne 9, 3) := by decide +kernel
theorem dX6_search_87 : decode cX6_search 87 = .ok (.iinc 5 (-1), 3) := by decide +kernel
theorem dX6_search_90 : decode cX6_search 90 = .ok (.goto 81, 3) := by decide +kernel
theorem dX6_search_93 : decode cX6_search 93 = .ok (.iload_n 3, 1) := by decide +kernel
theorem dX6_search_94 : decode cX6_search 94 = .ok (.ifCond .eq 15, 3) := by decide +kernel
theorem dX6_search_97 : decode cX6_search 97 = .ok (.aload_n 0, 1) := by decide +kernel
theorem dX6_search_98 : decode cX6_search 98 = .ok (.iload 5, 2) := by decide +kernel
theorem dX6_search_100 : decode cX6_search 100 = .ok (.iload 6, 2) := by decide +kernel
theorem dX6_search_102 : decode cX6_search 102 = .ok (.iload_n 3, 1) := by decide +kernel
theorem dX6_search_103 : decode cX6_search 103 = .ok (.invokevirtual 145, 3) := by decide +kernel
theorem dX6_search_106 : decode cX6_search 106 = .ok (.ifCond .eq 65, 3) := by decide +kernel
theorem dX6_search_109 : decode cX6_search 109 = .ok (.aload_n 0, 1) := by decide +kernel
theorem dX6_search_110 : decode cX6_search 110 = .ok (.iload 6, 2) := by decide +kernel
theorem dX6_search_112 : decode cX6_search 112 = .ok (.invokevirtual 66, 3) := by decide +kernel
theorem dX6_search_115 : decode cX6_search 115 = .ok (.ifCond .eq 56, 3) := by decide +kernel
theorem dX6_search_118 : decode cX6_search 118 = .ok (.aload_n 0, 1) := by decide +kernel
theorem dX6_search_119 : decode cX6_search 119 = .ok (.iload 6, 2) := by decide +kernel
theorem dX6_search_121 : decode cX6_search 121 = .ok (.invokevirtual 69, 3) := by decide +kernel
theorem dX6_search_124 : decode cX6_search 124 = .ok (.pop, 1) := by decide +kernel
theorem dX6_search_125 : decode cX6_search 125 = .ok (.iload 5, 2) := by decide +kernel
theorem dX6_search_127 : decode cX6_search 127 = .ok (.iconst 1, 1) := by decide +kernel
theorem dX6_search_128 : decode cX6_search 128 = .ok (.iadd, 1) := by decide +kernel
theorem dX6_search_129 : decode cX6_search 129 = .ok (.iload_n 1, 1) := by decide +kernel
theorem dX6_search_130 : decode cX6_search 130 = .ok (.if_icmp .ge 23, 3) := by decide +kernel
theorem dX6_search_133 : decode cX6_search 133 = .ok (.iinc 5 1, 3) := by decide +kernel
theorem dX6_search_136 : decode cX6_search 136 = .ok (.aload_n 0, 1) := by decide +kernel
theorem dX6_search_137 : decode cX6_search 137 = .ok (.iload 5, 2) := by decide +kernel
theorem dX6_search_139 : decode cX6_search 139 = .ok (.invokevirtual 138, 3) := by decide +kernel
theorem dX6_search_142 : decode cX6_search 142 = .ok (.aload_n 0, 1) := by decide +kernel
theorem dX6_search_143 : decode cX6_search 143 = .ok (.getfield 28, 3) := by decide +kernel
theorem dX6_search_146 : decode cX6_search 146 = .ok (.iload 5, 2) := by decide +kernel
theorem dX6_search_148 : decode cX6_search 148 = .ok (.iconst (-1), 1) := by decide +kernel
theorem dX6_search_149 : decode cX6_search 149 = .ok (.iastore, 1) := by decide +kernel
theorem dX6_search_150 : decode cX6_search 150 = .ok (.goto 21, 3) := by decide +kernel
theorem dX6_search_153 : decode cX6_search 153 = .ok (.iload 4, 2) := by decide +kernel
theorem dX6_search_155 : decode cX6_search 155 = .ok (.aload_n 0, 1) := by decide +kernel
theorem dX6_search_156 : decode cX6_search 156 = .ok (.iload_n 2, 1) := by decide +kernel
theorem dX6_search_157 : decode cX6_search 157 = .ok (.invokevirtual 135, 3) := by decide +kernel
theorem dX6_search_160 : decode cX6_search 160 = .ok (.ifCond .eq 7, 3) := by decide +kernel
theorem dX6_search_163 : decode cX6_search 163 = .ok (.iconst 1, 1) := by decide +kernel
theorem dX6_search_164 : decode cX6_search 164 = .ok (.goto 4, 3) := by decide +kernel
theorem dX6_search_167 : decode cX6_search 167 = .ok (.iconst 0, 1) := by decide +kernel
theorem dX6_search_168 : decode cX6_search 168 = .ok (.iadd, 1) := by decide +kernel
theorem dX6_search_169 : decode cX6_search 169 = .ok (.istore 4, 2) := by decide +kernel
theorem dX6_search_171 : decode cX6_search 171 = .ok (.goto (-135), 3) := by decide +kernel
theorem dX6_search_174 : decode cX6_search 174 = .ok (.aload_n 0, 1) := by decide +kernel
theorem dX6_search_175 : decode cX6_search 175 = .ok (.iconst 0, 1) := by decide +kernel
theorem dX6_search_176 : decode cX6_search 176 = .ok (.invokevirtual 142, 3) := by decide +kernel
theorem dX6_search_179 : decode cX6_search 179 = .ok (.iload 4, 2) := by decide +kernel
theorem dX6_search_181 : decode cX6_search 181 = .ok (.ireturn, 1) := by decide +kernel
theorem dX6_fewest_0 : decode cX6_fewest 0 = .ok (.iload_n 1, 1) := by decide +kernel
theorem dX6_fewest_1 : decode cX6_fewest 1 = .ok (.iconst 0, 1) := by decide +kernel
theorem dX6_fewest_2 : decode cX6_fewest 2 = .ok (.iconst 2, 1) := by decide +kernel
theorem dX6_fewest_3 : decode cX6_fewest 3 = .ok (.invokestatic 48, 3) := by decide +kernel
theorem dX6_fewest_6 : decode cX6_fewest 6 = .ok (.ifCond .eq 21, 3) := by decide +kernel
theorem dX6_fewest_9 : decode cX6_fewest 9 = .ok (.iload_n 2, 1) := by decide +kernel
theorem dX6_fewest_10 : decode cX6_fewest 10 = .ok (.iconst 0, 1) := by decide +kernel
theorem dX6_fewest_11 : decode cX6_fewest 11 = .ok (.iconst 5, 1) := by decide +kernel
theorem dX6_fewest_12 : decode cX6_fewest 12 = .ok (.invokestatic 48, 3) := by decide +kernel
theorem dX6_fewest_15 : decode cX6_fewest 15 = .ok (.ifCond .eq 12, 3) := by decide +kernel
theorem dX6_fewest_18 : decode cX6_fewest 18 = .ok (.iload_n 3, 1) := by decide +kernel
theorem dX6_fewest_19 : decode cX6_fewest 19 = .ok (.iconst 1, 1) := by decide +kernel
theorem dX6_fewest_20 : decode cX6_fewest 20 = .ok (.iconst 5, 1) := by decide +kernel
theorem dX6_fewest_21 : decode cX6_fewest 21 = .ok (.invokestatic 48, 3) := by decide +kernel
theorem dX6_fewest_24 : decode cX6_fewest 24 = .ok (.ifCond .ne 6, 3) := by decide +kernel
theorem dX6_fewest_27 : decode cX6_fewest 27 = .ok (.bipush (-2), 2) := by decide +kernel
theorem dX6_fewest_29 : decode cX6_fewest 29 = .ok (.ireturn, 1) := by decide +kernel
theorem dX6_fewest_30 : decode cX6_fewest 30 = .ok (.iconst 0, 1) := by decide +kernel
theorem dX6_fewest_31 : decode cX6_fewest 31 = .ok (.istore 4, 2) := by decide +kernel
theorem dX6_fewest_33 : decode cX6_fewest 33 = .ok (.iload 4, 2) := by decide +kernel
theorem dX6_fewest_35 : decode cX6_fewest 35 = .ok (.iload_n 2, 1) := by decide +kernel
theorem dX6_fewest_36 : decode cX6_fewest 36 = .ok (.if_icmp .gt 23, 3) := by decide +kernel
theorem dX6_fewest_39 : decode cX6_fewest 39 = .ok (.aload_n 0, 1) := by decide +kernel
theorem dX6_fewest_40 : decode cX6_fewest 40 = .ok (.iload 4, 2) := by decide +kernel
theorem dX6_fewest_42 : decode cX6_fewest 42 = .ok (.iload_n 1, 1) := by decide +kernel
theorem dX6_fewest_43 : decode cX6_fewest 43 = .ok (.iload_n 3, 1) := by decide +kernel
theorem dX6_fewest_44 : decode cX6_fewest 44 = .ok (.invokevirtual 148, 3) := by decide +kernel
theorem dX6_fewest_47 : decode cX6_fewest 47 = .ok (.ifCond .le 6, 3) := by decide +kernel
theorem dX6_fewest_50 : decode cX6_fewest 50 = .ok (.iload 4, 2) := by decide +kernel
theorem dX6_fewest_52 : decode cX6_fewest 52 = .ok (.ireturn, 1) := by decide +kernel
theorem dX6_fewest_53 : decode cX6_fewest 53 = .ok (.iinc 4 1, 3) := by decide +kernel
theorem dX6_fewest_56 : decode cX6_fewest 56 = .ok (.goto (-23), 3) := by decide +kernel
theorem dX6_fewest_59 : decode cX6_fewest 59 = .ok (.iconst (-1), 1) := by decide +kernel
theorem dX6_fewest_60 : decode cX6_fewest 60 = .ok (.ireturn, 1) := by decide +kernel
theorem dX6_finds_0 : decode cX6_finds 0 = .ok (.aload_n 0, 1) := by decide +kernel
theorem dX6_finds_1 : decode cX6_finds 1 = .ok (.aload_n 0, 1) := by decide +kernel
theorem dX6_finds_2 : decode cX6_finds 2 = .ok (.iload_n 1, 1) := by decide +kernel
theorem dX6_finds_3 : decode cX6_finds 3 = .ok (.iload_n 2, 1) := by decide +kernel
theorem dX6_finds_4 : decode cX6_finds 4 = .ok (.iload_n 3, 1) := by decide +kernel
theorem dX6_finds_5 : decode cX6_finds 5 = .ok (.invokevirtual 151, 3) := by decide +kernel
theorem dX6_finds_8 : decode cX6_finds 8 = .ok (.invokevirtual 114, 3) := by decide +kernel
theorem dX6_finds_11 : decode cX6_finds 11 = .ok (.ireturn, 1) := by decide +kernel
theorem dX6_found_0 : decode cX6_found 0 = .ok (.iload 4, 2) := by decide +kernel
theorem dX6_found_2 : decode cX6_found 2 = .ok (.ifCond .ge 8, 3) := by decide +kernel
theorem dX6_found_5 : decode cX6_found 5 = .ok (.bipush (-2), 2) := by decide +kernel
theorem dX6_found_7 : decode cX6_found 7 = .ok (.goto 10, 3) := by decide +kernel
theorem dX6_found_10 : decode cX6_found 10 = .ok (.aload_n 0, 1) := by decide +kernel
theorem dX6_found_11 : decode cX6_found 11 = .ok (.iload_n 1, 1) := by decide +kernel
theorem dX6_found_12 : decode cX6_found 12 = .ok (.iload_n 2, 1) := by decide +kernel
theorem dX6_found_13 : decode cX6_found 13 = .ok (.iload_n 3, 1) := by decide +kernel
theorem dX6_found_14 : decode cX6_found 14 = .ok (.invokevirtual 151, 3) := by decide +kernel
theorem dX6_found_17 : decode cX6_found 17 = .ok (.istore 5, 2) := by decide +kernel
theorem dX6_found_19 : decode cX6_found 19 = .ok (.iload 5, 2) := by decide +kernel
theorem dX6_found_21 : decode cX6_found 21 = .ok (.iconst (-1), 1) := by decide +kernel
theorem dX6_found_22 : decode cX6_found 22 = .ok (.if_icmp .ge 12, 3) := by decide +kernel
theorem dX6_found_25 : decode cX6_found 25 = .ok (.aload_n 0, 1) := by decide +kernel
theorem dX6_found_26 : decode cX6_found 26 = .ok (.bipush (-2), 2) := by decide +kernel
theorem dX6_found_28 : decode cX6_found 28 = .ok (.invokevirtual 38, 3) := by decide +kernel
theorem dX6_found_31 : decode cX6_found 31 = .ok (.goto 21, 3) := by decide +kernel
theorem dX6_found_34 : decode cX6_found 34 = .ok (.iload 4, 2) := by decide +kernel
theorem dX6_found_36 : decode cX6_found 36 = .ok (.iload 5, 2) := by decide +kernel
theorem dX6_found_38 : decode cX6_found 38 = .ok (.if_icmp .ge 13, 3) := by decide +kernel
theorem dX6_found_41 : decode cX6_found 41 = .ok (.aload_n 0, 1) := by decide +kernel
theorem dX6_found_42 : decode cX6_found 42 = .ok (.getfield 28, 3) := by decide +kernel
theorem dX6_found_45 : decode cX6_found 45 = .ok (.iload 4, 2) := by decide +kernel
theorem dX6_found_47 : decode cX6_found 47 = .ok (.iaload, 1) := by decide +kernel
theorem dX6_found_48 : decode cX6_found 48 = .ok (.goto 4, 3) := by decide +kernel
theorem dX6_found_51 : decode cX6_found 51 = .ok (.iconst (-1), 1) := by decide +kernel
theorem dX6_found_52 : decode cX6_found 52 = .ok (.ireturn, 1) := by decide +kernel
theorem dX6_rows_0 : decode cX6_rows 0 = .ok (.iload_n 1, 1) := by decide +kernel
theorem dX6_rows_1 : decode cX6_rows 1 = .ok (.iconst 0, 1) := by decide +kernel
theorem dX6_rows_2 : decode cX6_rows 2 = .ok (.iconst 2, 1) := by decide +kernel
theorem dX6_rows_3 : decode cX6_rows 3 = .ok (.invokestatic 48, 3) := by decide +kernel
theorem dX6_rows_6 : decode cX6_rows 6 = .ok (.ifCond .eq 22, 3) := by decide +kernel
theorem dX6_rows_9 : decode cX6_rows 9 = .ok (.iload_n 2, 1) := by decide +kernel
theorem dX6_rows_10 : decode cX6_rows 10 = .ok (.iconst 0, 1) := by decide +kernel
theorem dX6_rows_11 : decode cX6_rows 11 = .ok (.iconst 4, 1) := by decide +kernel
theorem dX6_rows_12 : decode cX6_rows 12 = .ok (.invokestatic 48, 3) := by decide +kernel
theorem dX6_rows_15 : decode cX6_rows 15 = .ok (.ifCond .eq 13, 3) := by decide +kernel
theorem dX6_rows_18 : decode cX6_rows 18 = .ok (.aload_n 0, 1) := by decide +kernel
theorem dX6_rows_19 : decode cX6_rows 19 = .ok (.iload_n 2, 1) := by decide +kernel
theorem dX6_rows_20 : decode cX6_rows 20 = .ok (.iload_n 1, 1) := by decide +kernel
theorem dX6_rows_21 : decode cX6_rows 21 = .ok (.iconst 0, 1) := by decide +kernel
theorem dX6_rows_22 : decode cX6_rows 22 = .ok (.invokevirtual 148, 3) := by decide +kernel
theorem dX6_rows_25 : decode cX6_rows 25 = .ok (.goto 9, 3) := by decide +kernel
theorem dX6_rows_28 : decode cX6_rows 28 = .ok (.aload_n 0, 1) := by decide +kernel
theorem dX6_rows_29 : decode cX6_rows 29 = .ok (.bipush (-2), 2) := by decide +kernel
theorem dX6_rows_31 : decode cX6_rows 31 = .ok (.invokevirtual 38, 3) := by decide +kernel
theorem dX6_rows_34 : decode cX6_rows 34 = .ok (.ireturn, 1) := by decide +kernel
theorem dX6_walks_0 : decode cX6_walks 0 = .ok (.aload_n 0, 1) := by decide +kernel
theorem dX6_walks_1 : decode cX6_walks 1 = .ok (.iconst 5, 1) := by decide +kernel
theorem dX6_walks_2 : decode cX6_walks 2 = .ok (.invokevirtual 138, 3) := by decide +kernel
theorem dX6_walks_5 : decode cX6_walks 5 = .ok (.iconst 0, 1) := by decide +kernel
theorem dX6_walks_6 : decode cX6_walks 6 = .ok (.istore_n 1, 1) := by decide +kernel
theorem dX6_walks_7 : decode cX6_walks 7 = .ok (.iload_n 1, 1) := by decide +kernel
theorem dX6_walks_8 : decode cX6_walks 8 = .ok (.aload_n 0, 1) := by decide +kernel
theorem dX6_walks_9 : decode cX6_walks 9 = .ok (.getfield 7, 3) := by decide +kernel
theorem dX6_walks_12 : decode cX6_walks 12 = .ok (.iconst 2, 1) := by decide +kernel
theorem dX6_walks_13 : decode cX6_walks 13 = .ok (.iaload, 1) := by decide +kernel
theorem dX6_walks_14 : decode cX6_walks 14 = .ok (.if_icmp .ge 36, 3) := by decide +kernel
theorem dX6_walks_17 : decode cX6_walks 17 = .ok (.aload_n 0, 1) := by decide +kernel
theorem dX6_walks_18 : decode cX6_walks 18 = .ok (.getfield 7, 3) := by decide +kernel
theorem dX6_walks_21 : decode cX6_walks 21 = .ok (.sipush 324, 3) := by decide +kernel
theorem dX6_walks_24 : decode cX6_walks 24 = .ok (.iload_n 1, 1) := by decide +kernel
theorem dX6_walks_25 : decode cX6_walks 25 = .ok (.iadd, 1) := by decide +kernel
theorem dX6_walks_26 : decode cX6_walks 26 = .ok (.iaload, 1) := by decide +kernel
theorem dX6_walks_27 : decode cX6_walks 27 = .ok (.istore_n 2, 1) := by decide +kernel
theorem dX6_walks_28 : decode cX6_walks 28 = .ok (.aload_n 0, 1) := by decide +kernel
theorem dX6_walks_29 : decode cX6_walks 29 = .ok (.iload_n 2, 1) := by decide +kernel
