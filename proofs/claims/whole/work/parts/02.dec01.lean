theorem dX2_mayCome_72 : decode cX2_mayCome 72 = .ok (.iand, 1) := by decide +kernel
theorem dX2_mayCome_73 : decode cX2_mayCome 73 = .ok (.ifCond .ne 7, 3) := by decide +kernel
theorem dX2_mayCome_76 : decode cX2_mayCome 76 = .ok (.iconst 1, 1) := by decide +kernel
theorem dX2_mayCome_77 : decode cX2_mayCome 77 = .ok (.goto 4, 3) := by decide +kernel
theorem dX2_mayCome_80 : decode cX2_mayCome 80 = .ok (.iconst 0, 1) := by decide +kernel
theorem dX2_mayCome_81 : decode cX2_mayCome 81 = .ok (.ireturn, 1) := by decide +kernel
theorem dX2_step_0 : decode cX2_step 0 = .ok (.aload_n 0, 1) := by decide +kernel
theorem dX2_step_1 : decode cX2_step 1 = .ok (.getfield 23, 3) := by decide +kernel
theorem dX2_step_4 : decode cX2_step 4 = .ok (.iload_n 2, 1) := by decide +kernel
theorem dX2_step_5 : decode cX2_step 5 = .ok (.aaload, 1) := by decide +kernel
theorem dX2_step_6 : decode cX2_step 6 = .ok (.astore_n 3, 1) := by decide +kernel
theorem dX2_step_7 : decode cX2_step 7 = .ok (.aload_n 0, 1) := by decide +kernel
theorem dX2_step_8 : decode cX2_step 8 = .ok (.getfield 23, 3) := by decide +kernel
theorem dX2_step_11 : decode cX2_step 11 = .ok (.iload_n 2, 1) := by decide +kernel
theorem dX2_step_12 : decode cX2_step 12 = .ok (.iconst 1, 1) := by decide +kernel
theorem dX2_step_13 : decode cX2_step 13 = .ok (.iadd, 1) := by decide +kernel
theorem dX2_step_14 : decode cX2_step 14 = .ok (.aaload, 1) := by decide +kernel
theorem dX2_step_15 : decode cX2_step 15 = .ok (.astore 4, 2) := by decide +kernel
theorem dX2_step_17 : decode cX2_step 17 = .ok (.iconst 0, 1) := by decide +kernel
theorem dX2_step_18 : decode cX2_step 18 = .ok (.istore 5, 2) := by decide +kernel
theorem dX2_step_20 : decode cX2_step 20 = .ok (.iload 5, 2) := by decide +kernel
theorem dX2_step_22 : decode cX2_step 22 = .ok (.aload_n 0, 1) := by decide +kernel
theorem dX2_step_23 : decode cX2_step 23 = .ok (.getfield 70, 3) := by decide +kernel
theorem dX2_step_26 : decode cX2_step 26 = .ok (.if_icmp .ge 25, 3) := by decide +kernel
theorem dX2_step_29 : decode cX2_step 29 = .ok (.aload 4, 2) := by decide +kernel
theorem dX2_step_31 : decode cX2_step 31 = .ok (.iload 5, 2) := by decide +kernel
theorem dX2_step_33 : decode cX2_step 33 = .ok (.aload_n 0, 1) := by decide +kernel
theorem dX2_step_34 : decode cX2_step 34 = .ok (.getfield 11, 3) := by decide +kernel
theorem dX2_step_37 : decode cX2_step 37 = .ok (.iload_n 1, 1) := by decide +kernel
theorem dX2_step_38 : decode cX2_step 38 = .ok (.aaload, 1) := by decide +kernel
theorem dX2_step_39 : decode cX2_step 39 = .ok (.aload_n 3, 1) := by decide +kernel
theorem dX2_step_40 : decode cX2_step 40 = .ok (.iload 5, 2) := by decide +kernel
theorem dX2_step_42 : decode cX2_step 42 = .ok (.iaload, 1) := by decide +kernel
theorem dX2_step_43 : decode cX2_step 43 = .ok (.iaload, 1) := by decide +kernel
theorem dX2_step_44 : decode cX2_step 44 = .ok (.iastore, 1) := by decide +kernel
theorem dX2_step_45 : decode cX2_step 45 = .ok (.iinc 5 1, 3) := by decide +kernel
theorem dX2_step_48 : decode cX2_step 48 = .ok (.goto (-28), 3) := by decide +kernel
theorem dX2_step_51 : decode cX2_step 51 = .ok (.aload_n 0, 1) := by decide +kernel
theorem dX2_step_52 : decode cX2_step 52 = .ok (.getfield 26, 3) := by decide +kernel
theorem dX2_step_55 : decode cX2_step 55 = .ok (.iload_n 2, 1) := by decide +kernel
theorem dX2_step_56 : decode cX2_step 56 = .ok (.iconst 1, 1) := by decide +kernel
theorem dX2_step_57 : decode cX2_step 57 = .ok (.iadd, 1) := by decide +kernel
theorem dX2_step_58 : decode cX2_step 58 = .ok (.aload 4, 2) := by decide +kernel
theorem dX2_step_60 : decode cX2_step 60 = .ok (.aload_n 0, 1) := by decide +kernel
theorem dX2_step_61 : decode cX2_step 61 = .ok (.getfield 70, 3) := by decide +kernel
theorem dX2_step_64 : decode cX2_step 64 = .ok (.invokestatic 85, 3) := by decide +kernel
theorem dX2_step_67 : decode cX2_step 67 = .ok (.iastore, 1) := by decide +kernel
theorem dX2_step_68 : decode cX2_step 68 = .ok (.return_, 1) := by decide +kernel
theorem dX2_isGoalBehind_0 : decode cX2_isGoalBehind 0 = .ok (.aload_n 0, 1) := by decide +kernel
theorem dX2_isGoalBehind_1 : decode cX2_isGoalBehind 1 = .ok (.getfield 23, 3) := by decide +kernel
theorem dX2_isGoalBehind_4 : decode cX2_isGoalBehind 4 = .ok (.iload_n 2, 1) := by decide +kernel
theorem dX2_isGoalBehind_5 : decode cX2_isGoalBehind 5 = .ok (.aaload, 1) := by decide +kernel
theorem dX2_isGoalBehind_6 : decode cX2_isGoalBehind 6 = .ok (.astore_n 3, 1) := by decide +kernel
theorem dX2_isGoalBehind_7 : decode cX2_isGoalBehind 7 = .ok (.aload_n 0, 1) := by decide +kernel
theorem dX2_isGoalBehind_8 : decode cX2_isGoalBehind 8 = .ok (.getfield 11, 3) := by decide +kernel
theorem dX2_isGoalBehind_11 : decode cX2_isGoalBehind 11 = .ok (.iload_n 1, 1) := by decide +kernel
theorem dX2_isGoalBehind_12 : decode cX2_isGoalBehind 12 = .ok (.aaload, 1) := by decide +kernel
theorem dX2_isGoalBehind_13 : decode cX2_isGoalBehind 13 = .ok (.astore 4, 2) := by decide +kernel
theorem dX2_isGoalBehind_15 : decode cX2_isGoalBehind 15 = .ok (.aload_n 0, 1) := by decide +kernel
theorem dX2_isGoalBehind_16 : decode cX2_isGoalBehind 16 = .ok (.getfield 62, 3) := by decide +kernel
theorem dX2_isGoalBehind_19 : decode cX2_isGoalBehind 19 = .ok (.iconst 1, 1) := by decide +kernel
theorem dX2_isGoalBehind_20 : decode cX2_isGoalBehind 20 = .ok (.if_icmp .eq 40, 3) := by decide +kernel
theorem dX2_isGoalBehind_23 : decode cX2_isGoalBehind 23 = .ok (.iconst 0, 1) := by decide +kernel
theorem dX2_isGoalBehind_24 : decode cX2_isGoalBehind 24 = .ok (.istore 5, 2) := by decide +kernel
theorem dX2_isGoalBehind_26 : decode cX2_isGoalBehind 26 = .ok (.iload 5, 2) := by decide +kernel
theorem dX2_isGoalBehind_28 : decode cX2_isGoalBehind 28 = .ok (.aload_n 0, 1) := by decide +kernel
theorem dX2_isGoalBehind_29 : decode cX2_isGoalBehind 29 = .ok (.getfield 70, 3) := by decide +kernel
theorem dX2_isGoalBehind_32 : decode cX2_isGoalBehind 32 = .ok (.if_icmp .ge 28, 3) := by decide +kernel
theorem dX2_isGoalBehind_35 : decode cX2_isGoalBehind 35 = .ok (.aload 4, 2) := by decide +kernel
theorem dX2_isGoalBehind_37 : decode cX2_isGoalBehind 37 = .ok (.aload_n 3, 1) := by decide +kernel
theorem dX2_isGoalBehind_38 : decode cX2_isGoalBehind 38 = .ok (.iload 5, 2) := by decide +kernel
theorem dX2_isGoalBehind_40 : decode cX2_isGoalBehind 40 = .ok (.iaload, 1) := by decide +kernel
theorem dX2_isGoalBehind_41 : decode cX2_isGoalBehind 41 = .ok (.iaload, 1) := by decide +kernel
theorem dX2_isGoalBehind_42 : decode cX2_isGoalBehind 42 = .ok (.aload_n 0, 1) := by decide +kernel
theorem dX2_isGoalBehind_43 : decode cX2_isGoalBehind 43 = .ok (.getfield 29, 3) := by decide +kernel
theorem dX2_isGoalBehind_46 : decode cX2_isGoalBehind 46 = .ok (.iload 5, 2) := by decide +kernel
theorem dX2_isGoalBehind_48 : decode cX2_isGoalBehind 48 = .ok (.iaload, 1) := by decide +kernel
theorem dX2_isGoalBehind_49 : decode cX2_isGoalBehind 49 = .ok (.if_icmp .eq 5, 3) := by decide +kernel
theorem dX2_isGoalBehind_52 : decode cX2_isGoalBehind 52 = .ok (.iconst 0, 1) := by decide +kernel
theorem dX2_isGoalBehind_53 : decode cX2_isGoalBehind 53 = .ok (.ireturn, 1) := by decide +kernel
theorem dX2_isGoalBehind_54 : decode cX2_isGoalBehind 54 = .ok (.iinc 5 1, 3) := by decide +kernel
theorem dX2_isGoalBehind_57 : decode cX2_isGoalBehind 57 = .ok (.goto (-31), 3) := by decide +kernel
theorem dX2_isGoalBehind_60 : decode cX2_isGoalBehind 60 = .ok (.aload_n 0, 1) := by decide +kernel
theorem dX2_isGoalBehind_61 : decode cX2_isGoalBehind 61 = .ok (.getfield 62, 3) := by decide +kernel
theorem dX2_isGoalBehind_64 : decode cX2_isGoalBehind 64 = .ok (.ifCond .eq 47, 3) := by decide +kernel
theorem dX2_isGoalBehind_67 : decode cX2_isGoalBehind 67 = .ok (.iconst 0, 1) := by decide +kernel
theorem dX2_isGoalBehind_68 : decode cX2_isGoalBehind 68 = .ok (.istore 5, 2) := by decide +kernel
theorem dX2_isGoalBehind_70 : decode cX2_isGoalBehind 70 = .ok (.iload 5, 2) := by decide +kernel
theorem dX2_isGoalBehind_72 : decode cX2_isGoalBehind 72 = .ok (.iconst 1, 1) := by decide +kernel
theorem dX2_isGoalBehind_73 : decode cX2_isGoalBehind 73 = .ok (.iadd, 1) := by decide +kernel
theorem dX2_isGoalBehind_74 : decode cX2_isGoalBehind 74 = .ok (.aload_n 0, 1) := by decide +kernel
theorem dX2_isGoalBehind_75 : decode cX2_isGoalBehind 75 = .ok (.getfield 70, 3) := by decide +kernel
theorem dX2_isGoalBehind_78 : decode cX2_isGoalBehind 78 = .ok (.if_icmp .ge 33, 3) := by decide +kernel
theorem dX2_isGoalBehind_81 : decode cX2_isGoalBehind 81 = .ok (.aload 4, 2) := by decide +kernel
theorem dX2_isGoalBehind_83 : decode cX2_isGoalBehind 83 = .ok (.aload_n 3, 1) := by decide +kernel
theorem dX2_isGoalBehind_84 : decode cX2_isGoalBehind 84 = .ok (.iload 5, 2) := by decide +kernel
theorem dX2_isGoalBehind_86 : decode cX2_isGoalBehind 86 = .ok (.iaload, 1) := by decide +kernel
theorem dX2_isGoalBehind_87 : decode cX2_isGoalBehind 87 = .ok (.iaload, 1) := by decide +kernel
theorem dX2_isGoalBehind_88 : decode cX2_isGoalBehind 88 = .ok (.aload 4, 2) := by decide +kernel
theorem dX2_isGoalBehind_90 : decode cX2_isGoalBehind 90 = .ok (.aload_n 3, 1) := by decide +kernel
theorem dX2_isGoalBehind_91 : decode cX2_isGoalBehind 91 = .ok (.iload 5, 2) := by decide +kernel
theorem dX2_isGoalBehind_93 : decode cX2_isGoalBehind 93 = .ok (.iconst 1, 1) := by decide +kernel
theorem dX2_isGoalBehind_94 : decode cX2_isGoalBehind 94 = .ok (.iadd, 1) := by decide +kernel
theorem dX2_isGoalBehind_95 : decode cX2_isGoalBehind 95 = .ok (.iaload, 1) := by decide +kernel
theorem dX2_isGoalBehind_96 : decode cX2_isGoalBehind 96 = .ok (.iaload, 1) := by decide +kernel
theorem dX2_isGoalBehind_97 : decode cX2_isGoalBehind 97 = .ok (.invokestatic 124, 3) := by decide +kernel
theorem dX2_isGoalBehind_100 : decode cX2_isGoalBehind 100 = .ok (.ifCond .ne 5, 3) := by decide +kernel
theorem dX2_isGoalBehind_103 : decode cX2_isGoalBehind 103 = .ok (.iconst 0, 1) := by decide +kernel
theorem dX2_isGoalBehind_104 : decode cX2_isGoalBehind 104 = .ok (.ireturn, 1) := by decide +kernel
theorem dX2_isGoalBehind_105 : decode cX2_isGoalBehind 105 = .ok (.iinc 5 2, 3) := by decide +kernel
theorem dX2_isGoalBehind_108 : decode cX2_isGoalBehind 108 = .ok (.goto (-38), 3) := by decide +kernel
theorem dX2_isGoalBehind_111 : decode cX2_isGoalBehind 111 = .ok (.iconst 1, 1) := by decide +kernel
theorem dX2_isGoalBehind_112 : decode cX2_isGoalBehind 112 = .ok (.ireturn, 1) := by decide +kernel
theorem dX3_init_0 : decode cX3_init 0 = .ok (.aload_n 0, 1) := by decide +kernel
theorem dX3_init_1 : decode cX3_init 1 = .ok (.invokespecial 3, 3) := by decide +kernel
theorem dX3_init_4 : decode cX3_init 4 = .ok (.aload_n 0, 1) := by decide +kernel
theorem dX3_init_5 : decode cX3_init 5 = .ok (.bipush 8, 2) := by decide +kernel
theorem dX3_init_7 : decode cX3_init 7 = .ok (.newarray .int, 2) := by decide +kernel
theorem dX3_init_9 : decode cX3_init 9 = .ok (.putfield 9, 3) := by decide +kernel
theorem dX3_init_12 : decode cX3_init 12 = .ok (.aload_n 0, 1) := by decide +kernel
theorem dX3_init_13 : decode cX3_init 13 = .ok (.bipush 8, 2) := by decide +kernel
theorem dX3_init_15 : decode cX3_init 15 = .ok (.newarray .int, 2) := by decide +kernel
theorem dX3_init_17 : decode cX3_init 17 = .ok (.putfield 15, 3) := by decide +kernel
theorem dX3_init_20 : decode cX3_init 20 = .ok (.aload_n 0, 1) := by decide +kernel
theorem dX3_init_21 : decode cX3_init 21 = .ok (.bipush 8, 2) := by decide +kernel
theorem dX3_init_23 : decode cX3_init 23 = .ok (.anewarray 18, 3) := by decide +kernel
theorem dX3_init_26 : decode cX3_init 26 = .ok (.putfield 20, 3) := by decide +kernel
theorem dX3_init_29 : decode cX3_init 29 = .ok (.aload_n 0, 1) := by decide +kernel
theorem dX3_init_30 : decode cX3_init 30 = .ok (.bipush 12, 2) := by decide +kernel
theorem dX3_init_32 : decode cX3_init 32 = .ok (.newarray .int, 2) := by decide +kernel
theorem dX3_init_34 : decode cX3_init 34 = .ok (.putfield 24, 3) := by decide +kernel
theorem dX3_init_37 : decode cX3_init 37 = .ok (.aload_n 0, 1) := by decide +kernel
theorem dX3_init_38 : decode cX3_init 38 = .ok (.bipush 8, 2) := by decide +kernel
theorem dX3_init_40 : decode cX3_init 40 = .ok (.newarray .int, 2) := by decide +kernel
theorem dX3_init_42 : decode cX3_init 42 = .ok (.putfield 27, 3) := by decide +kernel
theorem dX3_init_45 : decode cX3_init 45 = .ok (.iconst 0, 1) := by decide +kernel
theorem dX3_init_46 : decode cX3_init 46 = .ok (.istore_n 1, 1) := by decide +kernel
theorem dX3_init_47 : decode cX3_init 47 = .ok (.iload_n 1, 1) := by decide +kernel
theorem dX3_init_48 : decode cX3_init 48 = .ok (.bipush 8, 2) := by decide +kernel
theorem dX3_init_50 : decode cX3_init 50 = .ok (.if_icmp .ge 22, 3) := by decide +kernel
theorem dX3_init_53 : decode cX3_init 53 = .ok (.aload_n 0, 1) := by decide +kernel
theorem dX3_init_54 : decode cX3_init 54 = .ok (.getfield 20, 3) := by decide +kernel
theorem dX3_init_57 : decode cX3_init 57 = .ok (.iload_n 1, 1) := by decide +kernel
theorem dX3_init_58 : decode cX3_init 58 = .ok (.new 18, 3) := by decide +kernel
theorem dX3_init_61 : decode cX3_init 61 = .ok (.dup, 1) := by decide +kernel
theorem dX3_init_62 : decode cX3_init 62 = .ok (.invokespecial 30, 3) := by decide +kernel
theorem dX3_init_65 : decode cX3_init 65 = .ok (.aastore, 1) := by decide +kernel
theorem dX3_init_66 : decode cX3_init 66 = .ok (.iinc 1 1, 3) := by decide +kernel
theorem dX3_init_69 : decode cX3_init 69 = .ok (.goto (-22), 3) := by decide +kernel
theorem dX3_init_72 : decode cX3_init 72 = .ok (.return_, 1) := by decide +kernel
theorem dX3_copyFrom_0 : decode cX3_copyFrom 0 = .ok (.aload_n 0, 1) := by decide +kernel
theorem dX3_copyFrom_1 : decode cX3_copyFrom 1 = .ok (.aload_n 1, 1) := by decide +kernel
theorem dX3_copyFrom_2 : decode cX3_copyFrom 2 = .ok (.getfield 31, 3) := by decide +kernel
theorem dX3_copyFrom_5 : decode cX3_copyFrom 5 = .ok (.putfield 31, 3) := by decide +kernel
theorem dX3_copyFrom_8 : decode cX3_copyFrom 8 = .ok (.aload_n 1, 1) := by decide +kernel
theorem dX3_copyFrom_9 : decode cX3_copyFrom 9 = .ok (.getfield 9, 3) := by decide +kernel
theorem dX3_copyFrom_12 : decode cX3_copyFrom 12 = .ok (.iconst 0, 1) := by decide +kernel
theorem dX3_copyFrom_13 : decode cX3_copyFrom 13 = .ok (.aload_n 0, 1) := by decide +kernel
theorem dX3_copyFrom_14 : decode cX3_copyFrom 14 = .ok (.getfield 9, 3) := by decide +kernel
theorem dX3_copyFrom_17 : decode cX3_copyFrom 17 = .ok (.iconst 0, 1) := by decide +kernel
theorem dX3_copyFrom_18 : decode cX3_copyFrom 18 = .ok (.bipush 8, 2) := by decide +kernel
theorem dX3_copyFrom_20 : decode cX3_copyFrom 20 = .ok (.invokestatic 35, 3) := by decide +kernel
theorem dX3_copyFrom_23 : decode cX3_copyFrom 23 = .ok (.aload_n 1, 1) := by decide +kernel
theorem dX3_copyFrom_24 : decode cX3_copyFrom 24 = .ok (.getfield 15, 3) := by decide +kernel
theorem dX3_copyFrom_27 : decode cX3_copyFrom 27 = .ok (.iconst 0, 1) := by decide +kernel
theorem dX3_copyFrom_28 : decode cX3_copyFrom 28 = .ok (.aload_n 0, 1) := by decide +kernel
theorem dX3_copyFrom_29 : decode cX3_copyFrom 29 = .ok (.getfield 15, 3) := by decide +kernel
theorem dX3_copyFrom_32 : decode cX3_copyFrom 32 = .ok (.iconst 0, 1) := by decide +kernel
theorem dX3_copyFrom_33 : decode cX3_copyFrom 33 = .ok (.bipush 8, 2) := by decide +kernel
theorem dX3_copyFrom_35 : decode cX3_copyFrom 35 = .ok (.invokestatic 35, 3) := by decide +kernel
theorem dX3_copyFrom_38 : decode cX3_copyFrom 38 = .ok (.aload_n 0, 1) := by decide +kernel
theorem dX3_copyFrom_39 : decode cX3_copyFrom 39 = .ok (.aload_n 1, 1) := by decide +kernel
theorem dX3_copyFrom_40 : decode cX3_copyFrom 40 = .ok (.getfield 41, 3) := by decide +kernel
theorem dX3_copyFrom_43 : decode cX3_copyFrom 43 = .ok (.putfield 41, 3) := by decide +kernel
theorem dX3_copyFrom_46 : decode cX3_copyFrom 46 = .ok (.iconst 0, 1) := by decide +kernel
theorem dX3_copyFrom_47 : decode cX3_copyFrom 47 = .ok (.istore_n 2, 1) := by decide +kernel
theorem dX3_copyFrom_48 : decode cX3_copyFrom 48 = .ok (.iload_n 2, 1) := by decide +kernel
theorem dX3_copyFrom_49 : decode cX3_copyFrom 49 = .ok (.aload_n 0, 1) := by decide +kernel
theorem dX3_copyFrom_50 : decode cX3_copyFrom 50 = .ok (.getfield 41, 3) := by decide +kernel
theorem dX3_copyFrom_53 : decode cX3_copyFrom 53 = .ok (.if_icmp .ge 24, 3) := by decide +kernel
theorem dX3_copyFrom_56 : decode cX3_copyFrom 56 = .ok (.aload_n 0, 1) := by decide +kernel
theorem dX3_copyFrom_57 : decode cX3_copyFrom 57 = .ok (.getfield 20, 3) := by decide +kernel
theorem dX3_copyFrom_60 : decode cX3_copyFrom 60 = .ok (.iload_n 2, 1) := by decide +kernel
theorem dX3_copyFrom_61 : decode cX3_copyFrom 61 = .ok (.aaload, 1) := by decide +kernel
theorem dX3_copyFrom_62 : decode cX3_copyFrom 62 = .ok (.aload_n 1, 1) := by decide +kernel
theorem dX3_copyFrom_63 : decode cX3_copyFrom 63 = .ok (.getfield 20, 3) := by decide +kernel
theorem dX3_copyFrom_66 : decode cX3_copyFrom 66 = .ok (.iload_n 2, 1) := by decide +kernel
theorem dX3_copyFrom_67 : decode cX3_copyFrom 67 = .ok (.aaload, 1) := by decide +kernel
theorem dX3_copyFrom_68 : decode cX3_copyFrom 68 = .ok (.invokevirtual 44, 3) := by decide +kernel
theorem dX3_copyFrom_71 : decode cX3_copyFrom 71 = .ok (.iinc 2 1, 3) := by decide +kernel
theorem dX3_copyFrom_74 : decode cX3_copyFrom 74 = .ok (.goto (-26), 3) := by decide +kernel
theorem dX3_copyFrom_77 : decode cX3_copyFrom 77 = .ok (.aload_n 0, 1) := by decide +kernel
theorem dX3_copyFrom_78 : decode cX3_copyFrom 78 = .ok (.aload_n 1, 1) := by decide +kernel
theorem dX3_copyFrom_79 : decode cX3_copyFrom 79 = .ok (.getfield 48, 3) := by decide +kernel
theorem dX3_copyFrom_82 : decode cX3_copyFrom 82 = .ok (.putfield 48, 3) := by decide +kernel
theorem dX3_copyFrom_85 : decode cX3_copyFrom 85 = .ok (.aload_n 1, 1) := by decide +kernel
theorem dX3_copyFrom_86 : decode cX3_copyFrom 86 = .ok (.getfield 24, 3) := by decide +kernel
theorem dX3_copyFrom_89 : decode cX3_copyFrom 89 = .ok (.iconst 0, 1) := by decide +kernel
theorem dX3_copyFrom_90 : decode cX3_copyFrom 90 = .ok (.aload_n 0, 1) := by decide +kernel
theorem dX3_copyFrom_91 : decode cX3_copyFrom 91 = .ok (.getfield 24, 3) := by decide +kernel
theorem dX3_copyFrom_94 : decode cX3_copyFrom 94 = .ok (.iconst 0, 1) := by decide +kernel
theorem dX3_copyFrom_95 : decode cX3_copyFrom 95 = .ok (.bipush 12, 2) := by decide +kernel
theorem dX3_copyFrom_97 : decode cX3_copyFrom 97 = .ok (.invokestatic 35, 3) := by decide +kernel
theorem dX3_copyFrom_100 : decode cX3_copyFrom 100 = .ok (.aload_n 0, 1) := by decide +kernel
theorem dX3_copyFrom_101 : decode cX3_copyFrom 101 = .ok (.aload_n 1, 1) := by decide +kernel
theorem dX3_copyFrom_102 : decode cX3_copyFrom 102 = .ok (.getfield 51, 3) := by decide +kernel
theorem dX3_copyFrom_105 : decode cX3_copyFrom 105 = .ok (.putfield 51, 3) := by decide +kernel
theorem dX3_copyFrom_108 : decode cX3_copyFrom 108 = .ok (.return_, 1) := by decide +kernel
theorem dX3_addDancer_0 : decode cX3_addDancer 0 = .ok (.iload_n 1, 1) := by decide +kernel
theorem dX3_addDancer_1 : decode cX3_addDancer 1 = .ok (.bipush 12, 2) := by decide +kernel
theorem dX3_addDancer_3 : decode cX3_addDancer 3 = .ok (.invokestatic 54, 3) := by decide +kernel
theorem dX3_addDancer_6 : decode cX3_addDancer 6 = .ok (.ifCond .eq 28, 3) := by decide +kernel
theorem dX3_addDancer_9 : decode cX3_addDancer 9 = .ok (.iload_n 2, 1) := by decide +kernel
theorem dX3_addDancer_10 : decode cX3_addDancer 10 = .ok (.iconst 4, 1) := by decide +kernel
theorem dX3_addDancer_11 : decode cX3_addDancer 11 = .ok (.invokestatic 54, 3) := by decide +kernel
theorem dX3_addDancer_14 : decode cX3_addDancer 14 = .ok (.ifCond .eq 20, 3) := by decide +kernel
theorem dX3_addDancer_17 : decode cX3_addDancer 17 = .ok (.aload_n 0, 1) := by decide +kernel
theorem dX3_addDancer_18 : decode cX3_addDancer 18 = .ok (.iload_n 1, 1) := by decide +kernel
theorem dX3_addDancer_19 : decode cX3_addDancer 19 = .ok (.invokevirtual 58, 3) := by decide +kernel
theorem dX3_addDancer_22 : decode cX3_addDancer 22 = .ok (.iconst (-1), 1) := by decide +kernel
theorem dX3_addDancer_23 : decode cX3_addDancer 23 = .ok (.if_icmp .ne 11, 3) := by decide +kernel
theorem dX3_addDancer_26 : decode cX3_addDancer 26 = .ok (.aload_n 0, 1) := by decide +kernel
theorem dX3_addDancer_27 : decode cX3_addDancer 27 = .ok (.iload_n 1, 1) := by decide +kernel
theorem dX3_addDancer_28 : decode cX3_addDancer 28 = .ok (.invokevirtual 62, 3) := by decide +kernel
theorem dX3_addDancer_31 : decode cX3_addDancer 31 = .ok (.ifCond .eq 6, 3) := by decide +kernel
theorem dX3_addDancer_34 : decode cX3_addDancer 34 = .ok (.bipush (-2), 2) := by decide +kernel
theorem dX3_addDancer_36 : decode cX3_addDancer 36 = .ok (.ireturn, 1) := by decide +kernel
theorem dX3_addDancer_37 : decode cX3_addDancer 37 = .ok (.aload_n 0, 1) := by decide +kernel
theorem dX3_addDancer_38 : decode cX3_addDancer 38 = .ok (.getfield 31, 3) := by decide +kernel
theorem dX3_addDancer_41 : decode cX3_addDancer 41 = .ok (.bipush 8, 2) := by decide +kernel
theorem dX3_addDancer_43 : decode cX3_addDancer 43 = .ok (.if_icmp .lt 6, 3) := by decide +kernel
theorem dX3_addDancer_46 : decode cX3_addDancer 46 = .ok (.bipush (-4), 2) := by decide +kernel
theorem dX3_addDancer_48 : decode cX3_addDancer 48 = .ok (.ireturn, 1) := by decide +kernel
theorem dX3_addDancer_49 : decode cX3_addDancer 49 = .ok (.aload_n 0, 1) := by decide +kernel
theorem dX3_addDancer_50 : decode cX3_addDancer 50 = .ok (.getfield 9, 3) := by decide +kernel
theorem dX3_addDancer_53 : decode cX3_addDancer 53 = .ok (.aload_n 0, 1) := by decide +kernel
theorem dX3_addDancer_54 : decode cX3_addDancer 54 = .ok (.getfield 31, 3) := by decide +kernel
theorem dX3_addDancer_57 : decode cX3_addDancer 57 = .ok (.iload_n 1, 1) := by decide +kernel
theorem dX3_addDancer_58 : decode cX3_addDancer 58 = .ok (.iconst 4, 1) := by decide +kernel
theorem dX3_addDancer_59 : decode cX3_addDancer 59 = .ok (.imul, 1) := by decide +kernel
theorem dX3_addDancer_60 : decode cX3_addDancer 60 = .ok (.iload_n 2, 1) := by decide +kernel
theorem dX3_addDancer_61 : decode cX3_addDancer 61 = .ok (.iadd, 1) := by decide +kernel
theorem dX3_addDancer_62 : decode cX3_addDancer 62 = .ok (.iastore, 1) := by decide +kernel
theorem dX3_addDancer_63 : decode cX3_addDancer 63 = .ok (.aload_n 0, 1) := by decide +kernel
theorem dX3_addDancer_64 : decode cX3_addDancer 64 = .ok (.getfield 15, 3) := by decide +kernel
theorem dX3_addDancer_67 : decode cX3_addDancer 67 = .ok (.aload_n 0, 1) := by decide +kernel
theorem dX3_addDancer_68 : decode cX3_addDancer 68 = .ok (.getfield 31, 3) := by decide +kernel
theorem dX3_addDancer_71 : decode cX3_addDancer 71 = .ok (.aload_n 0, 1) := by decide +kernel
theorem dX3_addDancer_72 : decode cX3_addDancer 72 = .ok (.getfield 9, 3) := by decide +kernel
theorem dX3_addDancer_75 : decode cX3_addDancer 75 = .ok (.aload_n 0, 1) := by decide +kernel
theorem dX3_addDancer_76 : decode cX3_addDancer 76 = .ok (.getfield 31, 3) := by decide +kernel
theorem dX3_addDancer_79 : decode cX3_addDancer 79 = .ok (.iaload, 1) := by decide +kernel
theorem dX3_addDancer_80 : decode cX3_addDancer 80 = .ok (.iastore, 1) := by decide +kernel
theorem dX3_addDancer_81 : decode cX3_addDancer 81 = .ok (.aload_n 0, 1) := by decide +kernel
theorem dX3_addDancer_82 : decode cX3_addDancer 82 = .ok (.dup, 1) := by decide +kernel
theorem dX3_addDancer_83 : decode cX3_addDancer 83 = .ok (.getfield 31, 3) := by decide +kernel
theorem dX3_addDancer_86 : decode cX3_addDancer 86 = .ok (.iconst 1, 1) := by decide +kernel
theorem dX3_addDancer_87 : decode cX3_addDancer 87 = .ok (.iadd, 1) := by decide +kernel
theorem dX3_addDancer_88 : decode cX3_addDancer 88 = .ok (.putfield 31, 3) := by decide +kernel
theorem dX3_addDancer_91 : decode cX3_addDancer 91 = .ok (.aload_n 0, 1) := by decide +kernel
theorem dX3_addDancer_92 : decode cX3_addDancer 92 = .ok (.getfield 31, 3) := by decide +kernel
theorem dX3_addDancer_95 : decode cX3_addDancer 95 = .ok (.iconst 1, 1) := by decide +kernel
theorem dX3_addDancer_96 : decode cX3_addDancer 96 = .ok (.isub, 1) := by decide +kernel
theorem dX3_addDancer_97 : decode cX3_addDancer 97 = .ok (.ireturn, 1) := by decide +kernel
theorem dX3_addCall_0 : decode cX3_addCall 0 = .ok (.aload_n 0, 1) := by decide +kernel
theorem dX3_addCall_1 : decode cX3_addCall 1 = .ok (.getfield 41, 3) := by decide +kernel
theorem dX3_addCall_4 : decode cX3_addCall 4 = .ok (.bipush 8, 2) := by decide +kernel
theorem dX3_addCall_6 : decode cX3_addCall 6 = .ok (.if_icmp .lt 6, 3) := by decide +kernel
theorem dX3_addCall_9 : decode cX3_addCall 9 = .ok (.bipush (-4), 2) := by decide +kernel
theorem dX3_addCall_11 : decode cX3_addCall 11 = .ok (.ireturn, 1) := by decide +kernel
theorem dX3_addCall_12 : decode cX3_addCall 12 = .ok (.aload_n 0, 1) := by decide +kernel
theorem dX3_addCall_13 : decode cX3_addCall 13 = .ok (.getfield 20, 3) := by decide +kernel
theorem dX3_addCall_16 : decode cX3_addCall 16 = .ok (.aload_n 0, 1) := by decide +kernel
theorem dX3_addCall_17 : decode cX3_addCall 17 = .ok (.getfield 41, 3) := by decide +kernel
theorem dX3_addCall_20 : decode cX3_addCall 20 = .ok (.aaload, 1) := by decide +kernel
theorem dX3_addCall_21 : decode cX3_addCall 21 = .ok (.invokevirtual 66, 3) := by decide +kernel
theorem dX3_addCall_24 : decode cX3_addCall 24 = .ok (.aload_n 0, 1) := by decide +kernel
theorem dX3_addCall_25 : decode cX3_addCall 25 = .ok (.dup, 1) := by decide +kernel
theorem dX3_addCall_26 : decode cX3_addCall 26 = .ok (.getfield 41, 3) := by decide +kernel
theorem dX3_addCall_29 : decode cX3_addCall 29 = .ok (.iconst 1, 1) := by decide +kernel
theorem dX3_addCall_30 : decode cX3_addCall 30 = .ok (.iadd, 1) := by decide +kernel
theorem dX3_addCall_31 : decode cX3_addCall 31 = .ok (.putfield 41, 3) := by decide +kernel
theorem dX3_addCall_34 : decode cX3_addCall 34 = .ok (.aload_n 0, 1) := by decide +kernel
theorem dX3_addCall_35 : decode cX3_addCall 35 = .ok (.getfield 41, 3) := by decide +kernel
theorem dX3_addCall_38 : decode cX3_addCall 38 = .ok (.iconst 1, 1) := by decide +kernel
theorem dX3_addCall_39 : decode cX3_addCall 39 = .ok (.isub, 1) := by decide +kernel
theorem dX3_addCall_40 : decode cX3_addCall 40 = .ok (.ireturn, 1) := by decide +kernel
theorem dX3_addCallThatGoes_0 : decode cX3_addCallThatGoes 0 = .ok (.aload_n 0, 1) := by decide +kernel
theorem dX3_addCallThatGoes_1 : decode cX3_addCallThatGoes 1 = .ok (.invokevirtual 69, 3) := by decide +kernel
theorem dX3_addCallThatGoes_4 : decode cX3_addCallThatGoes 4 = .ok (.istore_n 2, 1) := by decide +kernel
theorem dX3_addCallThatGoes_5 : decode cX3_addCallThatGoes 5 = .ok (.iload_n 2, 1) := by decide +kernel
theorem dX3_addCallThatGoes_6 : decode cX3_addCallThatGoes 6 = .ok (.ifCond .lt 20, 3) := by decide +kernel
theorem dX3_addCallThatGoes_9 : decode cX3_addCallThatGoes 9 = .ok (.aload_n 1, 1) := by decide +kernel
theorem dX3_addCallThatGoes_10 : decode cX3_addCallThatGoes 10 = .ok (.iconst 0, 1) := by decide +kernel
theorem dX3_addCallThatGoes_11 : decode cX3_addCallThatGoes 11 = .ok (.aload_n 0, 1) := by decide +kernel
theorem dX3_addCallThatGoes_12 : decode cX3_addCallThatGoes 12 = .ok (.getfield 20, 3) := by decide +kernel
theorem dX3_addCallThatGoes_15 : decode cX3_addCallThatGoes 15 = .ok (.iload_n 2, 1) := by decide +kernel
theorem dX3_addCallThatGoes_16 : decode cX3_addCallThatGoes 16 = .ok (.aaload, 1) := by decide +kernel
theorem dX3_addCallThatGoes_17 : decode cX3_addCallThatGoes 17 = .ok (.getfield 73, 3) := by decide +kernel
theorem dX3_addCallThatGoes_20 : decode cX3_addCallThatGoes 20 = .ok (.iconst 0, 1) := by decide +kernel
theorem dX3_addCallThatGoes_21 : decode cX3_addCallThatGoes 21 = .ok (.bipush 12, 2) := by decide +kernel
theorem dX3_addCallThatGoes_23 : decode cX3_addCallThatGoes 23 = .ok (.invokestatic 35, 3) := by decide +kernel
theorem dX3_addCallThatGoes_26 : decode cX3_addCallThatGoes 26 = .ok (.iload_n 2, 1) := by decide +kernel
theorem dX3_addCallThatGoes_27 : decode cX3_addCallThatGoes 27 = .ok (.ireturn, 1) := by decide +kernel
theorem dX3_exchangeGoals_0 : decode cX3_exchangeGoals 0 = .ok (.aload_n 0, 1) := by decide +kernel
theorem dX3_exchangeGoals_1 : decode cX3_exchangeGoals 1 = .ok (.iload_n 1, 1) := by decide +kernel
theorem dX3_exchangeGoals_2 : decode cX3_exchangeGoals 2 = .ok (.iload_n 2, 1) := by decide +kernel
theorem dX3_exchangeGoals_3 : decode cX3_exchangeGoals 3 = .ok (.invokevirtual 76, 3) := by decide +kernel
theorem dX3_exchangeGoals_6 : decode cX3_exchangeGoals 6 = .ok (.ifCond .eq 17, 3) := by decide +kernel
theorem dX3_exchangeGoals_9 : decode cX3_exchangeGoals 9 = .ok (.iload_n 3, 1) := by decide +kernel
theorem dX3_exchangeGoals_10 : decode cX3_exchangeGoals 10 = .ok (.bipush 12, 2) := by decide +kernel
theorem dX3_exchangeGoals_12 : decode cX3_exchangeGoals 12 = .ok (.invokestatic 54, 3) := by decide +kernel
theorem dX3_exchangeGoals_15 : decode cX3_exchangeGoals 15 = .ok (.ifCond .eq 8, 3) := by decide +kernel
theorem dX3_exchangeGoals_18 : decode cX3_exchangeGoals 18 = .ok (.iload_n 2, 1) := by decide +kernel
theorem dX3_exchangeGoals_19 : decode cX3_exchangeGoals 19 = .ok (.iload_n 3, 1) := by decide +kernel
theorem dX3_exchangeGoals_20 : decode cX3_exchangeGoals 20 = .ok (.if_icmp .ne 6, 3) := by decide +kernel
theorem dX3_exchangeGoals_23 : decode cX3_exchangeGoals 23 = .ok (.bipush (-2), 2) := by decide +kernel
theorem dX3_exchangeGoals_25 : decode cX3_exchangeGoals 25 = .ok (.ireturn, 1) := by decide +kernel
theorem dX3_exchangeGoals_26 : decode cX3_exchangeGoals 26 = .ok (.aload_n 0, 1) := by decide +kernel
theorem dX3_exchangeGoals_27 : decode cX3_exchangeGoals 27 = .ok (.getfield 20, 3) := by decide +kernel
theorem dX3_exchangeGoals_30 : decode cX3_exchangeGoals 30 = .ok (.iload_n 1, 1) := by decide +kernel
theorem dX3_exchangeGoals_31 : decode cX3_exchangeGoals 31 = .ok (.aaload, 1) := by decide +kernel
theorem dX3_exchangeGoals_32 : decode cX3_exchangeGoals 32 = .ok (.getfield 73, 3) := by decide +kernel
theorem dX3_exchangeGoals_35 : decode cX3_exchangeGoals 35 = .ok (.astore 4, 2) := by decide +kernel
theorem dX3_exchangeGoals_37 : decode cX3_exchangeGoals 37 = .ok (.aload 4, 2) := by decide +kernel
theorem dX3_exchangeGoals_39 : decode cX3_exchangeGoals 39 = .ok (.iload_n 2, 1) := by decide +kernel
theorem dX3_exchangeGoals_40 : decode cX3_exchangeGoals 40 = .ok (.iaload, 1) := by decide +kernel
theorem dX3_exchangeGoals_41 : decode cX3_exchangeGoals 41 = .ok (.istore 5, 2) := by decide +kernel
theorem dX3_exchangeGoals_43 : decode cX3_exchangeGoals 43 = .ok (.aload 4, 2) := by decide +kernel
theorem dX3_exchangeGoals_45 : decode cX3_exchangeGoals 45 = .ok (.iload_n 2, 1) := by decide +kernel
theorem dX3_exchangeGoals_46 : decode cX3_exchangeGoals 46 = .ok (.aload 4, 2) := by decide +kernel
theorem dX3_exchangeGoals_48 : decode cX3_exchangeGoals 48 = .ok (.iload_n 3, 1) := by decide +kernel
theorem dX3_exchangeGoals_49 : decode cX3_exchangeGoals 49 = .ok (.iaload, 1) := by decide +kernel
theorem dX3_exchangeGoals_50 : decode cX3_exchangeGoals 50 = .ok (.iastore, 1) := by decide +kernel
theorem dX3_exchangeGoals_51 : decode cX3_exchangeGoals 51 = .ok (.aload 4, 2) := by decide +kernel
theorem dX3_exchangeGoals_53 : decode cX3_exchangeGoals 53 = .ok (.iload_n 3, 1) := by decide +kernel
theorem dX3_exchangeGoals_54 : decode cX3_exchangeGoals 54 = .ok (.iload 5, 2) := by decide +kernel
theorem dX3_exchangeGoals_56 : decode cX3_exchangeGoals 56 = .ok (.iastore, 1) := by decide +kernel
theorem dX3_exchangeGoals_57 : decode cX3_exchangeGoals 57 = .ok (.aload 4, 2) := by decide +kernel
theorem dX3_exchangeGoals_59 : decode cX3_exchangeGoals 59 = .ok (.iload_n 2, 1) := by decide +kernel
theorem dX3_exchangeGoals_60 : decode cX3_exchangeGoals 60 = .ok (.iaload, 1) := by decide +kernel
theorem dX3_exchangeGoals_61 : decode cX3_exchangeGoals 61 = .ok (.ireturn, 1) := by decide +kernel
theorem dX3_setTurn_0 : decode cX3_setTurn 0 = .ok (.aload_n 0, 1) := by decide +kernel
theorem dX3_setTurn_1 : decode cX3_setTurn 1 = .ok (.iload_n 1, 1) := by decide +kernel
theorem dX3_setTurn_2 : decode cX3_setTurn 2 = .ok (.iload_n 2, 1) := by decide +kernel
theorem dX3_setTurn_3 : decode cX3_setTurn 3 = .ok (.invokevirtual 76, 3) := by decide +kernel
theorem dX3_setTurn_6 : decode cX3_setTurn 6 = .ok (.ifCond .eq 11, 3) := by decide +kernel
theorem dX3_setTurn_9 : decode cX3_setTurn 9 = .ok (.iload_n 3, 1) := by decide +kernel
theorem dX3_setTurn_10 : decode cX3_setTurn 10 = .ok (.iconst 4, 1) := by decide +kernel
theorem dX3_setTurn_11 : decode cX3_setTurn 11 = .ok (.invokestatic 54, 3) := by decide +kernel
theorem dX3_setTurn_14 : decode cX3_setTurn 14 = .ok (.ifCond .ne 6, 3) := by decide +kernel
theorem dX3_setTurn_17 : decode cX3_setTurn 17 = .ok (.bipush (-2), 2) := by decide +kernel
theorem dX3_setTurn_19 : decode cX3_setTurn 19 = .ok (.ireturn, 1) := by decide +kernel
theorem dX3_setTurn_20 : decode cX3_setTurn 20 = .ok (.aload_n 0, 1) := by decide +kernel
theorem dX3_setTurn_21 : decode cX3_setTurn 21 = .ok (.getfield 20, 3) := by decide +kernel
theorem dX3_setTurn_24 : decode cX3_setTurn 24 = .ok (.iload_n 1, 1) := by decide +kernel
theorem dX3_setTurn_25 : decode cX3_setTurn 25 = .ok (.aaload, 1) := by decide +kernel
theorem dX3_setTurn_26 : decode cX3_setTurn 26 = .ok (.getfield 79, 3) := by decide +kernel
theorem dX3_setTurn_29 : decode cX3_setTurn 29 = .ok (.iload_n 2, 1) := by decide +kernel
theorem dX3_setTurn_30 : decode cX3_setTurn 30 = .ok (.iaload, 1) := by decide +kernel
theorem dX3_setTurn_31 : decode cX3_setTurn 31 = .ok (.istore 4, 2) := by decide +kernel
theorem dX3_setTurn_33 : decode cX3_setTurn 33 = .ok (.aload_n 0, 1) := by decide +kernel
theorem dX3_setTurn_34 : decode cX3_setTurn 34 = .ok (.getfield 20, 3) := by decide +kernel
theorem dX3_setTurn_37 : decode cX3_setTurn 37 = .ok (.iload_n 1, 1) := by decide +kernel
theorem dX3_setTurn_38 : decode cX3_setTurn 38 = .ok (.aaload, 1) := by decide +kernel
theorem dX3_setTurn_39 : decode cX3_setTurn 39 = .ok (.getfield 79, 3) := by decide +kernel
theorem dX3_setTurn_42 : decode cX3_setTurn 42 = .ok (.iload_n 2, 1) := by decide +kernel
theorem dX3_setTurn_43 : decode cX3_setTurn 43 = .ok (.iload_n 3, 1) := by decide +kernel
theorem dX3_setTurn_44 : decode cX3_setTurn 44 = .ok (.iastore, 1) := by decide +kernel
theorem dX3_setTurn_45 : decode cX3_setTurn 45 = .ok (.iload 4, 2) := by decide +kernel
theorem dX3_setTurn_47 : decode cX3_setTurn 47 = .ok (.ireturn, 1) := by decide +kernel
theorem dX3_setWant_0 : decode cX3_setWant 0 = .ok (.aload_n 0, 1) := by decide +kernel
theorem dX3_setWant_1 : decode cX3_setWant 1 = .ok (.iload_n 1, 1) := by decide +kernel
theorem dX3_setWant_2 : decode cX3_setWant 2 = .ok (.iload_n 2, 1) := by decide +kernel
theorem dX3_setWant_3 : decode cX3_setWant 3 = .ok (.invokevirtual 76, 3) := by decide +kernel
theorem dX3_setWant_6 : decode cX3_setWant 6 = .ok (.ifCond .eq 11, 3) := by decide +kernel
theorem dX3_setWant_9 : decode cX3_setWant 9 = .ok (.iload_n 3, 1) := by decide +kernel
theorem dX3_setWant_10 : decode cX3_setWant 10 = .ok (.iconst 3, 1) := by decide +kernel
theorem dX3_setWant_11 : decode cX3_setWant 11 = .ok (.invokestatic 54, 3) := by decide +kernel
theorem dX3_setWant_14 : decode cX3_setWant 14 = .ok (.ifCond .ne 6, 3) := by decide +kernel
theorem dX3_setWant_17 : decode cX3_setWant 17 = .ok (.bipush (-2), 2) := by decide +kernel
theorem dX3_setWant_19 : decode cX3_setWant 19 = .ok (.ireturn, 1) := by decide +kernel
theorem dX3_setWant_20 : decode cX3_setWant 20 = .ok (.aload_n 0, 1) := by decide +kernel
theorem dX3_setWant_21 : decode cX3_setWant 21 = .ok (.getfield 20, 3) := by decide +kernel
theorem dX3_setWant_24 : decode cX3_setWant 24 = .ok (.iload_n 1, 1) := by decide +kernel
theorem dX3_setWant_25 : decode cX3_setWant 25 = .ok (.aaload, 1) := by decide +kernel
theorem dX3_setWant_26 : decode cX3_setWant 26 = .ok (.getfield 82, 3) := by decide +kernel
theorem dX3_setWant_29 : decode cX3_setWant 29 = .ok (.iload_n 2, 1) := by decide +kernel
theorem dX3_setWant_30 : decode cX3_setWant 30 = .ok (.iaload, 1) := by decide +kernel
theorem dX3_setWant_31 : decode cX3_setWant 31 = .ok (.istore 4, 2) := by decide +kernel
theorem dX3_setWant_33 : decode cX3_setWant 33 = .ok (.aload_n 0, 1) := by decide +kernel
theorem dX3_setWant_34 : decode cX3_setWant 34 = .ok (.getfield 20, 3) := by decide +kernel
theorem dX3_setWant_37 : decode cX3_setWant 37 = .ok (.iload_n 1, 1) := by decide +kernel
theorem dX3_setWant_38 : decode cX3_setWant 38 = .ok (.aaload, 1) := by decide +kernel
theorem dX3_setWant_39 : decode cX3_setWant 39 = .ok (.getfield 82, 3) := by decide +kernel
theorem dX3_setWant_42 : decode cX3_setWant 42 = .ok (.iload_n 2, 1) := by decide +kernel
theorem dX3_setWant_43 : decode cX3_setWant 43 = .ok (.iload_n 3, 1) := by decide +kernel
theorem dX3_setWant_44 : decode cX3_setWant 44 = .ok (.iastore, 1) := by decide +kernel
theorem dX3_setWant_45 : decode cX3_setWant 45 = .ok (.iload 4, 2) := by decide +kernel
theorem dX3_setWant_47 : decode cX3_setWant 47 = .ok (.ireturn, 1) := by decide +kernel
theorem dX3_addJoined_0 : decode cX3_addJoined 0 = .ok (.iload_n 1, 1) := by decide +kernel
theorem dX3_addJoined_1 : decode cX3_addJoined 1 = .ok (.aload_n 0, 1) := by decide +kernel
theorem dX3_addJoined_2 : decode cX3_addJoined 2 = .ok (.getfield 41, 3) := by decide +kernel
theorem dX3_addJoined_5 : decode cX3_addJoined 5 = .ok (.invokestatic 54, 3) := by decide +kernel
theorem dX3_addJoined_8 : decode cX3_addJoined 8 = .ok (.ifCond .eq 14, 3) := by decide +kernel
theorem dX3_addJoined_11 : decode cX3_addJoined 11 = .ok (.iload_n 2, 1) := by decide +kernel
theorem dX3_addJoined_12 : decode cX3_addJoined 12 = .ok (.aload_n 0, 1) := by decide +kernel
theorem dX3_addJoined_13 : decode cX3_addJoined 13 = .ok (.getfield 41, 3) := by decide +kernel
theorem dX3_addJoined_16 : decode cX3_addJoined 16 = .ok (.invokestatic 54, 3) := by decide +kernel
theorem dX3_addJoined_19 : decode cX3_addJoined 19 = .ok (.ifCond .ne 6, 3) := by decide +kernel
theorem dX3_addJoined_22 : decode cX3_addJoined 22 = .ok (.bipush (-2), 2) := by decide +kernel
theorem dX3_addJoined_24 : decode cX3_addJoined 24 = .ok (.ireturn, 1) := by decide +kernel
theorem dX3_addJoined_25 : decode cX3_addJoined 25 = .ok (.aload_n 0, 1) := by decide +kernel
theorem dX3_addJoined_26 : decode cX3_addJoined 26 = .ok (.getfield 20, 3) := by decide +kernel
theorem dX3_addJoined_29 : decode cX3_addJoined 29 = .ok (.iload_n 1, 1) := by decide +kernel
theorem dX3_addJoined_30 : decode cX3_addJoined 30 = .ok (.aaload, 1) := by decide +kernel
theorem dX3_addJoined_31 : decode cX3_addJoined 31 = .ok (.aload_n 0, 1) := by decide +kernel
theorem dX3_addJoined_32 : decode cX3_addJoined 32 = .ok (.getfield 20, 3) := by decide +kernel
theorem dX3_addJoined_35 : decode cX3_addJoined 35 = .ok (.iload_n 2, 1) := by decide +kernel
theorem dX3_addJoined_36 : decode cX3_addJoined 36 = .ok (.aaload, 1) := by decide +kernel
theorem dX3_addJoined_37 : decode cX3_addJoined 37 = .ok (.invokevirtual 85, 3) := by decide +kernel
theorem dX3_addJoined_40 : decode cX3_addJoined 40 = .ok (.ifCond .ne 6, 3) := by decide +kernel
theorem dX3_addJoined_43 : decode cX3_addJoined 43 = .ok (.bipush (-3), 2) := by decide +kernel
theorem dX3_addJoined_45 : decode cX3_addJoined 45 = .ok (.ireturn, 1) := by decide +kernel
theorem dX3_addJoined_46 : decode cX3_addJoined 46 = .ok (.aload_n 0, 1) := by decide +kernel
theorem dX3_addJoined_47 : decode cX3_addJoined 47 = .ok (.invokevirtual 69, 3) := by decide +kernel
theorem dX3_addJoined_50 : decode cX3_addJoined 50 = .ok (.istore_n 3, 1) := by decide +kernel
theorem dX3_addJoined_51 : decode cX3_addJoined 51 = .ok (.iload_n 3, 1) := by decide +kernel
theorem dX3_addJoined_52 : decode cX3_addJoined 52 = .ok (.ifCond .lt 24, 3) := by decide +kernel
theorem dX3_addJoined_55 : decode cX3_addJoined 55 = .ok (.aload_n 0, 1) := by decide +kernel
theorem dX3_addJoined_56 : decode cX3_addJoined 56 = .ok (.getfield 20, 3) := by decide +kernel
theorem dX3_addJoined_59 : decode cX3_addJoined 59 = .ok (.iload_n 3, 1) := by decide +kernel
theorem dX3_addJoined_60 : decode cX3_addJoined 60 = .ok (.aaload, 1) := by decide +kernel
theorem dX3_addJoined_61 : decode cX3_addJoined 61 = .ok (.aload_n 0, 1) := by decide +kernel
theorem dX3_addJoined_62 : decode cX3_addJoined 62 = .ok (.getfield 20, 3) := by decide +kernel
theorem dX3_addJoined_65 : decode cX3_addJoined 65 = .ok (.iload_n 1, 1) := by decide +kernel
theorem dX3_addJoined_66 : decode cX3_addJoined 66 = .ok (.aaload, 1) := by decide +kernel
theorem dX3_addJoined_67 : decode cX3_addJoined 67 = .ok (.aload_n 0, 1) := by decide +kernel
theorem dX3_addJoined_68 : decode cX3_addJoined 68 = .ok (.getfield 20, 3) := by decide +kernel
theorem dX3_addJoined_71 : decode cX3_addJoined 71 = .ok (.iload_n 2, 1) := by decide +kernel
theorem dX3_addJoined_72 : decode cX3_addJoined 72 = .ok (.aaload, 1) := by decide +kernel
theorem dX3_addJoined_73 : decode cX3_addJoined 73 = .ok (.invokevirtual 89, 3) := by decide +kernel
theorem dX3_addJoined_76 : decode cX3_addJoined 76 = .ok (.iload_n 3, 1) := by decide +kernel
theorem dX3_addJoined_77 : decode cX3_addJoined 77 = .ok (.ireturn, 1) := by decide +kernel
theorem dX3_addTurnedBack_0 : decode cX3_addTurnedBack 0 = .ok (.iload_n 1, 1) := by decide +kernel
theorem dX3_addTurnedBack_1 : decode cX3_addTurnedBack 1 = .ok (.aload_n 0, 1) := by decide +kernel
theorem dX3_addTurnedBack_2 : decode cX3_addTurnedBack 2 = .ok (.getfield 41, 3) := by decide +kernel
theorem dX3_addTurnedBack_5 : decode cX3_addTurnedBack 5 = .ok (.invokestatic 54, 3) := by decide +kernel
theorem dX3_addTurnedBack_8 : decode cX3_addTurnedBack 8 = .ok (.ifCond .ne 6, 3) := by decide +kernel
theorem dX3_addTurnedBack_11 : decode cX3_addTurnedBack 11 = .ok (.bipush (-2), 2) := by decide +kernel
theorem dX3_addTurnedBack_13 : decode cX3_addTurnedBack 13 = .ok (.ireturn, 1) := by decide +kernel
theorem dX3_addTurnedBack_14 : decode cX3_addTurnedBack 14 = .ok (.aload_n 0, 1) := by decide +kernel
theorem dX3_addTurnedBack_15 : decode cX3_addTurnedBack 15 = .ok (.invokevirtual 69, 3) := by decide +kernel
theorem dX3_addTurnedBack_18 : decode cX3_addTurnedBack 18 = .ok (.istore_n 2, 1) := by decide +kernel
theorem dX3_addTurnedBack_19 : decode cX3_addTurnedBack 19 = .ok (.iload_n 2, 1) := by decide +kernel
theorem dX3_addTurnedBack_20 : decode cX3_addTurnedBack 20 = .ok (.ifCond .lt 18, 3) := by decide +kernel
theorem dX3_addTurnedBack_23 : decode cX3_addTurnedBack 23 = .ok (.aload_n 0, 1) := by decide +kernel
theorem dX3_addTurnedBack_24 : decode cX3_addTurnedBack 24 = .ok (.getfield 20, 3) := by decide +kernel
theorem dX3_addTurnedBack_27 : decode cX3_addTurnedBack 27 = .ok (.iload_n 2, 1) := by decide +kernel
theorem dX3_addTurnedBack_28 : decode cX3_addTurnedBack 28 = .ok (.aaload, 1) := by decide +kernel
theorem dX3_addTurnedBack_29 : decode cX3_addTurnedBack 29 = .ok (.aload_n 0, 1) := by decide +kernel
theorem dX3_addTurnedBack_30 : decode cX3_addTurnedBack 30 = .ok (.getfield 20, 3) := by decide +kernel
theorem dX3_addTurnedBack_33 : decode cX3_addTurnedBack 33 = .ok (.iload_n 1, 1) := by decide +kernel
theorem dX3_addTurnedBack_34 : decode cX3_addTurnedBack 34 = .ok (.aaload, 1) := by decide +kernel
theorem dX3_addTurnedBack_35 : decode cX3_addTurnedBack 35 = .ok (.invokevirtual 93, 3) := by decide +kernel
theorem dX3_addTurnedBack_38 : decode cX3_addTurnedBack 38 = .ok (.iload_n 2, 1) := by decide +kernel
theorem dX3_addTurnedBack_39 : decode cX3_addTurnedBack 39 = .ok (.ireturn, 1) := by decide +kernel
theorem dX3_give_0 : decode cX3_give 0 = .ok (.iload_n 1, 1) := by decide +kernel
theorem dX3_give_1 : decode cX3_give 1 = .ok (.aload_n 0, 1) := by decide +kernel
theorem dX3_give_2 : decode cX3_give 2 = .ok (.getfield 41, 3) := by decide +kernel
theorem dX3_give_5 : decode cX3_give 5 = .ok (.invokestatic 54, 3) := by decide +kernel
theorem dX3_give_8 : decode cX3_give 8 = .ok (.ifCond .ne 6, 3) := by decide +kernel
theorem dX3_give_11 : decode cX3_give 11 = .ok (.bipush (-2), 2) := by decide +kernel
theorem dX3_give_13 : decode cX3_give 13 = .ok (.ireturn, 1) := by decide +kernel
theorem dX3_give_14 : decode cX3_give 14 = .ok (.aload_n 0, 1) := by decide +kernel
theorem dX3_give_15 : decode cX3_give 15 = .ok (.getfield 20, 3) := by decide +kernel
theorem dX3_give_18 : decode cX3_give 18 = .ok (.iload_n 1, 1) := by decide +kernel
theorem dX3_give_19 : decode cX3_give 19 = .ok (.aaload, 1) := by decide +kernel
theorem dX3_give_20 : decode cX3_give 20 = .ok (.aload_n 0, 1) := by decide +kernel
theorem dX3_give_21 : decode cX3_give 21 = .ok (.getfield 9, 3) := by decide +kernel
theorem dX3_give_24 : decode cX3_give 24 = .ok (.aload_n 0, 1) := by decide +kernel
theorem dX3_give_25 : decode cX3_give 25 = .ok (.getfield 31, 3) := by decide +kernel
theorem dX3_give_28 : decode cX3_give 28 = .ok (.invokestatic 96, 3) := by decide +kernel
theorem dX3_give_31 : decode cX3_give 31 = .ok (.invokevirtual 100, 3) := by decide +kernel
theorem dX3_give_34 : decode cX3_give 34 = .ok (.ifCond .ne 6, 3) := by decide +kernel
theorem dX3_give_37 : decode cX3_give 37 = .ok (.bipush (-3), 2) := by decide +kernel
theorem dX3_give_39 : decode cX3_give 39 = .ok (.ireturn, 1) := by decide +kernel
theorem dX3_give_40 : decode cX3_give 40 = .ok (.aload_n 0, 1) := by decide +kernel
theorem dX3_give_41 : decode cX3_give 41 = .ok (.dup, 1) := by decide +kernel
theorem dX3_give_42 : decode cX3_give 42 = .ok (.getfield 51, 3) := by decide +kernel
theorem dX3_give_45 : decode cX3_give 45 = .ok (.iconst 1, 1) := by decide +kernel
theorem dX3_give_46 : decode cX3_give 46 = .ok (.iadd, 1) := by decide +kernel
theorem dX3_give_47 : decode cX3_give 47 = .ok (.putfield 51, 3) := by decide +kernel
theorem dX3_give_50 : decode cX3_give 50 = .ok (.aload_n 0, 1) := by decide +kernel
theorem dX3_give_51 : decode cX3_give 51 = .ok (.aload_n 0, 1) := by decide +kernel
theorem dX3_give_52 : decode cX3_give 52 = .ok (.getfield 9, 3) := by decide +kernel
theorem dX3_give_55 : decode cX3_give 55 = .ok (.aload_n 0, 1) := by decide +kernel
theorem dX3_give_56 : decode cX3_give 56 = .ok (.getfield 20, 3) := by decide +kernel
theorem dX3_give_59 : decode cX3_give 59 = .ok (.iload_n 1, 1) := by decide +kernel
theorem dX3_give_60 : decode cX3_give 60 = .ok (.aaload, 1) := by decide +kernel
theorem dX3_give_61 : decode cX3_give 61 = .ok (.invokevirtual 103, 3) := by decide +kernel
theorem dX3_give_64 : decode cX3_give 64 = .ok (.ireturn, 1) := by decide +kernel
theorem dX3_sendHome_0 : decode cX3_sendHome 0 = .ok (.aload_n 0, 1) := by decide +kernel
theorem dX3_sendHome_1 : decode cX3_sendHome 1 = .ok (.getfield 31, 3) := by decide +kernel
theorem dX3_sendHome_4 : decode cX3_sendHome 4 = .ok (.aload_n 0, 1) := by decide +kernel
theorem dX3_sendHome_5 : decode cX3_sendHome 5 = .ok (.invokevirtual 107, 3) := by decide +kernel
theorem dX3_sendHome_8 : decode cX3_sendHome 8 = .ok (.isub, 1) := by decide +kernel
theorem dX3_sendHome_9 : decode cX3_sendHome 9 = .ok (.istore_n 1, 1) := by decide +kernel
theorem dX3_sendHome_10 : decode cX3_sendHome 10 = .ok (.aload_n 0, 1) := by decide +kernel
theorem dX3_sendHome_11 : decode cX3_sendHome 11 = .ok (.getfield 15, 3) := by decide +kernel
theorem dX3_sendHome_14 : decode cX3_sendHome 14 = .ok (.iconst 0, 1) := by decide +kernel
theorem dX3_sendHome_15 : decode cX3_sendHome 15 = .ok (.aload_n 0, 1) := by decide +kernel
theorem dX3_sendHome_16 : decode cX3_sendHome 16 = .ok (.getfield 9, 3) := by decide +kernel
theorem dX3_sendHome_19 : decode cX3_sendHome 19 = .ok (.iconst 0, 1) := by decide +kernel
theorem dX3_sendHome_20 : decode cX3_sendHome 20 = .ok (.bipush 8, 2) := by decide +kernel
theorem dX3_sendHome_22 : decode cX3_sendHome 22 = .ok (.invokestatic 35, 3) := by decide +kernel
theorem dX3_sendHome_25 : decode cX3_sendHome 25 = .ok (.iload_n 1, 1) := by decide +kernel
theorem dX3_sendHome_26 : decode cX3_sendHome 26 = .ok (.ireturn, 1) := by decide +kernel
theorem dX3_addToPlan_0 : decode cX3_addToPlan 0 = .ok (.iload_n 1, 1) := by decide +kernel
theorem dX3_addToPlan_1 : decode cX3_addToPlan 1 = .ok (.aload_n 0, 1) := by decide +kernel
theorem dX3_addToPlan_2 : decode cX3_addToPlan 2 = .ok (.getfield 41, 3) := by decide +kernel
theorem dX3_addToPlan_5 : decode cX3_addToPlan 5 = .ok (.invokestatic 54, 3) := by decide +kernel
theorem dX3_addToPlan_8 : decode cX3_addToPlan 8 = .ok (.ifCond .ne 6, 3) := by decide +kernel
theorem dX3_addToPlan_11 : decode cX3_addToPlan 11 = .ok (.bipush (-2), 2) := by decide +kernel
theorem dX3_addToPlan_13 : decode cX3_addToPlan 13 = .ok (.ireturn, 1) := by decide +kernel
theorem dX3_addToPlan_14 : decode cX3_addToPlan 14 = .ok (.aload_n 0, 1) := by decide +kernel
theorem dX3_addToPlan_15 : decode cX3_addToPlan 15 = .ok (.getfield 48, 3) := by decide +kernel
theorem dX3_addToPlan_18 : decode cX3_addToPlan 18 = .ok (.bipush 12, 2) := by decide +kernel
theorem dX3_addToPlan_20 : decode cX3_addToPlan 20 = .ok (.if_icmp .lt 6, 3) := by decide +kernel
theorem dX3_addToPlan_23 : decode cX3_addToPlan 23 = .ok (.bipush (-4), 2) := by decide +kernel
theorem dX3_addToPlan_25 : decode cX3_addToPlan 25 = .ok (.ireturn, 1) := by decide +kernel
theorem dX3_addToPlan_26 : decode cX3_addToPlan 26 = .ok (.aload_n 0, 1) := by decide +kernel
theorem dX3_addToPlan_27 : decode cX3_addToPlan 27 = .ok (.getfield 24, 3) := by decide +kernel
theorem dX3_addToPlan_30 : decode cX3_addToPlan 30 = .ok (.aload_n 0, 1) := by decide +kernel
theorem dX3_addToPlan_31 : decode cX3_addToPlan 31 = .ok (.getfield 48, 3) := by decide +kernel
theorem dX3_addToPlan_34 : decode cX3_addToPlan 34 = .ok (.iload_n 1, 1) := by decide +kernel
theorem dX3_addToPlan_35 : decode cX3_addToPlan 35 = .ok (.iastore, 1) := by decide +kernel
theorem dX3_addToPlan_36 : decode cX3_addToPlan 36 = .ok (.aload_n 0, 1) := by decide +kernel
theorem dX3_addToPlan_37 : decode cX3_addToPlan 37 = .ok (.dup, 1) := by decide +kernel
theorem dX3_addToPlan_38 : decode cX3_addToPlan 38 = .ok (.getfield 48, 3) := by decide +kernel
theorem dX3_addToPlan_41 : decode cX3_addToPlan 41 = .ok (.iconst 1, 1) := by decide +kernel
theorem dX3_addToPlan_42 : decode cX3_addToPlan 42 = .ok (.iadd, 1) := by decide +kernel
theorem dX3_addToPlan_43 : decode cX3_addToPlan 43 = .ok (.putfield 48, 3) := by decide +kernel
theorem dX3_addToPlan_46 : decode cX3_addToPlan 46 = .ok (.aload_n 0, 1) := by decide +kernel
theorem dX3_addToPlan_47 : decode cX3_addToPlan 47 = .ok (.getfield 48, 3) := by decide +kernel
theorem dX3_addToPlan_50 : decode cX3_addToPlan 50 = .ok (.ireturn, 1) := by decide +kernel
theorem dX3_emptyPlan_0 : decode cX3_emptyPlan 0 = .ok (.aload_n 0, 1) := by decide +kernel
theorem dX3_emptyPlan_1 : decode cX3_emptyPlan 1 = .ok (.getfield 48, 3) := by decide +kernel
theorem dX3_emptyPlan_4 : decode cX3_emptyPlan 4 = .ok (.istore_n 1, 1) := by decide +kernel
theorem dX3_emptyPlan_5 : decode cX3_emptyPlan 5 = .ok (.aload_n 0, 1) := by decide +kernel
theorem dX3_emptyPlan_6 : decode cX3_emptyPlan 6 = .ok (.iconst 0, 1) := by decide +kernel
theorem dX3_emptyPlan_7 : decode cX3_emptyPlan 7 = .ok (.putfield 48, 3) := by decide +kernel
theorem dX3_emptyPlan_10 : decode cX3_emptyPlan 10 = .ok (.iload_n 1, 1) := by decide +kernel
theorem dX3_emptyPlan_11 : decode cX3_emptyPlan 11 = .ok (.ireturn, 1) := by decide +kernel
theorem dX3_followPlan_0 : decode cX3_followPlan 0 = .ok (.aload_n 0, 1) := by decide +kernel
theorem dX3_followPlan_1 : decode cX3_followPlan 1 = .ok (.getfield 9, 3) := by decide +kernel
theorem dX3_followPlan_4 : decode cX3_followPlan 4 = .ok (.iconst 0, 1) := by decide +kernel
theorem dX3_followPlan_5 : decode cX3_followPlan 5 = .ok (.aload_n 0, 1) := by decide +kernel
theorem dX3_followPlan_6 : decode cX3_followPlan 6 = .ok (.getfield 27, 3) := by decide +kernel
theorem dX3_followPlan_9 : decode cX3_followPlan 9 = .ok (.iconst 0, 1) := by decide +kernel
theorem dX3_followPlan_10 : decode cX3_followPlan 10 = .ok (.bipush 8, 2) := by decide +kernel
theorem dX3_followPlan_12 : decode cX3_followPlan 12 = .ok (.invokestatic 35, 3) := by decide +kernel
theorem dX3_followPlan_15 : decode cX3_followPlan 15 = .ok (.iconst 0, 1) := by decide +kernel
theorem dX3_followPlan_16 : decode cX3_followPlan 16 = .ok (.istore_n 1, 1) := by decide +kernel
theorem dX3_followPlan_17 : decode cX3_followPlan 17 = .ok (.iload_n 1, 1) := by decide +kernel
theorem dX3_followPlan_18 : decode cX3_followPlan 18 = .ok (.aload_n 0, 1) := by decide +kernel
theorem dX3_followPlan_19 : decode cX3_followPlan 19 = .ok (.getfield 48, 3) := by decide +kernel
theorem dX3_followPlan_22 : decode cX3_followPlan 22 = .ok (.if_icmp .ge 51, 3) := by decide +kernel
theorem dX3_followPlan_25 : decode cX3_followPlan 25 = .ok (.aload_n 0, 1) := by decide +kernel
theorem dX3_followPlan_26 : decode cX3_followPlan 26 = .ok (.getfield 20, 3) := by decide +kernel
theorem dX3_followPlan_29 : decode cX3_followPlan 29 = .ok (.aload_n 0, 1) := by decide +kernel
theorem dX3_followPlan_30 : decode cX3_followPlan 30 = .ok (.getfield 24, 3) := by decide +kernel
theorem dX3_followPlan_33 : decode cX3_followPlan 33 = .ok (.iload_n 1, 1) := by decide +kernel
theorem dX3_followPlan_34 : decode cX3_followPlan 34 = .ok (.iaload, 1) := by decide +kernel
theorem dX3_followPlan_35 : decode cX3_followPlan 35 = .ok (.aaload, 1) := by decide +kernel
theorem dX3_followPlan_36 : decode cX3_followPlan 36 = .ok (.astore_n 2, 1) := by decide +kernel
theorem dX3_followPlan_37 : decode cX3_followPlan 37 = .ok (.aload_n 2, 1) := by decide +kernel
theorem dX3_followPlan_38 : decode cX3_followPlan 38 = .ok (.aload_n 0, 1) := by decide +kernel
theorem dX3_followPlan_39 : decode cX3_followPlan 39 = .ok (.getfield 27, 3) := by decide +kernel
theorem dX3_followPlan_42 : decode cX3_followPlan 42 = .ok (.aload_n 0, 1) := by decide +kernel
theorem dX3_followPlan_43 : decode cX3_followPlan 43 = .ok (.getfield 31, 3) := by decide +kernel
theorem dX3_followPlan_46 : decode cX3_followPlan 46 = .ok (.invokestatic 96, 3) := by decide +kernel
theorem dX3_followPlan_49 : decode cX3_followPlan 49 = .ok (.invokevirtual 100, 3) := by decide +kernel
theorem dX3_followPlan_52 : decode cX3_followPlan 52 = .ok (.ifCond .ne 5, 3) := by decide +kernel
theorem dX3_followPlan_55 : decode cX3_followPlan 55 = .ok (.iload_n 1, 1) := by decide +kernel
theorem dX3_followPlan_56 : decode cX3_followPlan 56 = .ok (.ireturn, 1) := by decide +kernel
theorem dX3_followPlan_57 : decode cX3_followPlan 57 = .ok (.aload_n 0, 1) := by decide +kernel
theorem dX3_followPlan_58 : decode cX3_followPlan 58 = .ok (.aload_n 0, 1) := by decide +kernel
theorem dX3_followPlan_59 : decode cX3_followPlan 59 = .ok (.getfield 27, 3) := by decide +kernel
theorem dX3_followPlan_62 : decode cX3_followPlan 62 = .ok (.aload_n 2, 1) := by decide +kernel
theorem dX3_followPlan_63 : decode cX3_followPlan 63 = .ok (.invokevirtual 103, 3) := by decide +kernel
theorem dX3_followPlan_66 : decode cX3_followPlan 66 = .ok (.pop, 1) := by decide +kernel
theorem dX3_followPlan_67 : decode cX3_followPlan 67 = .ok (.iinc 1 1, 3) := by decide +kernel
theorem dX3_followPlan_70 : decode cX3_followPlan 70 = .ok (.goto (-53), 3) := by decide +kernel
theorem dX3_followPlan_73 : decode cX3_followPlan 73 = .ok (.iconst (-1), 1) := by decide +kernel
theorem dX3_followPlan_74 : decode cX3_followPlan 74 = .ok (.ireturn, 1) := by decide +kernel
theorem dX3_askPlanned_0 : decode cX3_askPlanned 0 = .ok (.iload_n 1, 1) := by decide +kernel
theorem dX3_askPlanned_1 : decode cX3_askPlanned 1 = .ok (.aload_n 0, 1) := by decide +kernel
theorem dX3_askPlanned_2 : decode cX3_askPlanned 2 = .ok (.getfield 31, 3) := by decide +kernel
theorem dX3_askPlanned_5 : decode cX3_askPlanned 5 = .ok (.invokestatic 54, 3) := by decide +kernel
theorem dX3_askPlanned_8 : decode cX3_askPlanned 8 = .ok (.ifCond .eq 11, 3) := by decide +kernel
theorem dX3_askPlanned_11 : decode cX3_askPlanned 11 = .ok (.iload_n 2, 1) := by decide +kernel
theorem dX3_askPlanned_12 : decode cX3_askPlanned 12 = .ok (.iconst 2, 1) := by decide +kernel
theorem dX3_askPlanned_13 : decode cX3_askPlanned 13 = .ok (.invokestatic 54, 3) := by decide +kernel
theorem dX3_askPlanned_16 : decode cX3_askPlanned 16 = .ok (.ifCond .ne 6, 3) := by decide +kernel
theorem dX3_askPlanned_19 : decode cX3_askPlanned 19 = .ok (.bipush (-2), 2) := by decide +kernel
theorem dX3_askPlanned_21 : decode cX3_askPlanned 21 = .ok (.ireturn, 1) := by decide +kernel
theorem dX3_askPlanned_22 : decode cX3_askPlanned 22 = .ok (.aload_n 0, 1) := by decide +kernel
theorem dX3_askPlanned_23 : decode cX3_askPlanned 23 = .ok (.invokevirtual 110, 3) := by decide +kernel
theorem dX3_askPlanned_26 : decode cX3_askPlanned 26 = .ok (.pop, 1) := by decide +kernel
theorem dX3_askPlanned_27 : decode cX3_askPlanned 27 = .ok (.iload_n 2, 1) := by decide +kernel
theorem dX3_askPlanned_28 : decode cX3_askPlanned 28 = .ok (.ifCond .ne 14, 3) := by decide +kernel
theorem dX3_askPlanned_31 : decode cX3_askPlanned 31 = .ok (.aload_n 0, 1) := by decide +kernel
theorem dX3_askPlanned_32 : decode cX3_askPlanned 32 = .ok (.getfield 27, 3) := by decide +kernel
theorem dX3_askPlanned_35 : decode cX3_askPlanned 35 = .ok (.iload_n 1, 1) := by decide +kernel
theorem dX3_askPlanned_36 : decode cX3_askPlanned 36 = .ok (.iaload, 1) := by decide +kernel
theorem dX3_askPlanned_37 : decode cX3_askPlanned 37 = .ok (.iconst 4, 1) := by decide +kernel
theorem dX3_askPlanned_38 : decode cX3_askPlanned 38 = .ok (.idiv, 1) := by decide +kernel
theorem dX3_askPlanned_39 : decode cX3_askPlanned 39 = .ok (.goto 11, 3) := by decide +kernel
theorem dX3_askPlanned_42 : decode cX3_askPlanned 42 = .ok (.aload_n 0, 1) := by decide +kernel
theorem dX3_askPlanned_43 : decode cX3_askPlanned 43 = .ok (.getfield 27, 3) := by decide +kernel
theorem dX3_askPlanned_46 : decode cX3_askPlanned 46 = .ok (.iload_n 1, 1) := by decide +kernel
theorem dX3_askPlanned_47 : decode cX3_askPlanned 47 = .ok (.iaload, 1) := by decide +kernel
theorem dX3_askPlanned_48 : decode cX3_askPlanned 48 = .ok (.iconst 4, 1) := by decide +kernel
theorem dX3_askPlanned_49 : decode cX3_askPlanned 49 = .ok (.irem, 1) := by decide +kernel
theorem dX3_askPlanned_50 : decode cX3_askPlanned 50 = .ok (.ireturn, 1) := by decide +kernel
theorem dX3_askDancer_0 : decode cX3_askDancer 0 = .ok (.iload_n 1, 1) := by decide +kernel
theorem dX3_askDancer_1 : decode cX3_askDancer 1 = .ok (.aload_n 0, 1) := by decide +kernel
theorem dX3_askDancer_2 : decode cX3_askDancer 2 = .ok (.getfield 31, 3) := by decide +kernel
theorem dX3_askDancer_5 : decode cX3_askDancer 5 = .ok (.invokestatic 54, 3) := by decide +kernel
theorem dX3_askDancer_8 : decode cX3_askDancer 8 = .ok (.ifCond .ne 6, 3) := by decide +kernel
theorem dX3_askDancer_11 : decode cX3_askDancer 11 = .ok (.bipush (-2), 2) := by decide +kernel
theorem dX3_askDancer_13 : decode cX3_askDancer 13 = .ok (.ireturn, 1) := by decide +kernel
theorem dX3_askDancer_14 : decode cX3_askDancer 14 = .ok (.iload_n 2, 1) := by decide +kernel
theorem dX3_askDancer_15 : decode cX3_askDancer 15 = .ok (.tableswitch 118 0 6 #[41, 50, 59, 68, 77, 98, 104], 41) := by decide +kernel
theorem dX3_askDancer_56 : decode cX3_askDancer 56 = .ok (.aload_n 0, 1) := by decide +kernel
theorem dX3_askDancer_57 : decode cX3_askDancer 57 = .ok (.getfield 9, 3) := by decide +kernel
theorem dX3_askDancer_60 : decode cX3_askDancer 60 = .ok (.iload_n 1, 1) := by decide +kernel
theorem dX3_askDancer_61 : decode cX3_askDancer 61 = .ok (.iaload, 1) := by decide +kernel
theorem dX3_askDancer_62 : decode cX3_askDancer 62 = .ok (.iconst 4, 1) := by decide +kernel
theorem dX3_askDancer_63 : decode cX3_askDancer 63 = .ok (.idiv, 1) := by decide +kernel
theorem dX3_askDancer_64 : decode cX3_askDancer 64 = .ok (.ireturn, 1) := by decide +kernel
theorem dX3_askDancer_65 : decode cX3_askDancer 65 = .ok (.aload_n 0, 1) := by decide +kernel
theorem dX3_askDancer_66 : decode cX3_askDancer 66 = .ok (.getfield 9, 3) := by decide +kernel
theorem dX3_askDancer_69 : decode cX3_askDancer 69 = .ok (.iload_n 1, 1) := by decide +kernel
theorem dX3_askDancer_70 : decode cX3_askDancer 70 = .ok (.iaload, 1) := by decide +kernel
theorem dX3_askDancer_71 : decode cX3_askDancer 71 = .ok (.iconst 4, 1) := by decide +kernel
theorem dX3_askDancer_72 : decode cX3_askDancer 72 = .ok (.irem, 1) := by decide +kernel
theorem dX3_askDancer_73 : decode cX3_askDancer 73 = .ok (.ireturn, 1) := by decide +kernel
theorem dX3_askDancer_74 : decode cX3_askDancer 74 = .ok (.aload_n 0, 1) := by decide +kernel
theorem dX3_askDancer_75 : decode cX3_askDancer 75 = .ok (.getfield 15, 3) := by decide +kernel
theorem dX3_askDancer_78 : decode cX3_askDancer 78 = .ok (.iload_n 1, 1) := by decide +kernel
theorem dX3_askDancer_79 : decode cX3_askDancer 79 = .ok (.iaload, 1) := by decide +kernel
theorem dX3_askDancer_80 : decode cX3_askDancer 80 = .ok (.iconst 4, 1) := by decide +kernel
theorem dX3_askDancer_81 : decode cX3_askDancer 81 = .ok (.idiv, 1) := by decide +kernel
theorem dX3_askDancer_82 : decode cX3_askDancer 82 = .ok (.ireturn, 1) := by decide +kernel
theorem dX3_askDancer_83 : decode cX3_askDancer 83 = .ok (.aload_n 0, 1) := by decide +kernel
theorem dX3_askDancer_84 : decode cX3_askDancer 84 = .ok (.getfield 15, 3) := by decide +kernel
theorem dX3_askDancer_87 : decode cX3_askDancer 87 = .ok (.iload_n 1, 1) := by decide +kernel
theorem dX3_askDancer_88 : decode cX3_askDancer 88 = .ok (.iaload, 1) := by decide +kernel
theorem dX3_askDancer_89 : decode cX3_askDancer 89 = .ok (.iconst 4, 1) := by decide +kernel
theorem dX3_askDancer_90 : decode cX3_askDancer 90 = .ok (.irem, 1) := by decide +kernel
theorem dX3_askDancer_91 : decode cX3_askDancer 91 = .ok (.ireturn, 1) := by decide +kernel
theorem dX3_askDancer_92 : decode cX3_askDancer 92 = .ok (.aload_n 0, 1) := by decide +kernel
theorem dX3_askDancer_93 : decode cX3_askDancer 93 = .ok (.getfield 9, 3) := by decide +kernel
theorem dX3_askDancer_96 : decode cX3_askDancer 96 = .ok (.iload_n 1, 1) := by decide +kernel
theorem dX3_askDancer_97 : decode cX3_askDancer 97 = .ok (.iaload, 1) := by decide +kernel
theorem dX3_askDancer_98 : decode cX3_askDancer 98 = .ok (.aload_n 0, 1) := by decide +kernel
theorem dX3_askDancer_99 : decode cX3_askDancer 99 = .ok (.getfield 15, 3) := by decide +kernel
theorem dX3_askDancer_102 : decode cX3_askDancer 102 = .ok (.iload_n 1, 1) := by decide +kernel
theorem dX3_askDancer_103 : decode cX3_askDancer 103 = .ok (.iaload, 1) := by decide +kernel
theorem dX3_askDancer_104 : decode cX3_askDancer 104 = .ok (.if_icmp .ne 7, 3) := by decide +kernel
theorem dX3_askDancer_107 : decode cX3_askDancer 107 = .ok (.iconst 1, 1) := by decide +kernel
theorem dX3_askDancer_108 : decode cX3_askDancer 108 = .ok (.goto 4, 3) := by decide +kernel
theorem dX3_askDancer_111 : decode cX3_askDancer 111 = .ok (.iconst 0, 1) := by decide +kernel
theorem dX3_askDancer_112 : decode cX3_askDancer 112 = .ok (.ireturn, 1) := by decide +kernel
theorem dX3_askDancer_113 : decode cX3_askDancer 113 = .ok (.aload_n 0, 1) := by decide +kernel
theorem dX3_askDancer_114 : decode cX3_askDancer 114 = .ok (.iload_n 1, 1) := by decide +kernel
theorem dX3_askDancer_115 : decode cX3_askDancer 115 = .ok (.invokevirtual 113, 3) := by decide +kernel
theorem dX3_askDancer_118 : decode cX3_askDancer 118 = .ok (.ireturn, 1) := by decide +kernel
theorem dX3_askDancer_119 : decode cX3_askDancer 119 = .ok (.aload_n 0, 1) := by decide +kernel
theorem dX3_askDancer_120 : decode cX3_askDancer 120 = .ok (.iload_n 1, 1) := by decide +kernel
theorem dX3_askDancer_121 : decode cX3_askDancer 121 = .ok (.invokevirtual 116, 3) := by decide +kernel
theorem dX3_askDancer_124 : decode cX3_askDancer 124 = .ok (.ifCond .eq 7, 3) := by decide +kernel
theorem dX3_askDancer_127 : decode cX3_askDancer 127 = .ok (.iconst 1, 1) := by decide +kernel
theorem dX3_askDancer_128 : decode cX3_askDancer 128 = .ok (.goto 4, 3) := by decide +kernel
theorem dX3_askDancer_131 : decode cX3_askDancer 131 = .ok (.iconst 0, 1) := by decide +kernel
theorem dX3_askDancer_132 : decode cX3_askDancer 132 = .ok (.ireturn, 1) := by decide +kernel
theorem dX3_askDancer_133 : decode cX3_askDancer 133 = .ok (.bipush (-2), 2) := by decide +kernel
theorem dX3_askDancer_135 : decode cX3_askDancer 135 = .ok (.ireturn, 1) := by decide +kernel
theorem dX3_askSpotOfCall_0 : decode cX3_askSpotOfCall 0 = .ok (.aload_n 0, 1) := by decide +kernel
theorem dX3_askSpotOfCall_1 : decode cX3_askSpotOfCall 1 = .ok (.iload_n 1, 1) := by decide +kernel
theorem dX3_askSpotOfCall_2 : decode cX3_askSpotOfCall 2 = .ok (.iload_n 2, 1) := by decide +kernel
theorem dX3_askSpotOfCall_3 : decode cX3_askSpotOfCall 3 = .ok (.invokevirtual 76, 3) := by decide +kernel
theorem dX3_askSpotOfCall_6 : decode cX3_askSpotOfCall 6 = .ok (.ifCond .ne 6, 3) := by decide +kernel
theorem dX3_askSpotOfCall_9 : decode cX3_askSpotOfCall 9 = .ok (.bipush (-2), 2) := by decide +kernel
theorem dX3_askSpotOfCall_11 : decode cX3_askSpotOfCall 11 = .ok (.ireturn, 1) := by decide +kernel
theorem dX3_askSpotOfCall_12 : decode cX3_askSpotOfCall 12 = .ok (.iload_n 3, 1) := by decide +kernel
theorem dX3_askSpotOfCall_13 : decode cX3_askSpotOfCall 13 = .ok (.tableswitch 63 0 2 #[27, 39, 51], 27) := by decide +kernel
theorem dX3_askSpotOfCall_40 : decode cX3_askSpotOfCall 40 = .ok (.aload_n 0, 1) := by decide +kernel
theorem dX3_askSpotOfCall_41 : decode cX3_askSpotOfCall 41 = .ok (.getfield 20, 3) := by decide +kernel
theorem dX3_askSpotOfCall_44 : decode cX3_askSpotOfCall 44 = .ok (.iload_n 1, 1) := by decide +kernel
theorem dX3_askSpotOfCall_45 : decode cX3_askSpotOfCall 45 = .ok (.aaload, 1) := by decide +kernel
theorem dX3_askSpotOfCall_46 : decode cX3_askSpotOfCall 46 = .ok (.getfield 73, 3) := by decide +kernel
theorem dX3_askSpotOfCall_49 : decode cX3_askSpotOfCall 49 = .ok (.iload_n 2, 1) := by decide +kernel
theorem dX3_askSpotOfCall_50 : decode cX3_askSpotOfCall 50 = .ok (.iaload, 1) := by decide +kernel
theorem dX3_askSpotOfCall_51 : decode cX3_askSpotOfCall 51 = .ok (.ireturn, 1) := by decide +kernel
theorem dX3_askSpotOfCall_52 : decode cX3_askSpotOfCall 52 = .ok (.aload_n 0, 1) := by decide +kernel
theorem dX3_askSpotOfCall_53 : decode cX3_askSpotOfCall 53 = .ok (.getfield 20, 3) := by decide +kernel
theorem dX3_askSpotOfCall_56 : decode cX3_askSpotOfCall 56 = .ok (.iload_n 1, 1) := by decide +kernel
theorem dX3_askSpotOfCall_57 : decode cX3_askSpotOfCall 57 = .ok (.aaload, 1) := by decide +kernel
theorem dX3_askSpotOfCall_58 : decode cX3_askSpotOfCall 58 = .ok (.getfield 79, 3) := by decide +kernel
theorem dX3_askSpotOfCall_61 : decode cX3_askSpotOfCall 61 = .ok (.iload_n 2, 1) := by decide +kernel
theorem dX3_askSpotOfCall_62 : decode cX3_askSpotOfCall 62 = .ok (.iaload, 1) := by decide +kernel
theorem dX3_askSpotOfCall_63 : decode cX3_askSpotOfCall 63 = .ok (.ireturn, 1) := by decide +kernel
theorem dX3_askSpotOfCall_64 : decode cX3_askSpotOfCall 64 = .ok (.aload_n 0, 1) := by decide +kernel
theorem dX3_askSpotOfCall_65 : decode cX3_askSpotOfCall 65 = .ok (.getfield 20, 3) := by decide +kernel
theorem dX3_askSpotOfCall_68 : decode cX3_askSpotOfCall 68 = .ok (.iload_n 1, 1) := by decide +kernel
theorem dX3_askSpotOfCall_69 : decode cX3_askSpotOfCall 69 = .ok (.aaload, 1) := by decide +kernel
theorem dX3_askSpotOfCall_70 : decode cX3_askSpotOfCall 70 = .ok (.getfield 82, 3) := by decide +kernel
theorem dX3_askSpotOfCall_73 : decode cX3_askSpotOfCall 73 = .ok (.iload_n 2, 1) := by decide +kernel
theorem dX3_askSpotOfCall_74 : decode cX3_askSpotOfCall 74 = .ok (.iaload, 1) := by decide +kernel
theorem dX3_askSpotOfCall_75 : decode cX3_askSpotOfCall 75 = .ok (.ireturn, 1) := by decide +kernel
theorem dX3_askSpotOfCall_76 : decode cX3_askSpotOfCall 76 = .ok (.bipush (-2), 2) := by decide +kernel
theorem dX3_askSpotOfCall_78 : decode cX3_askSpotOfCall 78 = .ok (.ireturn, 1) := by decide +kernel
theorem dX3_askCall_0 : decode cX3_askCall 0 = .ok (.iload_n 1, 1) := by decide +kernel
theorem dX3_askCall_1 : decode cX3_askCall 1 = .ok (.aload_n 0, 1) := by decide +kernel
theorem dX3_askCall_2 : decode cX3_askCall 2 = .ok (.getfield 41, 3) := by decide +kernel
theorem dX3_askCall_5 : decode cX3_askCall 5 = .ok (.invokestatic 54, 3) := by decide +kernel
theorem dX3_askCall_8 : decode cX3_askCall 8 = .ok (.ifCond .ne 6, 3) := by decide +kernel
theorem dX3_askCall_11 : decode cX3_askCall 11 = .ok (.bipush (-2), 2) := by decide +kernel
theorem dX3_askCall_13 : decode cX3_askCall 13 = .ok (.ireturn, 1) := by decide +kernel
theorem dX3_askCall_14 : decode cX3_askCall 14 = .ok (.iload_n 2, 1) := by decide +kernel
theorem dX3_askCall_15 : decode cX3_askCall 15 = .ok (.tableswitch 88 0 3 #[29, 58, 68, 78], 29) := by decide +kernel
theorem dX3_askCall_44 : decode cX3_askCall 44 = .ok (.aload_n 0, 1) := by decide +kernel
theorem dX3_askCall_45 : decode cX3_askCall 45 = .ok (.getfield 20, 3) := by decide +kernel
theorem dX3_askCall_48 : decode cX3_askCall 48 = .ok (.iload_n 1, 1) := by decide +kernel
theorem dX3_askCall_49 : decode cX3_askCall 49 = .ok (.aaload, 1) := by decide +kernel
theorem dX3_askCall_50 : decode cX3_askCall 50 = .ok (.aload_n 0, 1) := by decide +kernel
theorem dX3_askCall_51 : decode cX3_askCall 51 = .ok (.getfield 9, 3) := by decide +kernel
theorem dX3_askCall_54 : decode cX3_askCall 54 = .ok (.aload_n 0, 1) := by decide +kernel
theorem dX3_askCall_55 : decode cX3_askCall 55 = .ok (.getfield 31, 3) := by decide +kernel
theorem dX3_askCall_58 : decode cX3_askCall 58 = .ok (.invokestatic 96, 3) := by decide +kernel
theorem dX3_askCall_61 : decode cX3_askCall 61 = .ok (.invokevirtual 100, 3) := by decide +kernel
theorem dX3_askCall_64 : decode cX3_askCall 64 = .ok (.ifCond .eq 7, 3) := by decide +kernel
theorem dX3_askCall_67 : decode cX3_askCall 67 = .ok (.iconst 1, 1) := by decide +kernel
theorem dX3_askCall_68 : decode cX3_askCall 68 = .ok (.goto 4, 3) := by decide +kernel
theorem dX3_askCall_71 : decode cX3_askCall 71 = .ok (.iconst 0, 1) := by decide +kernel
theorem dX3_askCall_72 : decode cX3_askCall 72 = .ok (.ireturn, 1) := by decide +kernel
theorem dX3_askCall_73 : decode cX3_askCall 73 = .ok (.aload_n 0, 1) := by decide +kernel
theorem dX3_askCall_74 : decode cX3_askCall 74 = .ok (.getfield 20, 3) := by decide +kernel
theorem dX3_askCall_77 : decode cX3_askCall 77 = .ok (.iload_n 1, 1) := by decide +kernel
theorem dX3_askCall_78 : decode cX3_askCall 78 = .ok (.aaload, 1) := by decide +kernel
theorem dX3_askCall_79 : decode cX3_askCall 79 = .ok (.invokevirtual 119, 3) := by decide +kernel
theorem dX3_askCall_82 : decode cX3_askCall 82 = .ok (.ireturn, 1) := by decide +kernel
theorem dX3_askCall_83 : decode cX3_askCall 83 = .ok (.aload_n 0, 1) := by decide +kernel
theorem dX3_askCall_84 : decode cX3_askCall 84 = .ok (.getfield 20, 3) := by decide +kernel
theorem dX3_askCall_87 : decode cX3_askCall 87 = .ok (.iload_n 1, 1) := by decide +kernel
theorem dX3_askCall_88 : decode cX3_askCall 88 = .ok (.aaload, 1) := by decide +kernel
theorem dX3_askCall_89 : decode cX3_askCall 89 = .ok (.invokevirtual 122, 3) := by decide +kernel
theorem dX3_askCall_92 : decode cX3_askCall 92 = .ok (.ireturn, 1) := by decide +kernel
theorem dX3_askCall_93 : decode cX3_askCall 93 = .ok (.aload_n 0, 1) := by decide +kernel
theorem dX3_askCall_94 : decode cX3_askCall 94 = .ok (.getfield 20, 3) := by decide +kernel
theorem dX3_askCall_97 : decode cX3_askCall 97 = .ok (.iload_n 1, 1) := by decide +kernel
theorem dX3_askCall_98 : decode cX3_askCall 98 = .ok (.aaload, 1) := by decide +kernel
theorem dX3_askCall_99 : decode cX3_askCall 99 = .ok (.invokevirtual 125, 3) := by decide +kernel
theorem dX3_askCall_102 : decode cX3_askCall 102 = .ok (.ireturn, 1) := by decide +kernel
theorem dX3_askCall_103 : decode cX3_askCall 103 = .ok (.bipush (-2), 2) := by decide +kernel
theorem dX3_askCall_105 : decode cX3_askCall 105 = .ok (.ireturn, 1) := by decide +kernel
theorem dX3_askCount_0 : decode cX3_askCount 0 = .ok (.iload_n 1, 1) := by decide +kernel
theorem dX3_askCount_1 : decode cX3_askCount 1 = .ok (.tableswitch 78 0 6 #[43, 48, 53, 58, 63, 68, 73], 43) := by decide +kernel
theorem dX3_askCount_44 : decode cX3_askCount 44 = .ok (.aload_n 0, 1) := by decide +kernel
theorem dX3_askCount_45 : decode cX3_askCount 45 = .ok (.getfield 31, 3) := by decide +kernel
theorem dX3_askCount_48 : decode cX3_askCount 48 = .ok (.ireturn, 1) := by decide +kernel
theorem dX3_askCount_49 : decode cX3_askCount 49 = .ok (.aload_n 0, 1) := by decide +kernel
theorem dX3_askCount_50 : decode cX3_askCount 50 = .ok (.getfield 41, 3) := by decide +kernel
theorem dX3_askCount_53 : decode cX3_askCount 53 = .ok (.ireturn, 1) := by decide +kernel
theorem dX3_askCount_54 : decode cX3_askCount 54 = .ok (.aload_n 0, 1) := by decide +kernel
theorem dX3_askCount_55 : decode cX3_askCount 55 = .ok (.invokevirtual 107, 3) := by decide +kernel
theorem dX3_askCount_58 : decode cX3_askCount 58 = .ok (.ireturn, 1) := by decide +kernel
theorem dX3_askCount_59 : decode cX3_askCount 59 = .ok (.aload_n 0, 1) := by decide +kernel
theorem dX3_askCount_60 : decode cX3_askCount 60 = .ok (.invokevirtual 128, 3) := by decide +kernel
theorem dX3_askCount_63 : decode cX3_askCount 63 = .ok (.ireturn, 1) := by decide +kernel
theorem dX3_askCount_64 : decode cX3_askCount 64 = .ok (.aload_n 0, 1) := by decide +kernel
theorem dX3_askCount_65 : decode cX3_askCount 65 = .ok (.invokevirtual 131, 3) := by decide +kernel
theorem dX3_askCount_68 : decode cX3_askCount 68 = .ok (.ireturn, 1) := by decide +kernel
theorem dX3_askCount_69 : decode cX3_askCount 69 = .ok (.aload_n 0, 1) := by decide +kernel
theorem dX3_askCount_70 : decode cX3_askCount 70 = .ok (.getfield 48, 3) := by decide +kernel
theorem dX3_askCount_73 : decode cX3_askCount 73 = .ok (.ireturn, 1) := by decide +kernel
theorem dX3_askCount_74 : decode cX3_askCount 74 = .ok (.aload_n 0, 1) := by decide +kernel
theorem dX3_askCount_75 : decode cX3_askCount 75 = .ok (.getfield 51, 3) := by decide +kernel
theorem dX3_askCount_78 : decode cX3_askCount 78 = .ok (.ireturn, 1) := by decide +kernel
theorem dX3_askCount_79 : decode cX3_askCount 79 = .ok (.bipush (-2), 2) := by decide +kernel
theorem dX3_askCount_81 : decode cX3_askCount 81 = .ok (.ireturn, 1) := by decide +kernel
theorem dX3_whoIsOn_0 : decode cX3_whoIsOn 0 = .ok (.iconst 0, 1) := by decide +kernel
theorem dX3_whoIsOn_1 : decode cX3_whoIsOn 1 = .ok (.istore_n 2, 1) := by decide +kernel
theorem dX3_whoIsOn_2 : decode cX3_whoIsOn 2 = .ok (.iload_n 2, 1) := by decide +kernel
theorem dX3_whoIsOn_3 : decode cX3_whoIsOn 3 = .ok (.aload_n 0, 1) := by decide +kernel
theorem dX3_whoIsOn_4 : decode cX3_whoIsOn 4 = .ok (.getfield 31, 3) := by decide +kernel
theorem dX3_whoIsOn_7 : decode cX3_whoIsOn 7 = .ok (.if_icmp .ge 23, 3) := by decide +kernel
