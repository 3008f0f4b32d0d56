theorem dX0_init_0 : decode cX0_init 0 = .ok (.aload_n 0, 1) := by decide +kernel
theorem dX0_init_1 : decode cX0_init 1 = .ok (.invokespecial 3, 3) := by decide +kernel
theorem dX0_init_4 : decode cX0_init 4 = .ok (.aload_n 0, 1) := by decide +kernel
theorem dX0_init_5 : decode cX0_init 5 = .ok (.bipush 12, 2) := by decide +kernel
theorem dX0_init_7 : decode cX0_init 7 = .ok (.newarray .int, 2) := by decide +kernel
theorem dX0_init_9 : decode cX0_init 9 = .ok (.putfield 9, 3) := by decide +kernel
theorem dX0_init_12 : decode cX0_init 12 = .ok (.aload_n 0, 1) := by decide +kernel
theorem dX0_init_13 : decode cX0_init 13 = .ok (.bipush 12, 2) := by decide +kernel
theorem dX0_init_15 : decode cX0_init 15 = .ok (.newarray .int, 2) := by decide +kernel
theorem dX0_init_17 : decode cX0_init 17 = .ok (.putfield 15, 3) := by decide +kernel
theorem dX0_init_20 : decode cX0_init 20 = .ok (.aload_n 0, 1) := by decide +kernel
theorem dX0_init_21 : decode cX0_init 21 = .ok (.bipush 12, 2) := by decide +kernel
theorem dX0_init_23 : decode cX0_init 23 = .ok (.newarray .int, 2) := by decide +kernel
theorem dX0_init_25 : decode cX0_init 25 = .ok (.putfield 18, 3) := by decide +kernel
theorem dX0_init_28 : decode cX0_init 28 = .ok (.return_, 1) := by decide +kernel
theorem dX0_reset_0 : decode cX0_reset 0 = .ok (.iconst 0, 1) := by decide +kernel
theorem dX0_reset_1 : decode cX0_reset 1 = .ok (.istore_n 1, 1) := by decide +kernel
theorem dX0_reset_2 : decode cX0_reset 2 = .ok (.iload_n 1, 1) := by decide +kernel
theorem dX0_reset_3 : decode cX0_reset 3 = .ok (.bipush 12, 2) := by decide +kernel
theorem dX0_reset_5 : decode cX0_reset 5 = .ok (.if_icmp .ge 30, 3) := by decide +kernel
theorem dX0_reset_8 : decode cX0_reset 8 = .ok (.aload_n 0, 1) := by decide +kernel
theorem dX0_reset_9 : decode cX0_reset 9 = .ok (.getfield 9, 3) := by decide +kernel
theorem dX0_reset_12 : decode cX0_reset 12 = .ok (.iload_n 1, 1) := by decide +kernel
theorem dX0_reset_13 : decode cX0_reset 13 = .ok (.iload_n 1, 1) := by decide +kernel
theorem dX0_reset_14 : decode cX0_reset 14 = .ok (.iastore, 1) := by decide +kernel
theorem dX0_reset_15 : decode cX0_reset 15 = .ok (.aload_n 0, 1) := by decide +kernel
theorem dX0_reset_16 : decode cX0_reset 16 = .ok (.getfield 15, 3) := by decide +kernel
theorem dX0_reset_19 : decode cX0_reset 19 = .ok (.iload_n 1, 1) := by decide +kernel
theorem dX0_reset_20 : decode cX0_reset 20 = .ok (.iconst 0, 1) := by decide +kernel
theorem dX0_reset_21 : decode cX0_reset 21 = .ok (.iastore, 1) := by decide +kernel
theorem dX0_reset_22 : decode cX0_reset 22 = .ok (.aload_n 0, 1) := by decide +kernel
theorem dX0_reset_23 : decode cX0_reset 23 = .ok (.getfield 18, 3) := by decide +kernel
theorem dX0_reset_26 : decode cX0_reset 26 = .ok (.iload_n 1, 1) := by decide +kernel
theorem dX0_reset_27 : decode cX0_reset 27 = .ok (.iconst 0, 1) := by decide +kernel
theorem dX0_reset_28 : decode cX0_reset 28 = .ok (.iastore, 1) := by decide +kernel
theorem dX0_reset_29 : decode cX0_reset 29 = .ok (.iinc 1 1, 3) := by decide +kernel
theorem dX0_reset_32 : decode cX0_reset 32 = .ok (.goto (-30), 3) := by decide +kernel
theorem dX0_reset_35 : decode cX0_reset 35 = .ok (.return_, 1) := by decide +kernel
theorem dX0_copyFrom_0 : decode cX0_copyFrom 0 = .ok (.aload_n 1, 1) := by decide +kernel
theorem dX0_copyFrom_1 : decode cX0_copyFrom 1 = .ok (.getfield 9, 3) := by decide +kernel
theorem dX0_copyFrom_4 : decode cX0_copyFrom 4 = .ok (.iconst 0, 1) := by decide +kernel
theorem dX0_copyFrom_5 : decode cX0_copyFrom 5 = .ok (.aload_n 0, 1) := by decide +kernel
theorem dX0_copyFrom_6 : decode cX0_copyFrom 6 = .ok (.getfield 9, 3) := by decide +kernel
theorem dX0_copyFrom_9 : decode cX0_copyFrom 9 = .ok (.iconst 0, 1) := by decide +kernel
theorem dX0_copyFrom_10 : decode cX0_copyFrom 10 = .ok (.bipush 12, 2) := by decide +kernel
theorem dX0_copyFrom_12 : decode cX0_copyFrom 12 = .ok (.invokestatic 21, 3) := by decide +kernel
theorem dX0_copyFrom_15 : decode cX0_copyFrom 15 = .ok (.aload_n 1, 1) := by decide +kernel
theorem dX0_copyFrom_16 : decode cX0_copyFrom 16 = .ok (.getfield 15, 3) := by decide +kernel
theorem dX0_copyFrom_19 : decode cX0_copyFrom 19 = .ok (.iconst 0, 1) := by decide +kernel
theorem dX0_copyFrom_20 : decode cX0_copyFrom 20 = .ok (.aload_n 0, 1) := by decide +kernel
theorem dX0_copyFrom_21 : decode cX0_copyFrom 21 = .ok (.getfield 15, 3) := by decide +kernel
theorem dX0_copyFrom_24 : decode cX0_copyFrom 24 = .ok (.iconst 0, 1) := by decide +kernel
theorem dX0_copyFrom_25 : decode cX0_copyFrom 25 = .ok (.bipush 12, 2) := by decide +kernel
theorem dX0_copyFrom_27 : decode cX0_copyFrom 27 = .ok (.invokestatic 21, 3) := by decide +kernel
theorem dX0_copyFrom_30 : decode cX0_copyFrom 30 = .ok (.aload_n 1, 1) := by decide +kernel
theorem dX0_copyFrom_31 : decode cX0_copyFrom 31 = .ok (.getfield 18, 3) := by decide +kernel
theorem dX0_copyFrom_34 : decode cX0_copyFrom 34 = .ok (.iconst 0, 1) := by decide +kernel
theorem dX0_copyFrom_35 : decode cX0_copyFrom 35 = .ok (.aload_n 0, 1) := by decide +kernel
theorem dX0_copyFrom_36 : decode cX0_copyFrom 36 = .ok (.getfield 18, 3) := by decide +kernel
theorem dX0_copyFrom_39 : decode cX0_copyFrom 39 = .ok (.iconst 0, 1) := by decide +kernel
theorem dX0_copyFrom_40 : decode cX0_copyFrom 40 = .ok (.bipush 12, 2) := by decide +kernel
theorem dX0_copyFrom_42 : decode cX0_copyFrom 42 = .ok (.invokestatic 21, 3) := by decide +kernel
theorem dX0_copyFrom_45 : decode cX0_copyFrom 45 = .ok (.return_, 1) := by decide +kernel
theorem dX0_canBeJoinedWith_0 : decode cX0_canBeJoinedWith 0 = .ok (.iconst 0, 1) := by decide +kernel
theorem dX0_canBeJoinedWith_1 : decode cX0_canBeJoinedWith 1 = .ok (.istore_n 2, 1) := by decide +kernel
theorem dX0_canBeJoinedWith_2 : decode cX0_canBeJoinedWith 2 = .ok (.iload_n 2, 1) := by decide +kernel
theorem dX0_canBeJoinedWith_3 : decode cX0_canBeJoinedWith 3 = .ok (.bipush 12, 2) := by decide +kernel
theorem dX0_canBeJoinedWith_5 : decode cX0_canBeJoinedWith 5 = .ok (.if_icmp .ge 46, 3) := by decide +kernel
theorem dX0_canBeJoinedWith_8 : decode cX0_canBeJoinedWith 8 = .ok (.aload_n 1, 1) := by decide +kernel
theorem dX0_canBeJoinedWith_9 : decode cX0_canBeJoinedWith 9 = .ok (.getfield 18, 3) := by decide +kernel
theorem dX0_canBeJoinedWith_12 : decode cX0_canBeJoinedWith 12 = .ok (.aload_n 0, 1) := by decide +kernel
theorem dX0_canBeJoinedWith_13 : decode cX0_canBeJoinedWith 13 = .ok (.getfield 9, 3) := by decide +kernel
theorem dX0_canBeJoinedWith_16 : decode cX0_canBeJoinedWith 16 = .ok (.iload_n 2, 1) := by decide +kernel
theorem dX0_canBeJoinedWith_17 : decode cX0_canBeJoinedWith 17 = .ok (.iaload, 1) := by decide +kernel
theorem dX0_canBeJoinedWith_18 : decode cX0_canBeJoinedWith 18 = .ok (.iaload, 1) := by decide +kernel
theorem dX0_canBeJoinedWith_19 : decode cX0_canBeJoinedWith 19 = .ok (.istore_n 3, 1) := by decide +kernel
theorem dX0_canBeJoinedWith_20 : decode cX0_canBeJoinedWith 20 = .ok (.aload_n 0, 1) := by decide +kernel
theorem dX0_canBeJoinedWith_21 : decode cX0_canBeJoinedWith 21 = .ok (.getfield 18, 3) := by decide +kernel
theorem dX0_canBeJoinedWith_24 : decode cX0_canBeJoinedWith 24 = .ok (.iload_n 2, 1) := by decide +kernel
theorem dX0_canBeJoinedWith_25 : decode cX0_canBeJoinedWith 25 = .ok (.iaload, 1) := by decide +kernel
theorem dX0_canBeJoinedWith_26 : decode cX0_canBeJoinedWith 26 = .ok (.ifCond .eq 19, 3) := by decide +kernel
theorem dX0_canBeJoinedWith_29 : decode cX0_canBeJoinedWith 29 = .ok (.iload_n 3, 1) := by decide +kernel
theorem dX0_canBeJoinedWith_30 : decode cX0_canBeJoinedWith 30 = .ok (.ifCond .eq 15, 3) := by decide +kernel
theorem dX0_canBeJoinedWith_33 : decode cX0_canBeJoinedWith 33 = .ok (.aload_n 0, 1) := by decide +kernel
theorem dX0_canBeJoinedWith_34 : decode cX0_canBeJoinedWith 34 = .ok (.getfield 18, 3) := by decide +kernel
theorem dX0_canBeJoinedWith_37 : decode cX0_canBeJoinedWith 37 = .ok (.iload_n 2, 1) := by decide +kernel
theorem dX0_canBeJoinedWith_38 : decode cX0_canBeJoinedWith 38 = .ok (.iaload, 1) := by decide +kernel
theorem dX0_canBeJoinedWith_39 : decode cX0_canBeJoinedWith 39 = .ok (.iload_n 3, 1) := by decide +kernel
theorem dX0_canBeJoinedWith_40 : decode cX0_canBeJoinedWith 40 = .ok (.if_icmp .eq 5, 3) := by decide +kernel
theorem dX0_canBeJoinedWith_43 : decode cX0_canBeJoinedWith 43 = .ok (.iconst 0, 1) := by decide +kernel
theorem dX0_canBeJoinedWith_44 : decode cX0_canBeJoinedWith 44 = .ok (.ireturn, 1) := by decide +kernel
theorem dX0_canBeJoinedWith_45 : decode cX0_canBeJoinedWith 45 = .ok (.iinc 2 1, 3) := by decide +kernel
theorem dX0_canBeJoinedWith_48 : decode cX0_canBeJoinedWith 48 = .ok (.goto (-46), 3) := by decide +kernel
theorem dX0_canBeJoinedWith_51 : decode cX0_canBeJoinedWith 51 = .ok (.iconst 1, 1) := by decide +kernel
theorem dX0_canBeJoinedWith_52 : decode cX0_canBeJoinedWith 52 = .ok (.ireturn, 1) := by decide +kernel
theorem dX0_becomeJoined_0 : decode cX0_becomeJoined 0 = .ok (.iconst 0, 1) := by decide +kernel
theorem dX0_becomeJoined_1 : decode cX0_becomeJoined 1 = .ok (.istore_n 3, 1) := by decide +kernel
theorem dX0_becomeJoined_2 : decode cX0_becomeJoined 2 = .ok (.iload_n 3, 1) := by decide +kernel
theorem dX0_becomeJoined_3 : decode cX0_becomeJoined 3 = .ok (.bipush 12, 2) := by decide +kernel
theorem dX0_becomeJoined_5 : decode cX0_becomeJoined 5 = .ok (.if_icmp .ge 83, 3) := by decide +kernel
theorem dX0_becomeJoined_8 : decode cX0_becomeJoined 8 = .ok (.aload_n 1, 1) := by decide +kernel
theorem dX0_becomeJoined_9 : decode cX0_becomeJoined 9 = .ok (.getfield 9, 3) := by decide +kernel
theorem dX0_becomeJoined_12 : decode cX0_becomeJoined 12 = .ok (.iload_n 3, 1) := by decide +kernel
theorem dX0_becomeJoined_13 : decode cX0_becomeJoined 13 = .ok (.iaload, 1) := by decide +kernel
theorem dX0_becomeJoined_14 : decode cX0_becomeJoined 14 = .ok (.istore 4, 2) := by decide +kernel
theorem dX0_becomeJoined_16 : decode cX0_becomeJoined 16 = .ok (.aload_n 0, 1) := by decide +kernel
theorem dX0_becomeJoined_17 : decode cX0_becomeJoined 17 = .ok (.getfield 9, 3) := by decide +kernel
theorem dX0_becomeJoined_20 : decode cX0_becomeJoined 20 = .ok (.iload_n 3, 1) := by decide +kernel
theorem dX0_becomeJoined_21 : decode cX0_becomeJoined 21 = .ok (.aload_n 2, 1) := by decide +kernel
theorem dX0_becomeJoined_22 : decode cX0_becomeJoined 22 = .ok (.getfield 9, 3) := by decide +kernel
theorem dX0_becomeJoined_25 : decode cX0_becomeJoined 25 = .ok (.iload 4, 2) := by decide +kernel
theorem dX0_becomeJoined_27 : decode cX0_becomeJoined 27 = .ok (.iaload, 1) := by decide +kernel
theorem dX0_becomeJoined_28 : decode cX0_becomeJoined 28 = .ok (.iastore, 1) := by decide +kernel
theorem dX0_becomeJoined_29 : decode cX0_becomeJoined 29 = .ok (.aload_n 0, 1) := by decide +kernel
theorem dX0_becomeJoined_30 : decode cX0_becomeJoined 30 = .ok (.getfield 15, 3) := by decide +kernel
theorem dX0_becomeJoined_33 : decode cX0_becomeJoined 33 = .ok (.iload_n 3, 1) := by decide +kernel
theorem dX0_becomeJoined_34 : decode cX0_becomeJoined 34 = .ok (.aload_n 1, 1) := by decide +kernel
theorem dX0_becomeJoined_35 : decode cX0_becomeJoined 35 = .ok (.getfield 15, 3) := by decide +kernel
theorem dX0_becomeJoined_38 : decode cX0_becomeJoined 38 = .ok (.iload_n 3, 1) := by decide +kernel
theorem dX0_becomeJoined_39 : decode cX0_becomeJoined 39 = .ok (.iaload, 1) := by decide +kernel
theorem dX0_becomeJoined_40 : decode cX0_becomeJoined 40 = .ok (.aload_n 2, 1) := by decide +kernel
theorem dX0_becomeJoined_41 : decode cX0_becomeJoined 41 = .ok (.getfield 15, 3) := by decide +kernel
theorem dX0_becomeJoined_44 : decode cX0_becomeJoined 44 = .ok (.iload 4, 2) := by decide +kernel
theorem dX0_becomeJoined_46 : decode cX0_becomeJoined 46 = .ok (.iaload, 1) := by decide +kernel
theorem dX0_becomeJoined_47 : decode cX0_becomeJoined 47 = .ok (.iadd, 1) := by decide +kernel
theorem dX0_becomeJoined_48 : decode cX0_becomeJoined 48 = .ok (.iconst 4, 1) := by decide +kernel
theorem dX0_becomeJoined_49 : decode cX0_becomeJoined 49 = .ok (.irem, 1) := by decide +kernel
theorem dX0_becomeJoined_50 : decode cX0_becomeJoined 50 = .ok (.iastore, 1) := by decide +kernel
theorem dX0_becomeJoined_51 : decode cX0_becomeJoined 51 = .ok (.aload_n 0, 1) := by decide +kernel
theorem dX0_becomeJoined_52 : decode cX0_becomeJoined 52 = .ok (.getfield 18, 3) := by decide +kernel
theorem dX0_becomeJoined_55 : decode cX0_becomeJoined 55 = .ok (.iload_n 3, 1) := by decide +kernel
theorem dX0_becomeJoined_56 : decode cX0_becomeJoined 56 = .ok (.aload_n 1, 1) := by decide +kernel
theorem dX0_becomeJoined_57 : decode cX0_becomeJoined 57 = .ok (.getfield 18, 3) := by decide +kernel
theorem dX0_becomeJoined_60 : decode cX0_becomeJoined 60 = .ok (.iload_n 3, 1) := by decide +kernel
theorem dX0_becomeJoined_61 : decode cX0_becomeJoined 61 = .ok (.iaload, 1) := by decide +kernel
theorem dX0_becomeJoined_62 : decode cX0_becomeJoined 62 = .ok (.ifCond .eq 12, 3) := by decide +kernel
theorem dX0_becomeJoined_65 : decode cX0_becomeJoined 65 = .ok (.aload_n 1, 1) := by decide +kernel
theorem dX0_becomeJoined_66 : decode cX0_becomeJoined 66 = .ok (.getfield 18, 3) := by decide +kernel
theorem dX0_becomeJoined_69 : decode cX0_becomeJoined 69 = .ok (.iload_n 3, 1) := by decide +kernel
theorem dX0_becomeJoined_70 : decode cX0_becomeJoined 70 = .ok (.iaload, 1) := by decide +kernel
theorem dX0_becomeJoined_71 : decode cX0_becomeJoined 71 = .ok (.goto 10, 3) := by decide +kernel
theorem dX0_becomeJoined_74 : decode cX0_becomeJoined 74 = .ok (.aload_n 2, 1) := by decide +kernel
theorem dX0_becomeJoined_75 : decode cX0_becomeJoined 75 = .ok (.getfield 18, 3) := by decide +kernel
theorem dX0_becomeJoined_78 : decode cX0_becomeJoined 78 = .ok (.iload 4, 2) := by decide +kernel
theorem dX0_becomeJoined_80 : decode cX0_becomeJoined 80 = .ok (.iaload, 1) := by decide +kernel
theorem dX0_becomeJoined_81 : decode cX0_becomeJoined 81 = .ok (.iastore, 1) := by decide +kernel
theorem dX0_becomeJoined_82 : decode cX0_becomeJoined 82 = .ok (.iinc 3 1, 3) := by decide +kernel
theorem dX0_becomeJoined_85 : decode cX0_becomeJoined 85 = .ok (.goto (-83), 3) := by decide +kernel
theorem dX0_becomeJoined_88 : decode cX0_becomeJoined 88 = .ok (.return_, 1) := by decide +kernel
theorem dX0_becomeTurnedBack_0 : decode cX0_becomeTurnedBack 0 = .ok (.iconst 0, 1) := by decide +kernel
theorem dX0_becomeTurnedBack_1 : decode cX0_becomeTurnedBack 1 = .ok (.istore_n 2, 1) := by decide +kernel
theorem dX0_becomeTurnedBack_2 : decode cX0_becomeTurnedBack 2 = .ok (.iload_n 2, 1) := by decide +kernel
theorem dX0_becomeTurnedBack_3 : decode cX0_becomeTurnedBack 3 = .ok (.bipush 12, 2) := by decide +kernel
theorem dX0_becomeTurnedBack_5 : decode cX0_becomeTurnedBack 5 = .ok (.if_icmp .ge 51, 3) := by decide +kernel
theorem dX0_becomeTurnedBack_8 : decode cX0_becomeTurnedBack 8 = .ok (.aload_n 1, 1) := by decide +kernel
theorem dX0_becomeTurnedBack_9 : decode cX0_becomeTurnedBack 9 = .ok (.getfield 9, 3) := by decide +kernel
theorem dX0_becomeTurnedBack_12 : decode cX0_becomeTurnedBack 12 = .ok (.iload_n 2, 1) := by decide +kernel
theorem dX0_becomeTurnedBack_13 : decode cX0_becomeTurnedBack 13 = .ok (.iaload, 1) := by decide +kernel
theorem dX0_becomeTurnedBack_14 : decode cX0_becomeTurnedBack 14 = .ok (.istore_n 3, 1) := by decide +kernel
theorem dX0_becomeTurnedBack_15 : decode cX0_becomeTurnedBack 15 = .ok (.aload_n 0, 1) := by decide +kernel
theorem dX0_becomeTurnedBack_16 : decode cX0_becomeTurnedBack 16 = .ok (.getfield 9, 3) := by decide +kernel
theorem dX0_becomeTurnedBack_19 : decode cX0_becomeTurnedBack 19 = .ok (.iload_n 3, 1) := by decide +kernel
theorem dX0_becomeTurnedBack_20 : decode cX0_becomeTurnedBack 20 = .ok (.iload_n 2, 1) := by decide +kernel
theorem dX0_becomeTurnedBack_21 : decode cX0_becomeTurnedBack 21 = .ok (.iastore, 1) := by decide +kernel
theorem dX0_becomeTurnedBack_22 : decode cX0_becomeTurnedBack 22 = .ok (.aload_n 0, 1) := by decide +kernel
theorem dX0_becomeTurnedBack_23 : decode cX0_becomeTurnedBack 23 = .ok (.getfield 15, 3) := by decide +kernel
theorem dX0_becomeTurnedBack_26 : decode cX0_becomeTurnedBack 26 = .ok (.iload_n 3, 1) := by decide +kernel
theorem dX0_becomeTurnedBack_27 : decode cX0_becomeTurnedBack 27 = .ok (.iconst 4, 1) := by decide +kernel
theorem dX0_becomeTurnedBack_28 : decode cX0_becomeTurnedBack 28 = .ok (.aload_n 1, 1) := by decide +kernel
theorem dX0_becomeTurnedBack_29 : decode cX0_becomeTurnedBack 29 = .ok (.getfield 15, 3) := by decide +kernel
theorem dX0_becomeTurnedBack_32 : decode cX0_becomeTurnedBack 32 = .ok (.iload_n 2, 1) := by decide +kernel
theorem dX0_becomeTurnedBack_33 : decode cX0_becomeTurnedBack 33 = .ok (.iaload, 1) := by decide +kernel
theorem dX0_becomeTurnedBack_34 : decode cX0_becomeTurnedBack 34 = .ok (.isub, 1) := by decide +kernel
theorem dX0_becomeTurnedBack_35 : decode cX0_becomeTurnedBack 35 = .ok (.iconst 4, 1) := by decide +kernel
theorem dX0_becomeTurnedBack_36 : decode cX0_becomeTurnedBack 36 = .ok (.irem, 1) := by decide +kernel
theorem dX0_becomeTurnedBack_37 : decode cX0_becomeTurnedBack 37 = .ok (.iastore, 1) := by decide +kernel
theorem dX0_becomeTurnedBack_38 : decode cX0_becomeTurnedBack 38 = .ok (.aload_n 0, 1) := by decide +kernel
theorem dX0_becomeTurnedBack_39 : decode cX0_becomeTurnedBack 39 = .ok (.getfield 18, 3) := by decide +kernel
theorem dX0_becomeTurnedBack_42 : decode cX0_becomeTurnedBack 42 = .ok (.iload_n 3, 1) := by decide +kernel
theorem dX0_becomeTurnedBack_43 : decode cX0_becomeTurnedBack 43 = .ok (.aload_n 1, 1) := by decide +kernel
theorem dX0_becomeTurnedBack_44 : decode cX0_becomeTurnedBack 44 = .ok (.getfield 18, 3) := by decide +kernel
theorem dX0_becomeTurnedBack_47 : decode cX0_becomeTurnedBack 47 = .ok (.iload_n 2, 1) := by decide +kernel
theorem dX0_becomeTurnedBack_48 : decode cX0_becomeTurnedBack 48 = .ok (.iaload, 1) := by decide +kernel
theorem dX0_becomeTurnedBack_49 : decode cX0_becomeTurnedBack 49 = .ok (.iastore, 1) := by decide +kernel
theorem dX0_becomeTurnedBack_50 : decode cX0_becomeTurnedBack 50 = .ok (.iinc 2 1, 3) := by decide +kernel
theorem dX0_becomeTurnedBack_53 : decode cX0_becomeTurnedBack 53 = .ok (.goto (-51), 3) := by decide +kernel
theorem dX0_becomeTurnedBack_56 : decode cX0_becomeTurnedBack 56 = .ok (.return_, 1) := by decide +kernel
theorem dX0_placeBehind_0 : decode cX0_placeBehind 0 = .ok (.iload_n 1, 1) := by decide +kernel
theorem dX0_placeBehind_1 : decode cX0_placeBehind 1 = .ok (.iconst 4, 1) := by decide +kernel
theorem dX0_placeBehind_2 : decode cX0_placeBehind 2 = .ok (.idiv, 1) := by decide +kernel
theorem dX0_placeBehind_3 : decode cX0_placeBehind 3 = .ok (.istore_n 2, 1) := by decide +kernel
theorem dX0_placeBehind_4 : decode cX0_placeBehind 4 = .ok (.aload_n 0, 1) := by decide +kernel
theorem dX0_placeBehind_5 : decode cX0_placeBehind 5 = .ok (.getfield 9, 3) := by decide +kernel
theorem dX0_placeBehind_8 : decode cX0_placeBehind 8 = .ok (.iload_n 2, 1) := by decide +kernel
theorem dX0_placeBehind_9 : decode cX0_placeBehind 9 = .ok (.iaload, 1) := by decide +kernel
theorem dX0_placeBehind_10 : decode cX0_placeBehind 10 = .ok (.iconst 4, 1) := by decide +kernel
theorem dX0_placeBehind_11 : decode cX0_placeBehind 11 = .ok (.imul, 1) := by decide +kernel
theorem dX0_placeBehind_12 : decode cX0_placeBehind 12 = .ok (.iload_n 1, 1) := by decide +kernel
theorem dX0_placeBehind_13 : decode cX0_placeBehind 13 = .ok (.aload_n 0, 1) := by decide +kernel
theorem dX0_placeBehind_14 : decode cX0_placeBehind 14 = .ok (.getfield 15, 3) := by decide +kernel
theorem dX0_placeBehind_17 : decode cX0_placeBehind 17 = .ok (.iload_n 2, 1) := by decide +kernel
theorem dX0_placeBehind_18 : decode cX0_placeBehind 18 = .ok (.iaload, 1) := by decide +kernel
theorem dX0_placeBehind_19 : decode cX0_placeBehind 19 = .ok (.iadd, 1) := by decide +kernel
theorem dX0_placeBehind_20 : decode cX0_placeBehind 20 = .ok (.iconst 4, 1) := by decide +kernel
theorem dX0_placeBehind_21 : decode cX0_placeBehind 21 = .ok (.irem, 1) := by decide +kernel
theorem dX0_placeBehind_22 : decode cX0_placeBehind 22 = .ok (.iadd, 1) := by decide +kernel
theorem dX0_placeBehind_23 : decode cX0_placeBehind 23 = .ok (.ireturn, 1) := by decide +kernel
theorem dX0_spotsThatWant_0 : decode cX0_spotsThatWant 0 = .ok (.iconst 0, 1) := by decide +kernel
theorem dX0_spotsThatWant_1 : decode cX0_spotsThatWant 1 = .ok (.istore_n 2, 1) := by decide +kernel
theorem dX0_spotsThatWant_2 : decode cX0_spotsThatWant 2 = .ok (.iconst 0, 1) := by decide +kernel
theorem dX0_spotsThatWant_3 : decode cX0_spotsThatWant 3 = .ok (.istore_n 3, 1) := by decide +kernel
theorem dX0_spotsThatWant_4 : decode cX0_spotsThatWant 4 = .ok (.iload_n 3, 1) := by decide +kernel
theorem dX0_spotsThatWant_5 : decode cX0_spotsThatWant 5 = .ok (.bipush 12, 2) := by decide +kernel
theorem dX0_spotsThatWant_7 : decode cX0_spotsThatWant 7 = .ok (.if_icmp .ge 25, 3) := by decide +kernel
theorem dX0_spotsThatWant_10 : decode cX0_spotsThatWant 10 = .ok (.aload_n 0, 1) := by decide +kernel
theorem dX0_spotsThatWant_11 : decode cX0_spotsThatWant 11 = .ok (.getfield 18, 3) := by decide +kernel
theorem dX0_spotsThatWant_14 : decode cX0_spotsThatWant 14 = .ok (.iload_n 3, 1) := by decide +kernel
theorem dX0_spotsThatWant_15 : decode cX0_spotsThatWant 15 = .ok (.iaload, 1) := by decide +kernel
theorem dX0_spotsThatWant_16 : decode cX0_spotsThatWant 16 = .ok (.iload_n 1, 1) := by decide +kernel
theorem dX0_spotsThatWant_17 : decode cX0_spotsThatWant 17 = .ok (.if_icmp .ne 9, 3) := by decide +kernel
theorem dX0_spotsThatWant_20 : decode cX0_spotsThatWant 20 = .ok (.iload_n 2, 1) := by decide +kernel
theorem dX0_spotsThatWant_21 : decode cX0_spotsThatWant 21 = .ok (.iconst 1, 1) := by decide +kernel
theorem dX0_spotsThatWant_22 : decode cX0_spotsThatWant 22 = .ok (.iload_n 3, 1) := by decide +kernel
theorem dX0_spotsThatWant_23 : decode cX0_spotsThatWant 23 = .ok (.ishl, 1) := by decide +kernel
theorem dX0_spotsThatWant_24 : decode cX0_spotsThatWant 24 = .ok (.ior, 1) := by decide +kernel
theorem dX0_spotsThatWant_25 : decode cX0_spotsThatWant 25 = .ok (.istore_n 2, 1) := by decide +kernel
theorem dX0_spotsThatWant_26 : decode cX0_spotsThatWant 26 = .ok (.iinc 3 1, 3) := by decide +kernel
theorem dX0_spotsThatWant_29 : decode cX0_spotsThatWant 29 = .ok (.goto (-25), 3) := by decide +kernel
theorem dX0_spotsThatWant_32 : decode cX0_spotsThatWant 32 = .ok (.iload_n 2, 1) := by decide +kernel
theorem dX0_spotsThatWant_33 : decode cX0_spotsThatWant 33 = .ok (.ireturn, 1) := by decide +kernel
theorem dX0_fitsOn_0 : decode cX0_fitsOn 0 = .ok (.aload_n 0, 1) := by decide +kernel
theorem dX0_fitsOn_1 : decode cX0_fitsOn 1 = .ok (.iconst 1, 1) := by decide +kernel
theorem dX0_fitsOn_2 : decode cX0_fitsOn 2 = .ok (.invokevirtual 27, 3) := by decide +kernel
theorem dX0_fitsOn_5 : decode cX0_fitsOn 5 = .ok (.istore_n 2, 1) := by decide +kernel
theorem dX0_fitsOn_6 : decode cX0_fitsOn 6 = .ok (.iload_n 1, 1) := by decide +kernel
theorem dX0_fitsOn_7 : decode cX0_fitsOn 7 = .ok (.iload_n 2, 1) := by decide +kernel
theorem dX0_fitsOn_8 : decode cX0_fitsOn 8 = .ok (.iand, 1) := by decide +kernel
theorem dX0_fitsOn_9 : decode cX0_fitsOn 9 = .ok (.iload_n 2, 1) := by decide +kernel
theorem dX0_fitsOn_10 : decode cX0_fitsOn 10 = .ok (.if_icmp .ne 17, 3) := by decide +kernel
theorem dX0_fitsOn_13 : decode cX0_fitsOn 13 = .ok (.iload_n 1, 1) := by decide +kernel
theorem dX0_fitsOn_14 : decode cX0_fitsOn 14 = .ok (.aload_n 0, 1) := by decide +kernel
theorem dX0_fitsOn_15 : decode cX0_fitsOn 15 = .ok (.iconst 2, 1) := by decide +kernel
theorem dX0_fitsOn_16 : decode cX0_fitsOn 16 = .ok (.invokevirtual 27, 3) := by decide +kernel
theorem dX0_fitsOn_19 : decode cX0_fitsOn 19 = .ok (.iand, 1) := by decide +kernel
theorem dX0_fitsOn_20 : decode cX0_fitsOn 20 = .ok (.ifCond .ne 7, 3) := by decide +kernel
theorem dX0_fitsOn_23 : decode cX0_fitsOn 23 = .ok (.iconst 1, 1) := by decide +kernel
theorem dX0_fitsOn_24 : decode cX0_fitsOn 24 = .ok (.goto 4, 3) := by decide +kernel
theorem dX0_fitsOn_27 : decode cX0_fitsOn 27 = .ok (.iconst 0, 1) := by decide +kernel
theorem dX0_fitsOn_28 : decode cX0_fitsOn 28 = .ok (.ireturn, 1) := by decide +kernel
theorem dX0_spotsThatMove_0 : decode cX0_spotsThatMove 0 = .ok (.iconst 0, 1) := by decide +kernel
theorem dX0_spotsThatMove_1 : decode cX0_spotsThatMove 1 = .ok (.istore_n 1, 1) := by decide +kernel
theorem dX0_spotsThatMove_2 : decode cX0_spotsThatMove 2 = .ok (.iconst 0, 1) := by decide +kernel
theorem dX0_spotsThatMove_3 : decode cX0_spotsThatMove 3 = .ok (.istore_n 2, 1) := by decide +kernel
theorem dX0_spotsThatMove_4 : decode cX0_spotsThatMove 4 = .ok (.iload_n 2, 1) := by decide +kernel
theorem dX0_spotsThatMove_5 : decode cX0_spotsThatMove 5 = .ok (.bipush 12, 2) := by decide +kernel
theorem dX0_spotsThatMove_7 : decode cX0_spotsThatMove 7 = .ok (.if_icmp .ge 27, 3) := by decide +kernel
theorem dX0_spotsThatMove_10 : decode cX0_spotsThatMove 10 = .ok (.iload_n 1, 1) := by decide +kernel
theorem dX0_spotsThatMove_11 : decode cX0_spotsThatMove 11 = .ok (.aload_n 0, 1) := by decide +kernel
theorem dX0_spotsThatMove_12 : decode cX0_spotsThatMove 12 = .ok (.getfield 9, 3) := by decide +kernel
theorem dX0_spotsThatMove_15 : decode cX0_spotsThatMove 15 = .ok (.iload_n 2, 1) := by decide +kernel
theorem dX0_spotsThatMove_16 : decode cX0_spotsThatMove 16 = .ok (.iaload, 1) := by decide +kernel
theorem dX0_spotsThatMove_17 : decode cX0_spotsThatMove 17 = .ok (.iload_n 2, 1) := by decide +kernel
theorem dX0_spotsThatMove_18 : decode cX0_spotsThatMove 18 = .ok (.if_icmp .eq 7, 3) := by decide +kernel
theorem dX0_spotsThatMove_21 : decode cX0_spotsThatMove 21 = .ok (.iconst 1, 1) := by decide +kernel
theorem dX0_spotsThatMove_22 : decode cX0_spotsThatMove 22 = .ok (.goto 4, 3) := by decide +kernel
theorem dX0_spotsThatMove_25 : decode cX0_spotsThatMove 25 = .ok (.iconst 0, 1) := by decide +kernel
theorem dX0_spotsThatMove_26 : decode cX0_spotsThatMove 26 = .ok (.iadd, 1) := by decide +kernel
theorem dX0_spotsThatMove_27 : decode cX0_spotsThatMove 27 = .ok (.istore_n 1, 1) := by decide +kernel
theorem dX0_spotsThatMove_28 : decode cX0_spotsThatMove 28 = .ok (.iinc 2 1, 3) := by decide +kernel
theorem dX0_spotsThatMove_31 : decode cX0_spotsThatMove 31 = .ok (.goto (-27), 3) := by decide +kernel
theorem dX0_spotsThatMove_34 : decode cX0_spotsThatMove 34 = .ok (.iload_n 1, 1) := by decide +kernel
theorem dX0_spotsThatMove_35 : decode cX0_spotsThatMove 35 = .ok (.ireturn, 1) := by decide +kernel
theorem dX0_spotsWithWant_0 : decode cX0_spotsWithWant 0 = .ok (.bipush 12, 2) := by decide +kernel
theorem dX0_spotsWithWant_2 : decode cX0_spotsWithWant 2 = .ok (.aload_n 0, 1) := by decide +kernel
theorem dX0_spotsWithWant_3 : decode cX0_spotsWithWant 3 = .ok (.iconst 0, 1) := by decide +kernel
theorem dX0_spotsWithWant_4 : decode cX0_spotsWithWant 4 = .ok (.invokevirtual 27, 3) := by decide +kernel
theorem dX0_spotsWithWant_7 : decode cX0_spotsWithWant 7 = .ok (.invokestatic 31, 3) := by decide +kernel
theorem dX0_spotsWithWant_10 : decode cX0_spotsWithWant 10 = .ok (.isub, 1) := by decide +kernel
theorem dX0_spotsWithWant_11 : decode cX0_spotsWithWant 11 = .ok (.ireturn, 1) := by decide +kernel
theorem dX0_round_0 : decode cX0_round 0 = .ok (.iconst 1, 1) := by decide +kernel
theorem dX0_round_1 : decode cX0_round 1 = .ok (.istore_n 1, 1) := by decide +kernel
theorem dX0_round_2 : decode cX0_round 2 = .ok (.iconst 0, 1) := by decide +kernel
theorem dX0_round_3 : decode cX0_round 3 = .ok (.istore_n 2, 1) := by decide +kernel
theorem dX0_round_4 : decode cX0_round 4 = .ok (.iconst 0, 1) := by decide +kernel
theorem dX0_round_5 : decode cX0_round 5 = .ok (.istore_n 3, 1) := by decide +kernel
theorem dX0_round_6 : decode cX0_round 6 = .ok (.iload_n 3, 1) := by decide +kernel
theorem dX0_round_7 : decode cX0_round 7 = .ok (.bipush 12, 2) := by decide +kernel
theorem dX0_round_9 : decode cX0_round 9 = .ok (.if_icmp .ge 92, 3) := by decide +kernel
theorem dX0_round_12 : decode cX0_round 12 = .ok (.iload_n 2, 1) := by decide +kernel
theorem dX0_round_13 : decode cX0_round 13 = .ok (.iload_n 3, 1) := by decide +kernel
theorem dX0_round_14 : decode cX0_round 14 = .ok (.ishr, 1) := by decide +kernel
theorem dX0_round_15 : decode cX0_round 15 = .ok (.iconst 1, 1) := by decide +kernel
theorem dX0_round_16 : decode cX0_round 16 = .ok (.iand, 1) := by decide +kernel
theorem dX0_round_17 : decode cX0_round 17 = .ok (.ifCond .eq 6, 3) := by decide +kernel
theorem dX0_round_20 : decode cX0_round 20 = .ok (.goto 75, 3) := by decide +kernel
theorem dX0_round_23 : decode cX0_round 23 = .ok (.iconst 0, 1) := by decide +kernel
theorem dX0_round_24 : decode cX0_round 24 = .ok (.istore 4, 2) := by decide +kernel
theorem dX0_round_26 : decode cX0_round 26 = .ok (.iconst 0, 1) := by decide +kernel
theorem dX0_round_27 : decode cX0_round 27 = .ok (.istore 5, 2) := by decide +kernel
theorem dX0_round_29 : decode cX0_round 29 = .ok (.iload_n 3, 1) := by decide +kernel
theorem dX0_round_30 : decode cX0_round 30 = .ok (.istore 6, 2) := by decide +kernel
theorem dX0_round_32 : decode cX0_round 32 = .ok (.iload 4, 2) := by decide +kernel
theorem dX0_round_34 : decode cX0_round 34 = .ok (.bipush 12, 2) := by decide +kernel
theorem dX0_round_36 : decode cX0_round 36 = .ok (.if_icmp .ge 46, 3) := by decide +kernel
theorem dX0_round_39 : decode cX0_round 39 = .ok (.iload_n 2, 1) := by decide +kernel
theorem dX0_round_40 : decode cX0_round 40 = .ok (.iload 6, 2) := by decide +kernel
theorem dX0_round_42 : decode cX0_round 42 = .ok (.ishr, 1) := by decide +kernel
theorem dX0_round_43 : decode cX0_round 43 = .ok (.iconst 1, 1) := by decide +kernel
theorem dX0_round_44 : decode cX0_round 44 = .ok (.iand, 1) := by decide +kernel
theorem dX0_round_45 : decode cX0_round 45 = .ok (.ifCond .ne 37, 3) := by decide +kernel
theorem dX0_round_48 : decode cX0_round 48 = .ok (.iload_n 2, 1) := by decide +kernel
theorem dX0_round_49 : decode cX0_round 49 = .ok (.iconst 1, 1) := by decide +kernel
theorem dX0_round_50 : decode cX0_round 50 = .ok (.iload 6, 2) := by decide +kernel
theorem dX0_round_52 : decode cX0_round 52 = .ok (.ishl, 1) := by decide +kernel
theorem dX0_round_53 : decode cX0_round 53 = .ok (.ior, 1) := by decide +kernel
theorem dX0_round_54 : decode cX0_round 54 = .ok (.istore_n 2, 1) := by decide +kernel
theorem dX0_round_55 : decode cX0_round 55 = .ok (.iload 5, 2) := by decide +kernel
theorem dX0_round_57 : decode cX0_round 57 = .ok (.aload_n 0, 1) := by decide +kernel
theorem dX0_round_58 : decode cX0_round 58 = .ok (.getfield 15, 3) := by decide +kernel
theorem dX0_round_61 : decode cX0_round 61 = .ok (.iload 6, 2) := by decide +kernel
theorem dX0_round_63 : decode cX0_round 63 = .ok (.iaload, 1) := by decide +kernel
theorem dX0_round_64 : decode cX0_round 64 = .ok (.iadd, 1) := by decide +kernel
theorem dX0_round_65 : decode cX0_round 65 = .ok (.istore 5, 2) := by decide +kernel
theorem dX0_round_67 : decode cX0_round 67 = .ok (.aload_n 0, 1) := by decide +kernel
theorem dX0_round_68 : decode cX0_round 68 = .ok (.getfield 9, 3) := by decide +kernel
theorem dX0_round_71 : decode cX0_round 71 = .ok (.iload 6, 2) := by decide +kernel
theorem dX0_round_73 : decode cX0_round 73 = .ok (.iaload, 1) := by decide +kernel
theorem dX0_round_74 : decode cX0_round 74 = .ok (.istore 6, 2) := by decide +kernel
theorem dX0_round_76 : decode cX0_round 76 = .ok (.iinc 4 1, 3) := by decide +kernel
theorem dX0_round_79 : decode cX0_round 79 = .ok (.goto (-47), 3) := by decide +kernel
theorem dX0_round_82 : decode cX0_round 82 = .ok (.iload_n 1, 1) := by decide +kernel
theorem dX0_round_83 : decode cX0_round 83 = .ok (.iload 4, 2) := by decide +kernel
theorem dX0_round_85 : decode cX0_round 85 = .ok (.iload 5, 2) := by decide +kernel
theorem dX0_round_87 : decode cX0_round 87 = .ok (.invokestatic 36, 3) := by decide +kernel
theorem dX0_round_90 : decode cX0_round 90 = .ok (.imul, 1) := by decide +kernel
theorem dX0_round_91 : decode cX0_round 91 = .ok (.invokestatic 39, 3) := by decide +kernel
theorem dX0_round_94 : decode cX0_round 94 = .ok (.istore_n 1, 1) := by decide +kernel
theorem dX0_round_95 : decode cX0_round 95 = .ok (.iinc 3 1, 3) := by decide +kernel
theorem dX0_round_98 : decode cX0_round 98 = .ok (.goto (-92), 3) := by decide +kernel
theorem dX0_round_101 : decode cX0_round 101 = .ok (.iload_n 1, 1) := by decide +kernel
theorem dX0_round_102 : decode cX0_round 102 = .ok (.ireturn, 1) := by decide +kernel
theorem dX0_timesToFaceAhead_0 : decode cX0_timesToFaceAhead 0 = .ok (.iload_n 0, 1) := by decide +kernel
theorem dX0_timesToFaceAhead_1 : decode cX0_timesToFaceAhead 1 = .ok (.iconst 4, 1) := by decide +kernel
theorem dX0_timesToFaceAhead_2 : decode cX0_timesToFaceAhead 2 = .ok (.irem, 1) := by decide +kernel
theorem dX0_timesToFaceAhead_3 : decode cX0_timesToFaceAhead 3 = .ok (.istore_n 1, 1) := by decide +kernel
theorem dX0_timesToFaceAhead_4 : decode cX0_timesToFaceAhead 4 = .ok (.iload_n 1, 1) := by decide +kernel
theorem dX0_timesToFaceAhead_5 : decode cX0_timesToFaceAhead 5 = .ok (.ifCond .ne 7, 3) := by decide +kernel
theorem dX0_timesToFaceAhead_8 : decode cX0_timesToFaceAhead 8 = .ok (.iconst 1, 1) := by decide +kernel
theorem dX0_timesToFaceAhead_9 : decode cX0_timesToFaceAhead 9 = .ok (.goto 13, 3) := by decide +kernel
theorem dX0_timesToFaceAhead_12 : decode cX0_timesToFaceAhead 12 = .ok (.iload_n 1, 1) := by decide +kernel
theorem dX0_timesToFaceAhead_13 : decode cX0_timesToFaceAhead 13 = .ok (.iconst 2, 1) := by decide +kernel
theorem dX0_timesToFaceAhead_14 : decode cX0_timesToFaceAhead 14 = .ok (.if_icmp .ne 7, 3) := by decide +kernel
theorem dX0_timesToFaceAhead_17 : decode cX0_timesToFaceAhead 17 = .ok (.iconst 2, 1) := by decide +kernel
theorem dX0_timesToFaceAhead_18 : decode cX0_timesToFaceAhead 18 = .ok (.goto 4, 3) := by decide +kernel
theorem dX0_timesToFaceAhead_21 : decode cX0_timesToFaceAhead 21 = .ok (.iconst 4, 1) := by decide +kernel
theorem dX0_timesToFaceAhead_22 : decode cX0_timesToFaceAhead 22 = .ok (.ireturn, 1) := by decide +kernel
theorem dX0_leastCommonMultiple_0 : decode cX0_leastCommonMultiple 0 = .ok (.iconst 1, 1) := by decide +kernel
theorem dX0_leastCommonMultiple_1 : decode cX0_leastCommonMultiple 1 = .ok (.istore_n 2, 1) := by decide +kernel
theorem dX0_leastCommonMultiple_2 : decode cX0_leastCommonMultiple 2 = .ok (.iload_n 2, 1) := by decide +kernel
theorem dX0_leastCommonMultiple_3 : decode cX0_leastCommonMultiple 3 = .ok (.iload_n 1, 1) := by decide +kernel
theorem dX0_leastCommonMultiple_4 : decode cX0_leastCommonMultiple 4 = .ok (.if_icmp .ge 21, 3) := by decide +kernel
theorem dX0_leastCommonMultiple_7 : decode cX0_leastCommonMultiple 7 = .ok (.iload_n 0, 1) := by decide +kernel
theorem dX0_leastCommonMultiple_8 : decode cX0_leastCommonMultiple 8 = .ok (.iload_n 2, 1) := by decide +kernel
theorem dX0_leastCommonMultiple_9 : decode cX0_leastCommonMultiple 9 = .ok (.imul, 1) := by decide +kernel
theorem dX0_leastCommonMultiple_10 : decode cX0_leastCommonMultiple 10 = .ok (.iload_n 1, 1) := by decide +kernel
theorem dX0_leastCommonMultiple_11 : decode cX0_leastCommonMultiple 11 = .ok (.irem, 1) := by decide +kernel
theorem dX0_leastCommonMultiple_12 : decode cX0_leastCommonMultiple 12 = .ok (.ifCond .ne 7, 3) := by decide +kernel
theorem dX0_leastCommonMultiple_15 : decode cX0_leastCommonMultiple 15 = .ok (.iload_n 0, 1) := by decide +kernel
theorem dX0_leastCommonMultiple_16 : decode cX0_leastCommonMultiple 16 = .ok (.iload_n 2, 1) := by decide +kernel
theorem dX0_leastCommonMultiple_17 : decode cX0_leastCommonMultiple 17 = .ok (.imul, 1) := by decide +kernel
theorem dX0_leastCommonMultiple_18 : decode cX0_leastCommonMultiple 18 = .ok (.ireturn, 1) := by decide +kernel
theorem dX0_leastCommonMultiple_19 : decode cX0_leastCommonMultiple 19 = .ok (.iinc 2 1, 3) := by decide +kernel
theorem dX0_leastCommonMultiple_22 : decode cX0_leastCommonMultiple 22 = .ok (.goto (-20), 3) := by decide +kernel
theorem dX0_leastCommonMultiple_25 : decode cX0_leastCommonMultiple 25 = .ok (.iload_n 0, 1) := by decide +kernel
theorem dX0_leastCommonMultiple_26 : decode cX0_leastCommonMultiple 26 = .ok (.iload_n 1, 1) := by decide +kernel
theorem dX0_leastCommonMultiple_27 : decode cX0_leastCommonMultiple 27 = .ok (.imul, 1) := by decide +kernel
theorem dX0_leastCommonMultiple_28 : decode cX0_leastCommonMultiple 28 = .ok (.ireturn, 1) := by decide +kernel
theorem dX1_init_0 : decode cX1_init 0 = .ok (.aload_n 0, 1) := by decide +kernel
theorem dX1_init_1 : decode cX1_init 1 = .ok (.invokespecial 3, 3) := by decide +kernel
theorem dX1_init_4 : decode cX1_init 4 = .ok (.aload_n 0, 1) := by decide +kernel
theorem dX1_init_5 : decode cX1_init 5 = .ok (.bipush 6, 2) := by decide +kernel
theorem dX1_init_7 : decode cX1_init 7 = .ok (.anewarray 11, 3) := by decide +kernel
theorem dX1_init_10 : decode cX1_init 10 = .ok (.putfield 13, 3) := by decide +kernel
theorem dX1_init_13 : decode cX1_init 13 = .ok (.iconst 0, 1) := by decide +kernel
theorem dX1_init_14 : decode cX1_init 14 = .ok (.istore_n 1, 1) := by decide +kernel
theorem dX1_init_15 : decode cX1_init 15 = .ok (.iload_n 1, 1) := by decide +kernel
theorem dX1_init_16 : decode cX1_init 16 = .ok (.bipush 6, 2) := by decide +kernel
theorem dX1_init_18 : decode cX1_init 18 = .ok (.if_icmp .ge 22, 3) := by decide +kernel
theorem dX1_init_21 : decode cX1_init 21 = .ok (.aload_n 0, 1) := by decide +kernel
theorem dX1_init_22 : decode cX1_init 22 = .ok (.getfield 13, 3) := by decide +kernel
theorem dX1_init_25 : decode cX1_init 25 = .ok (.iload_n 1, 1) := by decide +kernel
theorem dX1_init_26 : decode cX1_init 26 = .ok (.new 11, 3) := by decide +kernel
theorem dX1_init_29 : decode cX1_init 29 = .ok (.dup, 1) := by decide +kernel
theorem dX1_init_30 : decode cX1_init 30 = .ok (.invokespecial 17, 3) := by decide +kernel
theorem dX1_init_33 : decode cX1_init 33 = .ok (.aastore, 1) := by decide +kernel
theorem dX1_init_34 : decode cX1_init 34 = .ok (.iinc 1 1, 3) := by decide +kernel
theorem dX1_init_37 : decode cX1_init 37 = .ok (.goto (-22), 3) := by decide +kernel
theorem dX1_init_40 : decode cX1_init 40 = .ok (.return_, 1) := by decide +kernel
theorem dX1_prepare_0 : decode cX1_prepare 0 = .ok (.aload_n 0, 1) := by decide +kernel
theorem dX1_prepare_1 : decode cX1_prepare 1 = .ok (.getfield 13, 3) := by decide +kernel
theorem dX1_prepare_4 : decode cX1_prepare 4 = .ok (.aload_n 0, 1) := by decide +kernel
theorem dX1_prepare_5 : decode cX1_prepare 5 = .ok (.getfield 18, 3) := by decide +kernel
theorem dX1_prepare_8 : decode cX1_prepare 8 = .ok (.aaload, 1) := by decide +kernel
theorem dX1_prepare_9 : decode cX1_prepare 9 = .ok (.aload_n 1, 1) := by decide +kernel
theorem dX1_prepare_10 : decode cX1_prepare 10 = .ok (.invokevirtual 22, 3) := by decide +kernel
theorem dX1_prepare_13 : decode cX1_prepare 13 = .ok (.return_, 1) := by decide +kernel
theorem dX1_undo_0 : decode cX1_undo 0 = .ok (.aload_n 1, 1) := by decide +kernel
theorem dX1_undo_1 : decode cX1_undo 1 = .ok (.aload_n 0, 1) := by decide +kernel
theorem dX1_undo_2 : decode cX1_undo 2 = .ok (.getfield 13, 3) := by decide +kernel
theorem dX1_undo_5 : decode cX1_undo 5 = .ok (.aload_n 0, 1) := by decide +kernel
theorem dX1_undo_6 : decode cX1_undo 6 = .ok (.getfield 18, 3) := by decide +kernel
theorem dX1_undo_9 : decode cX1_undo 9 = .ok (.aaload, 1) := by decide +kernel
theorem dX1_undo_10 : decode cX1_undo 10 = .ok (.invokevirtual 22, 3) := by decide +kernel
theorem dX1_undo_13 : decode cX1_undo 13 = .ok (.return_, 1) := by decide +kernel
theorem dX1_confirm_0 : decode cX1_confirm 0 = .ok (.aload_n 0, 1) := by decide +kernel
theorem dX1_confirm_1 : decode cX1_confirm 1 = .ok (.aload_n 0, 1) := by decide +kernel
theorem dX1_confirm_2 : decode cX1_confirm 2 = .ok (.getfield 18, 3) := by decide +kernel
theorem dX1_confirm_5 : decode cX1_confirm 5 = .ok (.iconst 1, 1) := by decide +kernel
theorem dX1_confirm_6 : decode cX1_confirm 6 = .ok (.iadd, 1) := by decide +kernel
theorem dX1_confirm_7 : decode cX1_confirm 7 = .ok (.bipush 6, 2) := by decide +kernel
theorem dX1_confirm_9 : decode cX1_confirm 9 = .ok (.irem, 1) := by decide +kernel
theorem dX1_confirm_10 : decode cX1_confirm 10 = .ok (.putfield 18, 3) := by decide +kernel
theorem dX1_confirm_13 : decode cX1_confirm 13 = .ok (.aload_n 0, 1) := by decide +kernel
theorem dX1_confirm_14 : decode cX1_confirm 14 = .ok (.aload_n 0, 1) := by decide +kernel
theorem dX1_confirm_15 : decode cX1_confirm 15 = .ok (.getfield 26, 3) := by decide +kernel
theorem dX1_confirm_18 : decode cX1_confirm 18 = .ok (.iconst 1, 1) := by decide +kernel
theorem dX1_confirm_19 : decode cX1_confirm 19 = .ok (.iadd, 1) := by decide +kernel
theorem dX1_confirm_20 : decode cX1_confirm 20 = .ok (.iconst 5, 1) := by decide +kernel
theorem dX1_confirm_21 : decode cX1_confirm 21 = .ok (.invokestatic 29, 3) := by decide +kernel
theorem dX1_confirm_24 : decode cX1_confirm 24 = .ok (.putfield 26, 3) := by decide +kernel
theorem dX1_confirm_27 : decode cX1_confirm 27 = .ok (.return_, 1) := by decide +kernel
theorem dX1_takeBack_0 : decode cX1_takeBack 0 = .ok (.aload_n 0, 1) := by decide +kernel
theorem dX1_takeBack_1 : decode cX1_takeBack 1 = .ok (.getfield 26, 3) := by decide +kernel
theorem dX1_takeBack_4 : decode cX1_takeBack 4 = .ok (.ifCond .ne 6, 3) := by decide +kernel
theorem dX1_takeBack_7 : decode cX1_takeBack 7 = .ok (.bipush (-3), 2) := by decide +kernel
theorem dX1_takeBack_9 : decode cX1_takeBack 9 = .ok (.ireturn, 1) := by decide +kernel
theorem dX1_takeBack_10 : decode cX1_takeBack 10 = .ok (.aload_n 0, 1) := by decide +kernel
theorem dX1_takeBack_11 : decode cX1_takeBack 11 = .ok (.aload_n 0, 1) := by decide +kernel
theorem dX1_takeBack_12 : decode cX1_takeBack 12 = .ok (.getfield 18, 3) := by decide +kernel
theorem dX1_takeBack_15 : decode cX1_takeBack 15 = .ok (.bipush 6, 2) := by decide +kernel
theorem dX1_takeBack_17 : decode cX1_takeBack 17 = .ok (.iadd, 1) := by decide +kernel
theorem dX1_takeBack_18 : decode cX1_takeBack 18 = .ok (.iconst 1, 1) := by decide +kernel
theorem dX1_takeBack_19 : decode cX1_takeBack 19 = .ok (.isub, 1) := by decide +kernel
theorem dX1_takeBack_20 : decode cX1_takeBack 20 = .ok (.bipush 6, 2) := by decide +kernel
theorem dX1_takeBack_22 : decode cX1_takeBack 22 = .ok (.irem, 1) := by decide +kernel
theorem dX1_takeBack_23 : decode cX1_takeBack 23 = .ok (.putfield 18, 3) := by decide +kernel
theorem dX1_takeBack_26 : decode cX1_takeBack 26 = .ok (.aload_n 0, 1) := by decide +kernel
theorem dX1_takeBack_27 : decode cX1_takeBack 27 = .ok (.dup, 1) := by decide +kernel
theorem dX1_takeBack_28 : decode cX1_takeBack 28 = .ok (.getfield 26, 3) := by decide +kernel
theorem dX1_takeBack_31 : decode cX1_takeBack 31 = .ok (.iconst 1, 1) := by decide +kernel
theorem dX1_takeBack_32 : decode cX1_takeBack 32 = .ok (.isub, 1) := by decide +kernel
theorem dX1_takeBack_33 : decode cX1_takeBack 33 = .ok (.putfield 26, 3) := by decide +kernel
theorem dX1_takeBack_36 : decode cX1_takeBack 36 = .ok (.aload_n 1, 1) := by decide +kernel
theorem dX1_takeBack_37 : decode cX1_takeBack 37 = .ok (.aload_n 0, 1) := by decide +kernel
theorem dX1_takeBack_38 : decode cX1_takeBack 38 = .ok (.getfield 13, 3) := by decide +kernel
theorem dX1_takeBack_41 : decode cX1_takeBack 41 = .ok (.aload_n 0, 1) := by decide +kernel
theorem dX1_takeBack_42 : decode cX1_takeBack 42 = .ok (.getfield 18, 3) := by decide +kernel
theorem dX1_takeBack_45 : decode cX1_takeBack 45 = .ok (.aaload, 1) := by decide +kernel
theorem dX1_takeBack_46 : decode cX1_takeBack 46 = .ok (.invokevirtual 22, 3) := by decide +kernel
theorem dX1_takeBack_49 : decode cX1_takeBack 49 = .ok (.aload_n 0, 1) := by decide +kernel
theorem dX1_takeBack_50 : decode cX1_takeBack 50 = .ok (.getfield 26, 3) := by decide +kernel
theorem dX1_takeBack_53 : decode cX1_takeBack 53 = .ok (.ireturn, 1) := by decide +kernel
theorem dX2_init_0 : decode cX2_init 0 = .ok (.aload_n 0, 1) := by decide +kernel
theorem dX2_init_1 : decode cX2_init 1 = .ok (.invokespecial 3, 3) := by decide +kernel
theorem dX2_init_4 : decode cX2_init 4 = .ok (.aload_n 0, 1) := by decide +kernel
theorem dX2_init_5 : decode cX2_init 5 = .ok (.bipush 9, 2) := by decide +kernel
theorem dX2_init_7 : decode cX2_init 7 = .ok (.bipush 48, 2) := by decide +kernel
theorem dX2_init_9 : decode cX2_init 9 = .ok (.multianewarray 9 2, 4) := by decide +kernel
theorem dX2_init_13 : decode cX2_init 13 = .ok (.putfield 11, 3) := by decide +kernel
theorem dX2_init_16 : decode cX2_init 16 = .ok (.aload_n 0, 1) := by decide +kernel
theorem dX2_init_17 : decode cX2_init 17 = .ok (.bipush 8, 2) := by decide +kernel
theorem dX2_init_19 : decode cX2_init 19 = .ok (.newarray .int, 2) := by decide +kernel
theorem dX2_init_21 : decode cX2_init 21 = .ok (.putfield 16, 3) := by decide +kernel
theorem dX2_init_24 : decode cX2_init 24 = .ok (.aload_n 0, 1) := by decide +kernel
theorem dX2_init_25 : decode cX2_init 25 = .ok (.bipush 8, 2) := by decide +kernel
theorem dX2_init_27 : decode cX2_init 27 = .ok (.newarray .int, 2) := by decide +kernel
theorem dX2_init_29 : decode cX2_init 29 = .ok (.putfield 20, 3) := by decide +kernel
theorem dX2_init_32 : decode cX2_init 32 = .ok (.aload_n 0, 1) := by decide +kernel
theorem dX2_init_33 : decode cX2_init 33 = .ok (.bipush 6, 2) := by decide +kernel
theorem dX2_init_35 : decode cX2_init 35 = .ok (.bipush 8, 2) := by decide +kernel
theorem dX2_init_37 : decode cX2_init 37 = .ok (.multianewarray 9 2, 4) := by decide +kernel
theorem dX2_init_41 : decode cX2_init 41 = .ok (.putfield 23, 3) := by decide +kernel
theorem dX2_init_44 : decode cX2_init 44 = .ok (.aload_n 0, 1) := by decide +kernel
theorem dX2_init_45 : decode cX2_init 45 = .ok (.bipush 6, 2) := by decide +kernel
theorem dX2_init_47 : decode cX2_init 47 = .ok (.newarray .int, 2) := by decide +kernel
theorem dX2_init_49 : decode cX2_init 49 = .ok (.putfield 26, 3) := by decide +kernel
theorem dX2_init_52 : decode cX2_init 52 = .ok (.aload_n 0, 1) := by decide +kernel
theorem dX2_init_53 : decode cX2_init 53 = .ok (.bipush 8, 2) := by decide +kernel
theorem dX2_init_55 : decode cX2_init 55 = .ok (.newarray .int, 2) := by decide +kernel
theorem dX2_init_57 : decode cX2_init 57 = .ok (.putfield 29, 3) := by decide +kernel
theorem dX2_init_60 : decode cX2_init 60 = .ok (.aload_n 0, 1) := by decide +kernel
theorem dX2_init_61 : decode cX2_init 61 = .ok (.iconst 5, 1) := by decide +kernel
theorem dX2_init_62 : decode cX2_init 62 = .ok (.newarray .int, 2) := by decide +kernel
theorem dX2_init_64 : decode cX2_init 64 = .ok (.putfield 32, 3) := by decide +kernel
theorem dX2_init_67 : decode cX2_init 67 = .ok (.aload_n 0, 1) := by decide +kernel
theorem dX2_init_68 : decode cX2_init 68 = .ok (.bipush 8, 2) := by decide +kernel
theorem dX2_init_70 : decode cX2_init 70 = .ok (.newarray .int, 2) := by decide +kernel
theorem dX2_init_72 : decode cX2_init 72 = .ok (.putfield 35, 3) := by decide +kernel
theorem dX2_init_75 : decode cX2_init 75 = .ok (.iconst 0, 1) := by decide +kernel
theorem dX2_init_76 : decode cX2_init 76 = .ok (.istore_n 1, 1) := by decide +kernel
theorem dX2_init_77 : decode cX2_init 77 = .ok (.iload_n 1, 1) := by decide +kernel
theorem dX2_init_78 : decode cX2_init 78 = .ok (.bipush 48, 2) := by decide +kernel
theorem dX2_init_80 : decode cX2_init 80 = .ok (.if_icmp .ge 19, 3) := by decide +kernel
theorem dX2_init_83 : decode cX2_init 83 = .ok (.aload_n 0, 1) := by decide +kernel
theorem dX2_init_84 : decode cX2_init 84 = .ok (.getfield 11, 3) := by decide +kernel
theorem dX2_init_87 : decode cX2_init 87 = .ok (.bipush 8, 2) := by decide +kernel
theorem dX2_init_89 : decode cX2_init 89 = .ok (.aaload, 1) := by decide +kernel
theorem dX2_init_90 : decode cX2_init 90 = .ok (.iload_n 1, 1) := by decide +kernel
theorem dX2_init_91 : decode cX2_init 91 = .ok (.iload_n 1, 1) := by decide +kernel
theorem dX2_init_92 : decode cX2_init 92 = .ok (.iastore, 1) := by decide +kernel
theorem dX2_init_93 : decode cX2_init 93 = .ok (.iinc 1 1, 3) := by decide +kernel
theorem dX2_init_96 : decode cX2_init 96 = .ok (.goto (-19), 3) := by decide +kernel
theorem dX2_init_99 : decode cX2_init 99 = .ok (.return_, 1) := by decide +kernel
theorem dX2_shortest_0 : decode cX2_shortest 0 = .ok (.aload_n 0, 1) := by decide +kernel
theorem dX2_shortest_1 : decode cX2_shortest 1 = .ok (.aload_n 1, 1) := by decide +kernel
theorem dX2_shortest_2 : decode cX2_shortest 2 = .ok (.iload_n 2, 1) := by decide +kernel
theorem dX2_shortest_3 : decode cX2_shortest 3 = .ok (.invokevirtual 38, 3) := by decide +kernel
theorem dX2_shortest_6 : decode cX2_shortest 6 = .ok (.aload_n 0, 1) := by decide +kernel
theorem dX2_shortest_7 : decode cX2_shortest 7 = .ok (.iload 4, 2) := by decide +kernel
theorem dX2_shortest_9 : decode cX2_shortest 9 = .ok (.putfield 42, 3) := by decide +kernel
theorem dX2_shortest_12 : decode cX2_shortest 12 = .ok (.aload_n 0, 1) := by decide +kernel
theorem dX2_shortest_13 : decode cX2_shortest 13 = .ok (.iconst 0, 1) := by decide +kernel
theorem dX2_shortest_14 : decode cX2_shortest 14 = .ok (.putfield 46, 3) := by decide +kernel
theorem dX2_shortest_17 : decode cX2_shortest 17 = .ok (.aload_n 0, 1) := by decide +kernel
theorem dX2_shortest_18 : decode cX2_shortest 18 = .ok (.iconst 1, 1) := by decide +kernel
theorem dX2_shortest_19 : decode cX2_shortest 19 = .ok (.putfield 50, 3) := by decide +kernel
theorem dX2_shortest_22 : decode cX2_shortest 22 = .ok (.iconst 0, 1) := by decide +kernel
theorem dX2_shortest_23 : decode cX2_shortest 23 = .ok (.istore 5, 2) := by decide +kernel
theorem dX2_shortest_25 : decode cX2_shortest 25 = .ok (.iload 5, 2) := by decide +kernel
theorem dX2_shortest_27 : decode cX2_shortest 27 = .ok (.iload_n 3, 1) := by decide +kernel
theorem dX2_shortest_28 : decode cX2_shortest 28 = .ok (.if_icmp .gt 21, 3) := by decide +kernel
theorem dX2_shortest_31 : decode cX2_shortest 31 = .ok (.aload_n 0, 1) := by decide +kernel
theorem dX2_shortest_32 : decode cX2_shortest 32 = .ok (.iload 5, 2) := by decide +kernel
theorem dX2_shortest_34 : decode cX2_shortest 34 = .ok (.invokevirtual 53, 3) := by decide +kernel
theorem dX2_shortest_37 : decode cX2_shortest 37 = .ok (.ifCond .le 6, 3) := by decide +kernel
theorem dX2_shortest_40 : decode cX2_shortest 40 = .ok (.iload 5, 2) := by decide +kernel
theorem dX2_shortest_42 : decode cX2_shortest 42 = .ok (.ireturn, 1) := by decide +kernel
theorem dX2_shortest_43 : decode cX2_shortest 43 = .ok (.iinc 5 1, 3) := by decide +kernel
theorem dX2_shortest_46 : decode cX2_shortest 46 = .ok (.goto (-21), 3) := by decide +kernel
theorem dX2_shortest_49 : decode cX2_shortest 49 = .ok (.iconst (-1), 1) := by decide +kernel
theorem dX2_shortest_50 : decode cX2_shortest 50 = .ok (.ireturn, 1) := by decide +kernel
theorem dX2_howMany_0 : decode cX2_howMany 0 = .ok (.aload_n 0, 1) := by decide +kernel
theorem dX2_howMany_1 : decode cX2_howMany 1 = .ok (.aload_n 1, 1) := by decide +kernel
theorem dX2_howMany_2 : decode cX2_howMany 2 = .ok (.iload_n 2, 1) := by decide +kernel
theorem dX2_howMany_3 : decode cX2_howMany 3 = .ok (.invokevirtual 38, 3) := by decide +kernel
theorem dX2_howMany_6 : decode cX2_howMany 6 = .ok (.aload_n 0, 1) := by decide +kernel
theorem dX2_howMany_7 : decode cX2_howMany 7 = .ok (.iload_n 3, 1) := by decide +kernel
theorem dX2_howMany_8 : decode cX2_howMany 8 = .ok (.putfield 42, 3) := by decide +kernel
theorem dX2_howMany_11 : decode cX2_howMany 11 = .ok (.aload_n 0, 1) := by decide +kernel
theorem dX2_howMany_12 : decode cX2_howMany 12 = .ok (.iconst 1, 1) := by decide +kernel
theorem dX2_howMany_13 : decode cX2_howMany 13 = .ok (.putfield 46, 3) := by decide +kernel
theorem dX2_howMany_16 : decode cX2_howMany 16 = .ok (.aload_n 0, 1) := by decide +kernel
theorem dX2_howMany_17 : decode cX2_howMany 17 = .ok (.ldc 57, 2) := by decide +kernel
theorem dX2_howMany_19 : decode cX2_howMany 19 = .ok (.putfield 50, 3) := by decide +kernel
theorem dX2_howMany_22 : decode cX2_howMany 22 = .ok (.aload_n 0, 1) := by decide +kernel
theorem dX2_howMany_23 : decode cX2_howMany 23 = .ok (.iload_n 3, 1) := by decide +kernel
theorem dX2_howMany_24 : decode cX2_howMany 24 = .ok (.invokevirtual 53, 3) := by decide +kernel
theorem dX2_howMany_27 : decode cX2_howMany 27 = .ok (.ireturn, 1) := by decide +kernel
theorem dX2_callOfRow_0 : decode cX2_callOfRow 0 = .ok (.iload_n 1, 1) := by decide +kernel
theorem dX2_callOfRow_1 : decode cX2_callOfRow 1 = .ok (.iconst 5, 1) := by decide +kernel
theorem dX2_callOfRow_2 : decode cX2_callOfRow 2 = .ok (.invokestatic 58, 3) := by decide +kernel
theorem dX2_callOfRow_5 : decode cX2_callOfRow 5 = .ok (.ifCond .eq 12, 3) := by decide +kernel
theorem dX2_callOfRow_8 : decode cX2_callOfRow 8 = .ok (.aload_n 0, 1) := by decide +kernel
theorem dX2_callOfRow_9 : decode cX2_callOfRow 9 = .ok (.getfield 32, 3) := by decide +kernel
theorem dX2_callOfRow_12 : decode cX2_callOfRow 12 = .ok (.iload_n 1, 1) := by decide +kernel
theorem dX2_callOfRow_13 : decode cX2_callOfRow 13 = .ok (.iaload, 1) := by decide +kernel
theorem dX2_callOfRow_14 : decode cX2_callOfRow 14 = .ok (.goto 4, 3) := by decide +kernel
theorem dX2_callOfRow_17 : decode cX2_callOfRow 17 = .ok (.iconst (-1), 1) := by decide +kernel
theorem dX2_callOfRow_18 : decode cX2_callOfRow 18 = .ok (.ireturn, 1) := by decide +kernel
theorem dX2_start_0 : decode cX2_start 0 = .ok (.aload_n 0, 1) := by decide +kernel
theorem dX2_start_1 : decode cX2_start 1 = .ok (.iload_n 2, 1) := by decide +kernel
theorem dX2_start_2 : decode cX2_start 2 = .ok (.putfield 62, 3) := by decide +kernel
theorem dX2_start_5 : decode cX2_start 5 = .ok (.aload_n 0, 1) := by decide +kernel
theorem dX2_start_6 : decode cX2_start 6 = .ok (.aload_n 1, 1) := by decide +kernel
theorem dX2_start_7 : decode cX2_start 7 = .ok (.getfield 65, 3) := by decide +kernel
theorem dX2_start_10 : decode cX2_start 10 = .ok (.putfield 70, 3) := by decide +kernel
theorem dX2_start_13 : decode cX2_start 13 = .ok (.aload_n 0, 1) := by decide +kernel
theorem dX2_start_14 : decode cX2_start 14 = .ok (.aload_n 1, 1) := by decide +kernel
theorem dX2_start_15 : decode cX2_start 15 = .ok (.getfield 71, 3) := by decide +kernel
theorem dX2_start_18 : decode cX2_start 18 = .ok (.putfield 74, 3) := by decide +kernel
theorem dX2_start_21 : decode cX2_start 21 = .ok (.aload_n 1, 1) := by decide +kernel
theorem dX2_start_22 : decode cX2_start 22 = .ok (.getfield 75, 3) := by decide +kernel
theorem dX2_start_25 : decode cX2_start 25 = .ok (.iconst 0, 1) := by decide +kernel
theorem dX2_start_26 : decode cX2_start 26 = .ok (.aload_n 0, 1) := by decide +kernel
theorem dX2_start_27 : decode cX2_start 27 = .ok (.getfield 29, 3) := by decide +kernel
theorem dX2_start_30 : decode cX2_start 30 = .ok (.iconst 0, 1) := by decide +kernel
theorem dX2_start_31 : decode cX2_start 31 = .ok (.bipush 8, 2) := by decide +kernel
theorem dX2_start_33 : decode cX2_start 33 = .ok (.invokestatic 76, 3) := by decide +kernel
theorem dX2_start_36 : decode cX2_start 36 = .ok (.aload_n 1, 1) := by decide +kernel
theorem dX2_start_37 : decode cX2_start 37 = .ok (.getfield 82, 3) := by decide +kernel
theorem dX2_start_40 : decode cX2_start 40 = .ok (.iconst 0, 1) := by decide +kernel
theorem dX2_start_41 : decode cX2_start 41 = .ok (.aload_n 0, 1) := by decide +kernel
theorem dX2_start_42 : decode cX2_start 42 = .ok (.getfield 23, 3) := by decide +kernel
theorem dX2_start_45 : decode cX2_start 45 = .ok (.iconst 0, 1) := by decide +kernel
theorem dX2_start_46 : decode cX2_start 46 = .ok (.aaload, 1) := by decide +kernel
theorem dX2_start_47 : decode cX2_start 47 = .ok (.iconst 0, 1) := by decide +kernel
theorem dX2_start_48 : decode cX2_start 48 = .ok (.bipush 8, 2) := by decide +kernel
theorem dX2_start_50 : decode cX2_start 50 = .ok (.invokestatic 76, 3) := by decide +kernel
theorem dX2_start_53 : decode cX2_start 53 = .ok (.aload_n 0, 1) := by decide +kernel
theorem dX2_start_54 : decode cX2_start 54 = .ok (.getfield 26, 3) := by decide +kernel
theorem dX2_start_57 : decode cX2_start 57 = .ok (.iconst 0, 1) := by decide +kernel
theorem dX2_start_58 : decode cX2_start 58 = .ok (.aload_n 0, 1) := by decide +kernel
theorem dX2_start_59 : decode cX2_start 59 = .ok (.getfield 23, 3) := by decide +kernel
theorem dX2_start_62 : decode cX2_start 62 = .ok (.iconst 0, 1) := by decide +kernel
theorem dX2_start_63 : decode cX2_start 63 = .ok (.aaload, 1) := by decide +kernel
theorem dX2_start_64 : decode cX2_start 64 = .ok (.aload_n 0, 1) := by decide +kernel
theorem dX2_start_65 : decode cX2_start 65 = .ok (.getfield 70, 3) := by decide +kernel
theorem dX2_start_68 : decode cX2_start 68 = .ok (.invokestatic 85, 3) := by decide +kernel
theorem dX2_start_71 : decode cX2_start 71 = .ok (.iastore, 1) := by decide +kernel
theorem dX2_start_72 : decode cX2_start 72 = .ok (.aload_n 0, 1) := by decide +kernel
theorem dX2_start_73 : decode cX2_start 73 = .ok (.getfield 35, 3) := by decide +kernel
theorem dX2_start_76 : decode cX2_start 76 = .ok (.iconst 0, 1) := by decide +kernel
theorem dX2_start_77 : decode cX2_start 77 = .ok (.invokestatic 89, 3) := by decide +kernel
theorem dX2_start_80 : decode cX2_start 80 = .ok (.iconst 0, 1) := by decide +kernel
theorem dX2_start_81 : decode cX2_start 81 = .ok (.istore_n 3, 1) := by decide +kernel
theorem dX2_start_82 : decode cX2_start 82 = .ok (.iload_n 3, 1) := by decide +kernel
theorem dX2_start_83 : decode cX2_start 83 = .ok (.aload_n 0, 1) := by decide +kernel
theorem dX2_start_84 : decode cX2_start 84 = .ok (.getfield 74, 3) := by decide +kernel
theorem dX2_start_87 : decode cX2_start 87 = .ok (.if_icmp .ge 77, 3) := by decide +kernel
theorem dX2_start_90 : decode cX2_start 90 = .ok (.aload_n 0, 1) := by decide +kernel
theorem dX2_start_91 : decode cX2_start 91 = .ok (.getfield 16, 3) := by decide +kernel
theorem dX2_start_94 : decode cX2_start 94 = .ok (.iload_n 3, 1) := by decide +kernel
theorem dX2_start_95 : decode cX2_start 95 = .ok (.aload_n 1, 1) := by decide +kernel
theorem dX2_start_96 : decode cX2_start 96 = .ok (.getfield 95, 3) := by decide +kernel
theorem dX2_start_99 : decode cX2_start 99 = .ok (.iload_n 3, 1) := by decide +kernel
theorem dX2_start_100 : decode cX2_start 100 = .ok (.aaload, 1) := by decide +kernel
theorem dX2_start_101 : decode cX2_start 101 = .ok (.iconst 1, 1) := by decide +kernel
theorem dX2_start_102 : decode cX2_start 102 = .ok (.invokevirtual 99, 3) := by decide +kernel
theorem dX2_start_105 : decode cX2_start 105 = .ok (.iastore, 1) := by decide +kernel
theorem dX2_start_106 : decode cX2_start 106 = .ok (.aload_n 0, 1) := by decide +kernel
theorem dX2_start_107 : decode cX2_start 107 = .ok (.getfield 20, 3) := by decide +kernel
theorem dX2_start_110 : decode cX2_start 110 = .ok (.iload_n 3, 1) := by decide +kernel
theorem dX2_start_111 : decode cX2_start 111 = .ok (.aload_n 1, 1) := by decide +kernel
theorem dX2_start_112 : decode cX2_start 112 = .ok (.getfield 95, 3) := by decide +kernel
theorem dX2_start_115 : decode cX2_start 115 = .ok (.iload_n 3, 1) := by decide +kernel
theorem dX2_start_116 : decode cX2_start 116 = .ok (.aaload, 1) := by decide +kernel
theorem dX2_start_117 : decode cX2_start 117 = .ok (.iconst 2, 1) := by decide +kernel
theorem dX2_start_118 : decode cX2_start 118 = .ok (.invokevirtual 99, 3) := by decide +kernel
theorem dX2_start_121 : decode cX2_start 121 = .ok (.iastore, 1) := by decide +kernel
theorem dX2_start_122 : decode cX2_start 122 = .ok (.iconst 0, 1) := by decide +kernel
theorem dX2_start_123 : decode cX2_start 123 = .ok (.istore 4, 2) := by decide +kernel
theorem dX2_start_125 : decode cX2_start 125 = .ok (.iload 4, 2) := by decide +kernel
theorem dX2_start_127 : decode cX2_start 127 = .ok (.bipush 48, 2) := by decide +kernel
theorem dX2_start_129 : decode cX2_start 129 = .ok (.if_icmp .ge 29, 3) := by decide +kernel
theorem dX2_start_132 : decode cX2_start 132 = .ok (.aload_n 0, 1) := by decide +kernel
theorem dX2_start_133 : decode cX2_start 133 = .ok (.getfield 11, 3) := by decide +kernel
theorem dX2_start_136 : decode cX2_start 136 = .ok (.iload_n 3, 1) := by decide +kernel
theorem dX2_start_137 : decode cX2_start 137 = .ok (.aaload, 1) := by decide +kernel
theorem dX2_start_138 : decode cX2_start 138 = .ok (.iload 4, 2) := by decide +kernel
theorem dX2_start_140 : decode cX2_start 140 = .ok (.aload_n 1, 1) := by decide +kernel
theorem dX2_start_141 : decode cX2_start 141 = .ok (.getfield 95, 3) := by decide +kernel
theorem dX2_start_144 : decode cX2_start 144 = .ok (.iload_n 3, 1) := by decide +kernel
theorem dX2_start_145 : decode cX2_start 145 = .ok (.aaload, 1) := by decide +kernel
theorem dX2_start_146 : decode cX2_start 146 = .ok (.iload 4, 2) := by decide +kernel
theorem dX2_start_148 : decode cX2_start 148 = .ok (.invokevirtual 104, 3) := by decide +kernel
theorem dX2_start_151 : decode cX2_start 151 = .ok (.iastore, 1) := by decide +kernel
theorem dX2_start_152 : decode cX2_start 152 = .ok (.iinc 4 1, 3) := by decide +kernel
theorem dX2_start_155 : decode cX2_start 155 = .ok (.goto (-30), 3) := by decide +kernel
theorem dX2_start_158 : decode cX2_start 158 = .ok (.iinc 3 1, 3) := by decide +kernel
theorem dX2_start_161 : decode cX2_start 161 = .ok (.goto (-79), 3) := by decide +kernel
theorem dX2_start_164 : decode cX2_start 164 = .ok (.return_, 1) := by decide +kernel
theorem dX2_rowsOfLength_0 : decode cX2_rowsOfLength 0 = .ok (.aload_n 0, 1) := by decide +kernel
theorem dX2_rowsOfLength_1 : decode cX2_rowsOfLength 1 = .ok (.iload_n 1, 1) := by decide +kernel
theorem dX2_rowsOfLength_2 : decode cX2_rowsOfLength 2 = .ok (.putfield 107, 3) := by decide +kernel
theorem dX2_rowsOfLength_5 : decode cX2_rowsOfLength 5 = .ok (.iload_n 1, 1) := by decide +kernel
theorem dX2_rowsOfLength_6 : decode cX2_rowsOfLength 6 = .ok (.ifCond .ne 19, 3) := by decide +kernel
theorem dX2_rowsOfLength_9 : decode cX2_rowsOfLength 9 = .ok (.aload_n 0, 1) := by decide +kernel
theorem dX2_rowsOfLength_10 : decode cX2_rowsOfLength 10 = .ok (.bipush 8, 2) := by decide +kernel
theorem dX2_rowsOfLength_12 : decode cX2_rowsOfLength 12 = .ok (.iconst 0, 1) := by decide +kernel
theorem dX2_rowsOfLength_13 : decode cX2_rowsOfLength 13 = .ok (.invokevirtual 110, 3) := by decide +kernel
theorem dX2_rowsOfLength_16 : decode cX2_rowsOfLength 16 = .ok (.ifCond .eq 7, 3) := by decide +kernel
theorem dX2_rowsOfLength_19 : decode cX2_rowsOfLength 19 = .ok (.iconst 1, 1) := by decide +kernel
theorem dX2_rowsOfLength_20 : decode cX2_rowsOfLength 20 = .ok (.goto 4, 3) := by decide +kernel
theorem dX2_rowsOfLength_23 : decode cX2_rowsOfLength 23 = .ok (.iconst 0, 1) := by decide +kernel
theorem dX2_rowsOfLength_24 : decode cX2_rowsOfLength 24 = .ok (.ireturn, 1) := by decide +kernel
theorem dX2_rowsOfLength_25 : decode cX2_rowsOfLength 25 = .ok (.aload_n 0, 1) := by decide +kernel
theorem dX2_rowsOfLength_26 : decode cX2_rowsOfLength 26 = .ok (.iconst 0, 1) := by decide +kernel
theorem dX2_rowsOfLength_27 : decode cX2_rowsOfLength 27 = .ok (.invokestatic 113, 3) := by decide +kernel
theorem dX2_rowsOfLength_30 : decode cX2_rowsOfLength 30 = .ok (.ireturn, 1) := by decide +kernel
theorem dX2_walk_0 : decode cX2_walk 0 = .ok (.iconst 0, 1) := by decide +kernel
theorem dX2_walk_1 : decode cX2_walk 1 = .ok (.istore_n 2, 1) := by decide +kernel
theorem dX2_walk_2 : decode cX2_walk 2 = .ok (.iconst 0, 1) := by decide +kernel
theorem dX2_walk_3 : decode cX2_walk 3 = .ok (.istore_n 3, 1) := by decide +kernel
theorem dX2_walk_4 : decode cX2_walk 4 = .ok (.iload_n 1, 1) := by decide +kernel
theorem dX2_walk_5 : decode cX2_walk 5 = .ok (.aload_n 0, 1) := by decide +kernel
theorem dX2_walk_6 : decode cX2_walk 6 = .ok (.getfield 107, 3) := by decide +kernel
theorem dX2_walk_9 : decode cX2_walk 9 = .ok (.if_icmp .ge 110, 3) := by decide +kernel
theorem dX2_walk_12 : decode cX2_walk 12 = .ok (.iload_n 3, 1) := by decide +kernel
theorem dX2_walk_13 : decode cX2_walk 13 = .ok (.aload_n 0, 1) := by decide +kernel
theorem dX2_walk_14 : decode cX2_walk 14 = .ok (.getfield 74, 3) := by decide +kernel
theorem dX2_walk_17 : decode cX2_walk 17 = .ok (.if_icmp .ge 102, 3) := by decide +kernel
theorem dX2_walk_20 : decode cX2_walk 20 = .ok (.iload_n 2, 1) := by decide +kernel
theorem dX2_walk_21 : decode cX2_walk 21 = .ok (.aload_n 0, 1) := by decide +kernel
theorem dX2_walk_22 : decode cX2_walk 22 = .ok (.getfield 50, 3) := by decide +kernel
theorem dX2_walk_25 : decode cX2_walk 25 = .ok (.if_icmp .ge 94, 3) := by decide +kernel
theorem dX2_walk_28 : decode cX2_walk 28 = .ok (.aload_n 0, 1) := by decide +kernel
theorem dX2_walk_29 : decode cX2_walk 29 = .ok (.iload_n 3, 1) := by decide +kernel
theorem dX2_walk_30 : decode cX2_walk 30 = .ok (.iload_n 1, 1) := by decide +kernel
theorem dX2_walk_31 : decode cX2_walk 31 = .ok (.invokevirtual 117, 3) := by decide +kernel
theorem dX2_walk_34 : decode cX2_walk 34 = .ok (.ifCond .ne 6, 3) := by decide +kernel
theorem dX2_walk_37 : decode cX2_walk 37 = .ok (.goto 76, 3) := by decide +kernel
theorem dX2_walk_40 : decode cX2_walk 40 = .ok (.aload_n 0, 1) := by decide +kernel
theorem dX2_walk_41 : decode cX2_walk 41 = .ok (.getfield 32, 3) := by decide +kernel
theorem dX2_walk_44 : decode cX2_walk 44 = .ok (.iload_n 1, 1) := by decide +kernel
theorem dX2_walk_45 : decode cX2_walk 45 = .ok (.iload_n 3, 1) := by decide +kernel
theorem dX2_walk_46 : decode cX2_walk 46 = .ok (.iastore, 1) := by decide +kernel
theorem dX2_walk_47 : decode cX2_walk 47 = .ok (.iload_n 1, 1) := by decide +kernel
theorem dX2_walk_48 : decode cX2_walk 48 = .ok (.iconst 1, 1) := by decide +kernel
theorem dX2_walk_49 : decode cX2_walk 49 = .ok (.iadd, 1) := by decide +kernel
theorem dX2_walk_50 : decode cX2_walk 50 = .ok (.aload_n 0, 1) := by decide +kernel
theorem dX2_walk_51 : decode cX2_walk 51 = .ok (.getfield 107, 3) := by decide +kernel
theorem dX2_walk_54 : decode cX2_walk 54 = .ok (.if_icmp .ne 23, 3) := by decide +kernel
theorem dX2_walk_57 : decode cX2_walk 57 = .ok (.iload_n 2, 1) := by decide +kernel
theorem dX2_walk_58 : decode cX2_walk 58 = .ok (.aload_n 0, 1) := by decide +kernel
theorem dX2_walk_59 : decode cX2_walk 59 = .ok (.iload_n 3, 1) := by decide +kernel
theorem dX2_walk_60 : decode cX2_walk 60 = .ok (.iload_n 1, 1) := by decide +kernel
theorem dX2_walk_61 : decode cX2_walk 61 = .ok (.invokevirtual 110, 3) := by decide +kernel
theorem dX2_walk_64 : decode cX2_walk 64 = .ok (.ifCond .eq 7, 3) := by decide +kernel
theorem dX2_walk_67 : decode cX2_walk 67 = .ok (.iconst 1, 1) := by decide +kernel
theorem dX2_walk_68 : decode cX2_walk 68 = .ok (.goto 4, 3) := by decide +kernel
theorem dX2_walk_71 : decode cX2_walk 71 = .ok (.iconst 0, 1) := by decide +kernel
theorem dX2_walk_72 : decode cX2_walk 72 = .ok (.iadd, 1) := by decide +kernel
theorem dX2_walk_73 : decode cX2_walk 73 = .ok (.istore_n 2, 1) := by decide +kernel
theorem dX2_walk_74 : decode cX2_walk 74 = .ok (.goto 39, 3) := by decide +kernel
theorem dX2_walk_77 : decode cX2_walk 77 = .ok (.aload_n 0, 1) := by decide +kernel
theorem dX2_walk_78 : decode cX2_walk 78 = .ok (.iload_n 3, 1) := by decide +kernel
theorem dX2_walk_79 : decode cX2_walk 79 = .ok (.iload_n 1, 1) := by decide +kernel
theorem dX2_walk_80 : decode cX2_walk 80 = .ok (.invokevirtual 120, 3) := by decide +kernel
theorem dX2_walk_83 : decode cX2_walk 83 = .ok (.aload_n 0, 1) := by decide +kernel
theorem dX2_walk_84 : decode cX2_walk 84 = .ok (.getfield 35, 3) := by decide +kernel
theorem dX2_walk_87 : decode cX2_walk 87 = .ok (.iload_n 3, 1) := by decide +kernel
theorem dX2_walk_88 : decode cX2_walk 88 = .ok (.dup2, 1) := by decide +kernel
theorem dX2_walk_89 : decode cX2_walk 89 = .ok (.iaload, 1) := by decide +kernel
theorem dX2_walk_90 : decode cX2_walk 90 = .ok (.iconst 1, 1) := by decide +kernel
theorem dX2_walk_91 : decode cX2_walk 91 = .ok (.iadd, 1) := by decide +kernel
theorem dX2_walk_92 : decode cX2_walk 92 = .ok (.iastore, 1) := by decide +kernel
theorem dX2_walk_93 : decode cX2_walk 93 = .ok (.iload_n 2, 1) := by decide +kernel
theorem dX2_walk_94 : decode cX2_walk 94 = .ok (.aload_n 0, 1) := by decide +kernel
theorem dX2_walk_95 : decode cX2_walk 95 = .ok (.iload_n 1, 1) := by decide +kernel
theorem dX2_walk_96 : decode cX2_walk 96 = .ok (.iconst 1, 1) := by decide +kernel
theorem dX2_walk_97 : decode cX2_walk 97 = .ok (.iadd, 1) := by decide +kernel
theorem dX2_walk_98 : decode cX2_walk 98 = .ok (.invokestatic 113, 3) := by decide +kernel
theorem dX2_walk_101 : decode cX2_walk 101 = .ok (.iadd, 1) := by decide +kernel
theorem dX2_walk_102 : decode cX2_walk 102 = .ok (.istore_n 2, 1) := by decide +kernel
theorem dX2_walk_103 : decode cX2_walk 103 = .ok (.aload_n 0, 1) := by decide +kernel
theorem dX2_walk_104 : decode cX2_walk 104 = .ok (.getfield 35, 3) := by decide +kernel
theorem dX2_walk_107 : decode cX2_walk 107 = .ok (.iload_n 3, 1) := by decide +kernel
theorem dX2_walk_108 : decode cX2_walk 108 = .ok (.dup2, 1) := by decide +kernel
theorem dX2_walk_109 : decode cX2_walk 109 = .ok (.iaload, 1) := by decide +kernel
theorem dX2_walk_110 : decode cX2_walk 110 = .ok (.iconst 1, 1) := by decide +kernel
theorem dX2_walk_111 : decode cX2_walk 111 = .ok (.isub, 1) := by decide +kernel
theorem dX2_walk_112 : decode cX2_walk 112 = .ok (.iastore, 1) := by decide +kernel
theorem dX2_walk_113 : decode cX2_walk 113 = .ok (.iinc 3 1, 3) := by decide +kernel
theorem dX2_walk_116 : decode cX2_walk 116 = .ok (.goto (-112), 3) := by decide +kernel
theorem dX2_walk_119 : decode cX2_walk 119 = .ok (.iload_n 2, 1) := by decide +kernel
theorem dX2_walk_120 : decode cX2_walk 120 = .ok (.ireturn, 1) := by decide +kernel
theorem dX2_mayCome_0 : decode cX2_mayCome 0 = .ok (.aload_n 0, 1) := by decide +kernel
theorem dX2_mayCome_1 : decode cX2_mayCome 1 = .ok (.getfield 35, 3) := by decide +kernel
theorem dX2_mayCome_4 : decode cX2_mayCome 4 = .ok (.iload_n 1, 1) := by decide +kernel
theorem dX2_mayCome_5 : decode cX2_mayCome 5 = .ok (.iaload, 1) := by decide +kernel
theorem dX2_mayCome_6 : decode cX2_mayCome 6 = .ok (.aload_n 0, 1) := by decide +kernel
theorem dX2_mayCome_7 : decode cX2_mayCome 7 = .ok (.getfield 42, 3) := by decide +kernel
theorem dX2_mayCome_10 : decode cX2_mayCome 10 = .ok (.if_icmp .ge 26, 3) := by decide +kernel
theorem dX2_mayCome_13 : decode cX2_mayCome 13 = .ok (.aload_n 0, 1) := by decide +kernel
theorem dX2_mayCome_14 : decode cX2_mayCome 14 = .ok (.getfield 46, 3) := by decide +kernel
theorem dX2_mayCome_17 : decode cX2_mayCome 17 = .ok (.ifCond .ne 21, 3) := by decide +kernel
theorem dX2_mayCome_20 : decode cX2_mayCome 20 = .ok (.iload_n 2, 1) := by decide +kernel
theorem dX2_mayCome_21 : decode cX2_mayCome 21 = .ok (.ifCond .le 17, 3) := by decide +kernel
theorem dX2_mayCome_24 : decode cX2_mayCome 24 = .ok (.aload_n 0, 1) := by decide +kernel
theorem dX2_mayCome_25 : decode cX2_mayCome 25 = .ok (.getfield 32, 3) := by decide +kernel
theorem dX2_mayCome_28 : decode cX2_mayCome 28 = .ok (.iload_n 2, 1) := by decide +kernel
theorem dX2_mayCome_29 : decode cX2_mayCome 29 = .ok (.iconst 1, 1) := by decide +kernel
theorem dX2_mayCome_30 : decode cX2_mayCome 30 = .ok (.isub, 1) := by decide +kernel
theorem dX2_mayCome_31 : decode cX2_mayCome 31 = .ok (.iaload, 1) := by decide +kernel
theorem dX2_mayCome_32 : decode cX2_mayCome 32 = .ok (.iload_n 1, 1) := by decide +kernel
theorem dX2_mayCome_33 : decode cX2_mayCome 33 = .ok (.if_icmp .ne 5, 3) := by decide +kernel
theorem dX2_mayCome_36 : decode cX2_mayCome 36 = .ok (.iconst 0, 1) := by decide +kernel
theorem dX2_mayCome_37 : decode cX2_mayCome 37 = .ok (.ireturn, 1) := by decide +kernel
theorem dX2_mayCome_38 : decode cX2_mayCome 38 = .ok (.aload_n 0, 1) := by decide +kernel
theorem dX2_mayCome_39 : decode cX2_mayCome 39 = .ok (.getfield 26, 3) := by decide +kernel
theorem dX2_mayCome_42 : decode cX2_mayCome 42 = .ok (.iload_n 2, 1) := by decide +kernel
theorem dX2_mayCome_43 : decode cX2_mayCome 43 = .ok (.iaload, 1) := by decide +kernel
theorem dX2_mayCome_44 : decode cX2_mayCome 44 = .ok (.aload_n 0, 1) := by decide +kernel
theorem dX2_mayCome_45 : decode cX2_mayCome 45 = .ok (.getfield 16, 3) := by decide +kernel
theorem dX2_mayCome_48 : decode cX2_mayCome 48 = .ok (.iload_n 1, 1) := by decide +kernel
theorem dX2_mayCome_49 : decode cX2_mayCome 49 = .ok (.iaload, 1) := by decide +kernel
theorem dX2_mayCome_50 : decode cX2_mayCome 50 = .ok (.iand, 1) := by decide +kernel
theorem dX2_mayCome_51 : decode cX2_mayCome 51 = .ok (.aload_n 0, 1) := by decide +kernel
theorem dX2_mayCome_52 : decode cX2_mayCome 52 = .ok (.getfield 16, 3) := by decide +kernel
theorem dX2_mayCome_55 : decode cX2_mayCome 55 = .ok (.iload_n 1, 1) := by decide +kernel
theorem dX2_mayCome_56 : decode cX2_mayCome 56 = .ok (.iaload, 1) := by decide +kernel
theorem dX2_mayCome_57 : decode cX2_mayCome 57 = .ok (.if_icmp .ne 23, 3) := by decide +kernel
theorem dX2_mayCome_60 : decode cX2_mayCome 60 = .ok (.aload_n 0, 1) := by decide +kernel
theorem dX2_mayCome_61 : decode cX2_mayCome 61 = .ok (.getfield 26, 3) := by decide +kernel
theorem dX2_mayCome_64 : decode cX2_mayCome 64 = .ok (.iload_n 2, 1) := by decide +kernel
theorem dX2_mayCome_65 : decode cX2_mayCome 65 = .ok (.iaload, 1) := by decide +kernel
theorem dX2_mayCome_66 : decode cX2_mayCome 66 = .ok (.aload_n 0, 1) := by decide +kernel
theorem dX2_mayCome_67 : decode cX2_mayCome 67 = .ok (.getfield 20, 3) := by decide +kernel
theorem dX2_mayCome_70 : decode cX2_mayCome 70 = .ok (.iload_n 1, 1) := by decide +kernel
theorem dX2_mayCome_71 : decode cX2_mayCome 71 = .ok (.iaload, 1) := by decide +kernel
