theorem dX3_whoIsOn_10 : decode cX3_whoIsOn 10 = .ok (.aload_n 0, 1) := by decide +kernel
theorem dX3_whoIsOn_11 : decode cX3_whoIsOn 11 = .ok (.getfield 9, 3) := by decide +kernel
theorem dX3_whoIsOn_14 : decode cX3_whoIsOn 14 = .ok (.iload_n 2, 1) := by decide +kernel
theorem dX3_whoIsOn_15 : decode cX3_whoIsOn 15 = .ok (.iaload, 1) := by decide +kernel
theorem dX3_whoIsOn_16 : decode cX3_whoIsOn 16 = .ok (.iconst 4, 1) := by decide +kernel
theorem dX3_whoIsOn_17 : decode cX3_whoIsOn 17 = .ok (.idiv, 1) := by decide +kernel
theorem dX3_whoIsOn_18 : decode cX3_whoIsOn 18 = .ok (.iload_n 1, 1) := by decide +kernel
theorem dX3_whoIsOn_19 : decode cX3_whoIsOn 19 = .ok (.if_icmp .ne 5, 3) := by decide +kernel
theorem dX3_whoIsOn_22 : decode cX3_whoIsOn 22 = .ok (.iload_n 2, 1) := by decide +kernel
theorem dX3_whoIsOn_23 : decode cX3_whoIsOn 23 = .ok (.ireturn, 1) := by decide +kernel
theorem dX3_whoIsOn_24 : decode cX3_whoIsOn 24 = .ok (.iinc 2 1, 3) := by decide +kernel
theorem dX3_whoIsOn_27 : decode cX3_whoIsOn 27 = .ok (.goto (-25), 3) := by decide +kernel
theorem dX3_whoIsOn_30 : decode cX3_whoIsOn 30 = .ok (.iconst (-1), 1) := by decide +kernel
theorem dX3_whoIsOn_31 : decode cX3_whoIsOn 31 = .ok (.ireturn, 1) := by decide +kernel
theorem dX3_isHome_0 : decode cX3_isHome 0 = .ok (.iconst 0, 1) := by decide +kernel
theorem dX3_isHome_1 : decode cX3_isHome 1 = .ok (.istore_n 2, 1) := by decide +kernel
theorem dX3_isHome_2 : decode cX3_isHome 2 = .ok (.iload_n 2, 1) := by decide +kernel
theorem dX3_isHome_3 : decode cX3_isHome 3 = .ok (.aload_n 0, 1) := by decide +kernel
theorem dX3_isHome_4 : decode cX3_isHome 4 = .ok (.getfield 31, 3) := by decide +kernel
theorem dX3_isHome_7 : decode cX3_isHome 7 = .ok (.if_icmp .ge 23, 3) := by decide +kernel
theorem dX3_isHome_10 : decode cX3_isHome 10 = .ok (.aload_n 0, 1) := by decide +kernel
theorem dX3_isHome_11 : decode cX3_isHome 11 = .ok (.getfield 15, 3) := by decide +kernel
theorem dX3_isHome_14 : decode cX3_isHome 14 = .ok (.iload_n 2, 1) := by decide +kernel
theorem dX3_isHome_15 : decode cX3_isHome 15 = .ok (.iaload, 1) := by decide +kernel
theorem dX3_isHome_16 : decode cX3_isHome 16 = .ok (.iconst 4, 1) := by decide +kernel
theorem dX3_isHome_17 : decode cX3_isHome 17 = .ok (.idiv, 1) := by decide +kernel
theorem dX3_isHome_18 : decode cX3_isHome 18 = .ok (.iload_n 1, 1) := by decide +kernel
theorem dX3_isHome_19 : decode cX3_isHome 19 = .ok (.if_icmp .ne 5, 3) := by decide +kernel
theorem dX3_isHome_22 : decode cX3_isHome 22 = .ok (.iconst 1, 1) := by decide +kernel
theorem dX3_isHome_23 : decode cX3_isHome 23 = .ok (.ireturn, 1) := by decide +kernel
theorem dX3_isHome_24 : decode cX3_isHome 24 = .ok (.iinc 2 1, 3) := by decide +kernel
theorem dX3_isHome_27 : decode cX3_isHome 27 = .ok (.goto (-25), 3) := by decide +kernel
theorem dX3_isHome_30 : decode cX3_isHome 30 = .ok (.iconst 0, 1) := by decide +kernel
theorem dX3_isHome_31 : decode cX3_isHome 31 = .ok (.ireturn, 1) := by decide +kernel
theorem dX3_isSpotOfCall_0 : decode cX3_isSpotOfCall 0 = .ok (.iload_n 1, 1) := by decide +kernel
theorem dX3_isSpotOfCall_1 : decode cX3_isSpotOfCall 1 = .ok (.aload_n 0, 1) := by decide +kernel
theorem dX3_isSpotOfCall_2 : decode cX3_isSpotOfCall 2 = .ok (.getfield 41, 3) := by decide +kernel
theorem dX3_isSpotOfCall_5 : decode cX3_isSpotOfCall 5 = .ok (.invokestatic 54, 3) := by decide +kernel
theorem dX3_isSpotOfCall_8 : decode cX3_isSpotOfCall 8 = .ok (.ifCond .eq 16, 3) := by decide +kernel
theorem dX3_isSpotOfCall_11 : decode cX3_isSpotOfCall 11 = .ok (.iload_n 2, 1) := by decide +kernel
theorem dX3_isSpotOfCall_12 : decode cX3_isSpotOfCall 12 = .ok (.bipush 12, 2) := by decide +kernel
theorem dX3_isSpotOfCall_14 : decode cX3_isSpotOfCall 14 = .ok (.invokestatic 54, 3) := by decide +kernel
theorem dX3_isSpotOfCall_17 : decode cX3_isSpotOfCall 17 = .ok (.ifCond .eq 7, 3) := by decide +kernel
theorem dX3_isSpotOfCall_20 : decode cX3_isSpotOfCall 20 = .ok (.iconst 1, 1) := by decide +kernel
theorem dX3_isSpotOfCall_21 : decode cX3_isSpotOfCall 21 = .ok (.goto 4, 3) := by decide +kernel
theorem dX3_isSpotOfCall_24 : decode cX3_isSpotOfCall 24 = .ok (.iconst 0, 1) := by decide +kernel
theorem dX3_isSpotOfCall_25 : decode cX3_isSpotOfCall 25 = .ok (.ireturn, 1) := by decide +kernel
theorem dX3_move_0 : decode cX3_move 0 = .ok (.iconst 0, 1) := by decide +kernel
theorem dX3_move_1 : decode cX3_move 1 = .ok (.istore_n 3, 1) := by decide +kernel
theorem dX3_move_2 : decode cX3_move 2 = .ok (.iconst 0, 1) := by decide +kernel
theorem dX3_move_3 : decode cX3_move 3 = .ok (.istore 4, 2) := by decide +kernel
theorem dX3_move_5 : decode cX3_move 5 = .ok (.iload 4, 2) := by decide +kernel
theorem dX3_move_7 : decode cX3_move 7 = .ok (.aload_n 0, 1) := by decide +kernel
theorem dX3_move_8 : decode cX3_move 8 = .ok (.getfield 31, 3) := by decide +kernel
theorem dX3_move_11 : decode cX3_move 11 = .ok (.if_icmp .ge 42, 3) := by decide +kernel
theorem dX3_move_14 : decode cX3_move 14 = .ok (.aload_n 2, 1) := by decide +kernel
theorem dX3_move_15 : decode cX3_move 15 = .ok (.aload_n 1, 1) := by decide +kernel
theorem dX3_move_16 : decode cX3_move 16 = .ok (.iload 4, 2) := by decide +kernel
theorem dX3_move_18 : decode cX3_move 18 = .ok (.iaload, 1) := by decide +kernel
theorem dX3_move_19 : decode cX3_move 19 = .ok (.invokevirtual 134, 3) := by decide +kernel
theorem dX3_move_22 : decode cX3_move 22 = .ok (.istore 5, 2) := by decide +kernel
theorem dX3_move_24 : decode cX3_move 24 = .ok (.iload_n 3, 1) := by decide +kernel
theorem dX3_move_25 : decode cX3_move 25 = .ok (.iload 5, 2) := by decide +kernel
theorem dX3_move_27 : decode cX3_move 27 = .ok (.aload_n 1, 1) := by decide +kernel
theorem dX3_move_28 : decode cX3_move 28 = .ok (.iload 4, 2) := by decide +kernel
theorem dX3_move_30 : decode cX3_move 30 = .ok (.iaload, 1) := by decide +kernel
theorem dX3_move_31 : decode cX3_move 31 = .ok (.if_icmp .eq 7, 3) := by decide +kernel
theorem dX3_move_34 : decode cX3_move 34 = .ok (.iconst 1, 1) := by decide +kernel
theorem dX3_move_35 : decode cX3_move 35 = .ok (.goto 4, 3) := by decide +kernel
theorem dX3_move_38 : decode cX3_move 38 = .ok (.iconst 0, 1) := by decide +kernel
theorem dX3_move_39 : decode cX3_move 39 = .ok (.iadd, 1) := by decide +kernel
theorem dX3_move_40 : decode cX3_move 40 = .ok (.istore_n 3, 1) := by decide +kernel
theorem dX3_move_41 : decode cX3_move 41 = .ok (.aload_n 1, 1) := by decide +kernel
theorem dX3_move_42 : decode cX3_move 42 = .ok (.iload 4, 2) := by decide +kernel
theorem dX3_move_44 : decode cX3_move 44 = .ok (.iload 5, 2) := by decide +kernel
theorem dX3_move_46 : decode cX3_move 46 = .ok (.iastore, 1) := by decide +kernel
theorem dX3_move_47 : decode cX3_move 47 = .ok (.iinc 4 1, 3) := by decide +kernel
theorem dX3_move_50 : decode cX3_move 50 = .ok (.goto (-45), 3) := by decide +kernel
theorem dX3_move_53 : decode cX3_move 53 = .ok (.iload_n 3, 1) := by decide +kernel
theorem dX3_move_54 : decode cX3_move 54 = .ok (.ireturn, 1) := by decide +kernel
theorem dX3_partnerOf_0 : decode cX3_partnerOf 0 = .ok (.iload_n 1, 1) := by decide +kernel
theorem dX3_partnerOf_1 : decode cX3_partnerOf 1 = .ok (.iconst 1, 1) := by decide +kernel
theorem dX3_partnerOf_2 : decode cX3_partnerOf 2 = .ok (.ixor, 1) := by decide +kernel
theorem dX3_partnerOf_3 : decode cX3_partnerOf 3 = .ok (.istore_n 2, 1) := by decide +kernel
theorem dX3_partnerOf_4 : decode cX3_partnerOf 4 = .ok (.iload_n 2, 1) := by decide +kernel
theorem dX3_partnerOf_5 : decode cX3_partnerOf 5 = .ok (.aload_n 0, 1) := by decide +kernel
theorem dX3_partnerOf_6 : decode cX3_partnerOf 6 = .ok (.getfield 31, 3) := by decide +kernel
theorem dX3_partnerOf_9 : decode cX3_partnerOf 9 = .ok (.if_icmp .ge 7, 3) := by decide +kernel
theorem dX3_partnerOf_12 : decode cX3_partnerOf 12 = .ok (.iload_n 2, 1) := by decide +kernel
theorem dX3_partnerOf_13 : decode cX3_partnerOf 13 = .ok (.goto 4, 3) := by decide +kernel
theorem dX3_partnerOf_16 : decode cX3_partnerOf 16 = .ok (.iconst (-1), 1) := by decide +kernel
theorem dX3_partnerOf_17 : decode cX3_partnerOf 17 = .ok (.ireturn, 1) := by decide +kernel
theorem dX3_isPaired_0 : decode cX3_isPaired 0 = .ok (.aload_n 0, 1) := by decide +kernel
theorem dX3_isPaired_1 : decode cX3_isPaired 1 = .ok (.iload_n 1, 1) := by decide +kernel
theorem dX3_isPaired_2 : decode cX3_isPaired 2 = .ok (.invokevirtual 113, 3) := by decide +kernel
theorem dX3_isPaired_5 : decode cX3_isPaired 5 = .ok (.istore_n 2, 1) := by decide +kernel
theorem dX3_isPaired_6 : decode cX3_isPaired 6 = .ok (.iload_n 2, 1) := by decide +kernel
theorem dX3_isPaired_7 : decode cX3_isPaired 7 = .ok (.iconst (-1), 1) := by decide +kernel
theorem dX3_isPaired_8 : decode cX3_isPaired 8 = .ok (.if_icmp .eq 25, 3) := by decide +kernel
theorem dX3_isPaired_11 : decode cX3_isPaired 11 = .ok (.aload_n 0, 1) := by decide +kernel
theorem dX3_isPaired_12 : decode cX3_isPaired 12 = .ok (.getfield 9, 3) := by decide +kernel
theorem dX3_isPaired_15 : decode cX3_isPaired 15 = .ok (.iload_n 1, 1) := by decide +kernel
theorem dX3_isPaired_16 : decode cX3_isPaired 16 = .ok (.iaload, 1) := by decide +kernel
theorem dX3_isPaired_17 : decode cX3_isPaired 17 = .ok (.aload_n 0, 1) := by decide +kernel
theorem dX3_isPaired_18 : decode cX3_isPaired 18 = .ok (.getfield 9, 3) := by decide +kernel
theorem dX3_isPaired_21 : decode cX3_isPaired 21 = .ok (.iload_n 2, 1) := by decide +kernel
theorem dX3_isPaired_22 : decode cX3_isPaired 22 = .ok (.iaload, 1) := by decide +kernel
theorem dX3_isPaired_23 : decode cX3_isPaired 23 = .ok (.invokestatic 137, 3) := by decide +kernel
theorem dX3_isPaired_26 : decode cX3_isPaired 26 = .ok (.ifCond .eq 7, 3) := by decide +kernel
theorem dX3_isPaired_29 : decode cX3_isPaired 29 = .ok (.iconst 1, 1) := by decide +kernel
theorem dX3_isPaired_30 : decode cX3_isPaired 30 = .ok (.goto 4, 3) := by decide +kernel
theorem dX3_isPaired_33 : decode cX3_isPaired 33 = .ok (.iconst 0, 1) := by decide +kernel
theorem dX3_isPaired_34 : decode cX3_isPaired 34 = .ok (.ireturn, 1) := by decide +kernel
theorem dX3_howManyAreHome_0 : decode cX3_howManyAreHome 0 = .ok (.iconst 0, 1) := by decide +kernel
theorem dX3_howManyAreHome_1 : decode cX3_howManyAreHome 1 = .ok (.istore_n 1, 1) := by decide +kernel
theorem dX3_howManyAreHome_2 : decode cX3_howManyAreHome 2 = .ok (.iconst 0, 1) := by decide +kernel
theorem dX3_howManyAreHome_3 : decode cX3_howManyAreHome 3 = .ok (.istore_n 2, 1) := by decide +kernel
theorem dX3_howManyAreHome_4 : decode cX3_howManyAreHome 4 = .ok (.iload_n 2, 1) := by decide +kernel
theorem dX3_howManyAreHome_5 : decode cX3_howManyAreHome 5 = .ok (.aload_n 0, 1) := by decide +kernel
theorem dX3_howManyAreHome_6 : decode cX3_howManyAreHome 6 = .ok (.getfield 31, 3) := by decide +kernel
theorem dX3_howManyAreHome_9 : decode cX3_howManyAreHome 9 = .ok (.if_icmp .ge 32, 3) := by decide +kernel
theorem dX3_howManyAreHome_12 : decode cX3_howManyAreHome 12 = .ok (.iload_n 1, 1) := by decide +kernel
theorem dX3_howManyAreHome_13 : decode cX3_howManyAreHome 13 = .ok (.aload_n 0, 1) := by decide +kernel
theorem dX3_howManyAreHome_14 : decode cX3_howManyAreHome 14 = .ok (.getfield 9, 3) := by decide +kernel
theorem dX3_howManyAreHome_17 : decode cX3_howManyAreHome 17 = .ok (.iload_n 2, 1) := by decide +kernel
theorem dX3_howManyAreHome_18 : decode cX3_howManyAreHome 18 = .ok (.iaload, 1) := by decide +kernel
theorem dX3_howManyAreHome_19 : decode cX3_howManyAreHome 19 = .ok (.aload_n 0, 1) := by decide +kernel
theorem dX3_howManyAreHome_20 : decode cX3_howManyAreHome 20 = .ok (.getfield 15, 3) := by decide +kernel
theorem dX3_howManyAreHome_23 : decode cX3_howManyAreHome 23 = .ok (.iload_n 2, 1) := by decide +kernel
theorem dX3_howManyAreHome_24 : decode cX3_howManyAreHome 24 = .ok (.iaload, 1) := by decide +kernel
theorem dX3_howManyAreHome_25 : decode cX3_howManyAreHome 25 = .ok (.if_icmp .ne 7, 3) := by decide +kernel
theorem dX3_howManyAreHome_28 : decode cX3_howManyAreHome 28 = .ok (.iconst 1, 1) := by decide +kernel
theorem dX3_howManyAreHome_29 : decode cX3_howManyAreHome 29 = .ok (.goto 4, 3) := by decide +kernel
theorem dX3_howManyAreHome_32 : decode cX3_howManyAreHome 32 = .ok (.iconst 0, 1) := by decide +kernel
theorem dX3_howManyAreHome_33 : decode cX3_howManyAreHome 33 = .ok (.iadd, 1) := by decide +kernel
theorem dX3_howManyAreHome_34 : decode cX3_howManyAreHome 34 = .ok (.istore_n 1, 1) := by decide +kernel
theorem dX3_howManyAreHome_35 : decode cX3_howManyAreHome 35 = .ok (.iinc 2 1, 3) := by decide +kernel
theorem dX3_howManyAreHome_38 : decode cX3_howManyAreHome 38 = .ok (.goto (-34), 3) := by decide +kernel
theorem dX3_howManyAreHome_41 : decode cX3_howManyAreHome 41 = .ok (.iload_n 1, 1) := by decide +kernel
theorem dX3_howManyAreHome_42 : decode cX3_howManyAreHome 42 = .ok (.ireturn, 1) := by decide +kernel
theorem dX3_howManyPartnersArePaired_0 : decode cX3_howManyPartnersArePaired 0 = .ok (.iconst 0, 1) := by decide +kernel
theorem dX3_howManyPartnersArePaired_1 : decode cX3_howManyPartnersArePaired 1 = .ok (.istore_n 1, 1) := by decide +kernel
theorem dX3_howManyPartnersArePaired_2 : decode cX3_howManyPartnersArePaired 2 = .ok (.iconst 0, 1) := by decide +kernel
theorem dX3_howManyPartnersArePaired_3 : decode cX3_howManyPartnersArePaired 3 = .ok (.istore_n 2, 1) := by decide +kernel
theorem dX3_howManyPartnersArePaired_4 : decode cX3_howManyPartnersArePaired 4 = .ok (.iload_n 2, 1) := by decide +kernel
theorem dX3_howManyPartnersArePaired_5 : decode cX3_howManyPartnersArePaired 5 = .ok (.aload_n 0, 1) := by decide +kernel
theorem dX3_howManyPartnersArePaired_6 : decode cX3_howManyPartnersArePaired 6 = .ok (.getfield 31, 3) := by decide +kernel
theorem dX3_howManyPartnersArePaired_9 : decode cX3_howManyPartnersArePaired 9 = .ok (.if_icmp .ge 25, 3) := by decide +kernel
theorem dX3_howManyPartnersArePaired_12 : decode cX3_howManyPartnersArePaired 12 = .ok (.iload_n 1, 1) := by decide +kernel
theorem dX3_howManyPartnersArePaired_13 : decode cX3_howManyPartnersArePaired 13 = .ok (.aload_n 0, 1) := by decide +kernel
theorem dX3_howManyPartnersArePaired_14 : decode cX3_howManyPartnersArePaired 14 = .ok (.iload_n 2, 1) := by decide +kernel
theorem dX3_howManyPartnersArePaired_15 : decode cX3_howManyPartnersArePaired 15 = .ok (.invokevirtual 116, 3) := by decide +kernel
theorem dX3_howManyPartnersArePaired_18 : decode cX3_howManyPartnersArePaired 18 = .ok (.ifCond .eq 7, 3) := by decide +kernel
theorem dX3_howManyPartnersArePaired_21 : decode cX3_howManyPartnersArePaired 21 = .ok (.iconst 1, 1) := by decide +kernel
theorem dX3_howManyPartnersArePaired_22 : decode cX3_howManyPartnersArePaired 22 = .ok (.goto 4, 3) := by decide +kernel
theorem dX3_howManyPartnersArePaired_25 : decode cX3_howManyPartnersArePaired 25 = .ok (.iconst 0, 1) := by decide +kernel
theorem dX3_howManyPartnersArePaired_26 : decode cX3_howManyPartnersArePaired 26 = .ok (.iadd, 1) := by decide +kernel
theorem dX3_howManyPartnersArePaired_27 : decode cX3_howManyPartnersArePaired 27 = .ok (.istore_n 1, 1) := by decide +kernel
theorem dX3_howManyPartnersArePaired_28 : decode cX3_howManyPartnersArePaired 28 = .ok (.iinc 2 2, 3) := by decide +kernel
theorem dX3_howManyPartnersArePaired_31 : decode cX3_howManyPartnersArePaired 31 = .ok (.goto (-27), 3) := by decide +kernel
theorem dX3_howManyPartnersArePaired_34 : decode cX3_howManyPartnersArePaired 34 = .ok (.iload_n 1, 1) := by decide +kernel
theorem dX3_howManyPartnersArePaired_35 : decode cX3_howManyPartnersArePaired 35 = .ok (.ireturn, 1) := by decide +kernel
theorem dX3_callsThatFit_0 : decode cX3_callsThatFit 0 = .ok (.aload_n 0, 1) := by decide +kernel
theorem dX3_callsThatFit_1 : decode cX3_callsThatFit 1 = .ok (.getfield 9, 3) := by decide +kernel
theorem dX3_callsThatFit_4 : decode cX3_callsThatFit 4 = .ok (.aload_n 0, 1) := by decide +kernel
theorem dX3_callsThatFit_5 : decode cX3_callsThatFit 5 = .ok (.getfield 31, 3) := by decide +kernel
theorem dX3_callsThatFit_8 : decode cX3_callsThatFit 8 = .ok (.invokestatic 96, 3) := by decide +kernel
theorem dX3_callsThatFit_11 : decode cX3_callsThatFit 11 = .ok (.istore_n 1, 1) := by decide +kernel
theorem dX3_callsThatFit_12 : decode cX3_callsThatFit 12 = .ok (.iconst 0, 1) := by decide +kernel
theorem dX3_callsThatFit_13 : decode cX3_callsThatFit 13 = .ok (.istore_n 2, 1) := by decide +kernel
theorem dX3_callsThatFit_14 : decode cX3_callsThatFit 14 = .ok (.iconst 0, 1) := by decide +kernel
theorem dX3_callsThatFit_15 : decode cX3_callsThatFit 15 = .ok (.istore_n 3, 1) := by decide +kernel
theorem dX3_callsThatFit_16 : decode cX3_callsThatFit 16 = .ok (.iload_n 3, 1) := by decide +kernel
theorem dX3_callsThatFit_17 : decode cX3_callsThatFit 17 = .ok (.aload_n 0, 1) := by decide +kernel
theorem dX3_callsThatFit_18 : decode cX3_callsThatFit 18 = .ok (.getfield 41, 3) := by decide +kernel
theorem dX3_callsThatFit_21 : decode cX3_callsThatFit 21 = .ok (.if_icmp .ge 28, 3) := by decide +kernel
theorem dX3_callsThatFit_24 : decode cX3_callsThatFit 24 = .ok (.aload_n 0, 1) := by decide +kernel
theorem dX3_callsThatFit_25 : decode cX3_callsThatFit 25 = .ok (.getfield 20, 3) := by decide +kernel
theorem dX3_callsThatFit_28 : decode cX3_callsThatFit 28 = .ok (.iload_n 3, 1) := by decide +kernel
theorem dX3_callsThatFit_29 : decode cX3_callsThatFit 29 = .ok (.aaload, 1) := by decide +kernel
theorem dX3_callsThatFit_30 : decode cX3_callsThatFit 30 = .ok (.iload_n 1, 1) := by decide +kernel
theorem dX3_callsThatFit_31 : decode cX3_callsThatFit 31 = .ok (.invokevirtual 100, 3) := by decide +kernel
theorem dX3_callsThatFit_34 : decode cX3_callsThatFit 34 = .ok (.ifCond .eq 9, 3) := by decide +kernel
theorem dX3_callsThatFit_37 : decode cX3_callsThatFit 37 = .ok (.iload_n 2, 1) := by decide +kernel
theorem dX3_callsThatFit_38 : decode cX3_callsThatFit 38 = .ok (.iconst 1, 1) := by decide +kernel
theorem dX3_callsThatFit_39 : decode cX3_callsThatFit 39 = .ok (.iload_n 3, 1) := by decide +kernel
theorem dX3_callsThatFit_40 : decode cX3_callsThatFit 40 = .ok (.ishl, 1) := by decide +kernel
theorem dX3_callsThatFit_41 : decode cX3_callsThatFit 41 = .ok (.ior, 1) := by decide +kernel
theorem dX3_callsThatFit_42 : decode cX3_callsThatFit 42 = .ok (.istore_n 2, 1) := by decide +kernel
theorem dX3_callsThatFit_43 : decode cX3_callsThatFit 43 = .ok (.iinc 3 1, 3) := by decide +kernel
theorem dX3_callsThatFit_46 : decode cX3_callsThatFit 46 = .ok (.goto (-30), 3) := by decide +kernel
theorem dX3_callsThatFit_49 : decode cX3_callsThatFit 49 = .ok (.iload_n 2, 1) := by decide +kernel
theorem dX3_callsThatFit_50 : decode cX3_callsThatFit 50 = .ok (.ireturn, 1) := by decide +kernel
theorem dX4_init_0 : decode cX4_init 0 = .ok (.aload_n 0, 1) := by decide +kernel
theorem dX4_init_1 : decode cX4_init 1 = .ok (.invokespecial 3, 3) := by decide +kernel
theorem dX4_init_4 : decode cX4_init 4 = .ok (.aload_n 0, 1) := by decide +kernel
theorem dX4_init_5 : decode cX4_init 5 = .ok (.bipush 120, 2) := by decide +kernel
theorem dX4_init_7 : decode cX4_init 7 = .ok (.newarray .int, 2) := by decide +kernel
theorem dX4_init_9 : decode cX4_init 9 = .ok (.putfield 9, 3) := by decide +kernel
theorem dX4_init_12 : decode cX4_init 12 = .ok (.aload_n 0, 1) := by decide +kernel
theorem dX4_init_13 : decode cX4_init 13 = .ok (.iconst 3, 1) := by decide +kernel
theorem dX4_init_14 : decode cX4_init 14 = .ok (.newarray .int, 2) := by decide +kernel
theorem dX4_init_16 : decode cX4_init 16 = .ok (.putfield 15, 3) := by decide +kernel
theorem dX4_init_19 : decode cX4_init 19 = .ok (.aload_n 0, 1) := by decide +kernel
theorem dX4_init_20 : decode cX4_init 20 = .ok (.bipush 12, 2) := by decide +kernel
theorem dX4_init_22 : decode cX4_init 22 = .ok (.newarray .int, 2) := by decide +kernel
theorem dX4_init_24 : decode cX4_init 24 = .ok (.putfield 18, 3) := by decide +kernel
theorem dX4_init_27 : decode cX4_init 27 = .ok (.return_, 1) := by decide +kernel
theorem dX4_append_0 : decode cX4_append 0 = .ok (.iload_n 1, 1) := by decide +kernel
theorem dX4_append_1 : decode cX4_append 1 = .ok (.sipush 128, 3) := by decide +kernel
theorem dX4_append_4 : decode cX4_append 4 = .ok (.invokestatic 21, 3) := by decide +kernel
theorem dX4_append_7 : decode cX4_append 7 = .ok (.ifCond .ne 6, 3) := by decide +kernel
theorem dX4_append_10 : decode cX4_append 10 = .ok (.bipush (-2), 2) := by decide +kernel
theorem dX4_append_12 : decode cX4_append 12 = .ok (.ireturn, 1) := by decide +kernel
theorem dX4_append_13 : decode cX4_append 13 = .ok (.aload_n 0, 1) := by decide +kernel
theorem dX4_append_14 : decode cX4_append 14 = .ok (.getfield 25, 3) := by decide +kernel
theorem dX4_append_17 : decode cX4_append 17 = .ok (.bipush 120, 2) := by decide +kernel
theorem dX4_append_19 : decode cX4_append 19 = .ok (.if_icmp .lt 6, 3) := by decide +kernel
theorem dX4_append_22 : decode cX4_append 22 = .ok (.bipush (-4), 2) := by decide +kernel
theorem dX4_append_24 : decode cX4_append 24 = .ok (.ireturn, 1) := by decide +kernel
theorem dX4_append_25 : decode cX4_append 25 = .ok (.aload_n 0, 1) := by decide +kernel
theorem dX4_append_26 : decode cX4_append 26 = .ok (.getfield 9, 3) := by decide +kernel
theorem dX4_append_29 : decode cX4_append 29 = .ok (.aload_n 0, 1) := by decide +kernel
theorem dX4_append_30 : decode cX4_append 30 = .ok (.getfield 25, 3) := by decide +kernel
theorem dX4_append_33 : decode cX4_append 33 = .ok (.iload_n 1, 1) := by decide +kernel
theorem dX4_append_34 : decode cX4_append 34 = .ok (.iastore, 1) := by decide +kernel
theorem dX4_append_35 : decode cX4_append 35 = .ok (.aload_n 0, 1) := by decide +kernel
theorem dX4_append_36 : decode cX4_append 36 = .ok (.dup, 1) := by decide +kernel
theorem dX4_append_37 : decode cX4_append 37 = .ok (.getfield 25, 3) := by decide +kernel
theorem dX4_append_40 : decode cX4_append 40 = .ok (.iconst 1, 1) := by decide +kernel
theorem dX4_append_41 : decode cX4_append 41 = .ok (.iadd, 1) := by decide +kernel
theorem dX4_append_42 : decode cX4_append 42 = .ok (.putfield 25, 3) := by decide +kernel
theorem dX4_append_45 : decode cX4_append 45 = .ok (.aload_n 0, 1) := by decide +kernel
theorem dX4_append_46 : decode cX4_append 46 = .ok (.getfield 25, 3) := by decide +kernel
theorem dX4_append_49 : decode cX4_append 49 = .ok (.ireturn, 1) := by decide +kernel
theorem dX4_empty_0 : decode cX4_empty 0 = .ok (.aload_n 0, 1) := by decide +kernel
theorem dX4_empty_1 : decode cX4_empty 1 = .ok (.getfield 25, 3) := by decide +kernel
theorem dX4_empty_4 : decode cX4_empty 4 = .ok (.istore_n 1, 1) := by decide +kernel
theorem dX4_empty_5 : decode cX4_empty 5 = .ok (.aload_n 0, 1) := by decide +kernel
theorem dX4_empty_6 : decode cX4_empty 6 = .ok (.iconst 0, 1) := by decide +kernel
theorem dX4_empty_7 : decode cX4_empty 7 = .ok (.putfield 25, 3) := by decide +kernel
theorem dX4_empty_10 : decode cX4_empty 10 = .ok (.iload_n 1, 1) := by decide +kernel
theorem dX4_empty_11 : decode cX4_empty 11 = .ok (.ireturn, 1) := by decide +kernel
theorem dX4_restart_0 : decode cX4_restart 0 = .ok (.aload_n 0, 1) := by decide +kernel
theorem dX4_restart_1 : decode cX4_restart 1 = .ok (.iconst 0, 1) := by decide +kernel
theorem dX4_restart_2 : decode cX4_restart 2 = .ok (.putfield 29, 3) := by decide +kernel
theorem dX4_restart_5 : decode cX4_restart 5 = .ok (.aload_n 0, 1) := by decide +kernel
theorem dX4_restart_6 : decode cX4_restart 6 = .ok (.iconst (-1), 1) := by decide +kernel
theorem dX4_restart_7 : decode cX4_restart 7 = .ok (.putfield 32, 3) := by decide +kernel
theorem dX4_restart_10 : decode cX4_restart 10 = .ok (.return_, 1) := by decide +kernel
theorem dX4_hasMore_0 : decode cX4_hasMore 0 = .ok (.aload_n 0, 1) := by decide +kernel
theorem dX4_hasMore_1 : decode cX4_hasMore 1 = .ok (.invokevirtual 35, 3) := by decide +kernel
theorem dX4_hasMore_4 : decode cX4_hasMore 4 = .ok (.iconst (-1), 1) := by decide +kernel
theorem dX4_hasMore_5 : decode cX4_hasMore 5 = .ok (.if_icmp .eq 7, 3) := by decide +kernel
theorem dX4_hasMore_8 : decode cX4_hasMore 8 = .ok (.iconst 1, 1) := by decide +kernel
theorem dX4_hasMore_9 : decode cX4_hasMore 9 = .ok (.goto 4, 3) := by decide +kernel
theorem dX4_hasMore_12 : decode cX4_hasMore 12 = .ok (.iconst 0, 1) := by decide +kernel
theorem dX4_hasMore_13 : decode cX4_hasMore 13 = .ok (.ireturn, 1) := by decide +kernel
theorem dX4_firstFault_0 : decode cX4_firstFault 0 = .ok (.aload_n 0, 1) := by decide +kernel
theorem dX4_firstFault_1 : decode cX4_firstFault 1 = .ok (.invokevirtual 39, 3) := by decide +kernel
theorem dX4_firstFault_4 : decode cX4_firstFault 4 = .ok (.aload_n 0, 1) := by decide +kernel
theorem dX4_firstFault_5 : decode cX4_firstFault 5 = .ok (.invokevirtual 42, 3) := by decide +kernel
theorem dX4_firstFault_8 : decode cX4_firstFault 8 = .ok (.istore_n 1, 1) := by decide +kernel
theorem dX4_firstFault_9 : decode cX4_firstFault 9 = .ok (.iconst 1, 1) := by decide +kernel
theorem dX4_firstFault_10 : decode cX4_firstFault 10 = .ok (.istore_n 2, 1) := by decide +kernel
theorem dX4_firstFault_11 : decode cX4_firstFault 11 = .ok (.iload_n 2, 1) := by decide +kernel
theorem dX4_firstFault_12 : decode cX4_firstFault 12 = .ok (.bipush 120, 2) := by decide +kernel
theorem dX4_firstFault_14 : decode cX4_firstFault 14 = .ok (.if_icmp .ge 25, 3) := by decide +kernel
theorem dX4_firstFault_17 : decode cX4_firstFault 17 = .ok (.iload_n 1, 1) := by decide +kernel
theorem dX4_firstFault_18 : decode cX4_firstFault 18 = .ok (.ifCond .eq 21, 3) := by decide +kernel
theorem dX4_firstFault_21 : decode cX4_firstFault 21 = .ok (.aload_n 0, 1) := by decide +kernel
theorem dX4_firstFault_22 : decode cX4_firstFault 22 = .ok (.invokevirtual 46, 3) := by decide +kernel
theorem dX4_firstFault_25 : decode cX4_firstFault 25 = .ok (.ifCond .eq 14, 3) := by decide +kernel
theorem dX4_firstFault_28 : decode cX4_firstFault 28 = .ok (.aload_n 0, 1) := by decide +kernel
theorem dX4_firstFault_29 : decode cX4_firstFault 29 = .ok (.invokevirtual 42, 3) := by decide +kernel
theorem dX4_firstFault_32 : decode cX4_firstFault 32 = .ok (.istore_n 1, 1) := by decide +kernel
theorem dX4_firstFault_33 : decode cX4_firstFault 33 = .ok (.iinc 2 1, 3) := by decide +kernel
theorem dX4_firstFault_36 : decode cX4_firstFault 36 = .ok (.goto (-25), 3) := by decide +kernel
theorem dX4_firstFault_39 : decode cX4_firstFault 39 = .ok (.aload_n 0, 1) := by decide +kernel
theorem dX4_firstFault_40 : decode cX4_firstFault 40 = .ok (.getfield 32, 3) := by decide +kernel
theorem dX4_firstFault_43 : decode cX4_firstFault 43 = .ok (.ireturn, 1) := by decide +kernel
theorem dX4_readOrder_0 : decode cX4_readOrder 0 = .ok (.aload_n 0, 1) := by decide +kernel
theorem dX4_readOrder_1 : decode cX4_readOrder 1 = .ok (.aload_n 0, 1) := by decide +kernel
theorem dX4_readOrder_2 : decode cX4_readOrder 2 = .ok (.invokevirtual 35, 3) := by decide +kernel
theorem dX4_readOrder_5 : decode cX4_readOrder 5 = .ok (.putfield 49, 3) := by decide +kernel
theorem dX4_readOrder_8 : decode cX4_readOrder 8 = .ok (.aload_n 0, 1) := by decide +kernel
theorem dX4_readOrder_9 : decode cX4_readOrder 9 = .ok (.getfield 49, 3) := by decide +kernel
theorem dX4_readOrder_12 : decode cX4_readOrder 12 = .ok (.invokestatic 52, 3) := by decide +kernel
theorem dX4_readOrder_15 : decode cX4_readOrder 15 = .ok (.istore_n 1, 1) := by decide +kernel
theorem dX4_readOrder_16 : decode cX4_readOrder 16 = .ok (.iload_n 1, 1) := by decide +kernel
theorem dX4_readOrder_17 : decode cX4_readOrder 17 = .ok (.iconst (-1), 1) := by decide +kernel
theorem dX4_readOrder_18 : decode cX4_readOrder 18 = .ok (.if_icmp .ne 12, 3) := by decide +kernel
theorem dX4_readOrder_21 : decode cX4_readOrder 21 = .ok (.aload_n 0, 1) := by decide +kernel
theorem dX4_readOrder_22 : decode cX4_readOrder 22 = .ok (.aload_n 0, 1) := by decide +kernel
theorem dX4_readOrder_23 : decode cX4_readOrder 23 = .ok (.getfield 29, 3) := by decide +kernel
theorem dX4_readOrder_26 : decode cX4_readOrder 26 = .ok (.invokevirtual 56, 3) := by decide +kernel
theorem dX4_readOrder_29 : decode cX4_readOrder 29 = .ok (.ireturn, 1) := by decide +kernel
theorem dX4_readOrder_30 : decode cX4_readOrder 30 = .ok (.aload_n 0, 1) := by decide +kernel
theorem dX4_readOrder_31 : decode cX4_readOrder 31 = .ok (.dup, 1) := by decide +kernel
theorem dX4_readOrder_32 : decode cX4_readOrder 32 = .ok (.getfield 29, 3) := by decide +kernel
theorem dX4_readOrder_35 : decode cX4_readOrder 35 = .ok (.iconst 1, 1) := by decide +kernel
theorem dX4_readOrder_36 : decode cX4_readOrder 36 = .ok (.iadd, 1) := by decide +kernel
theorem dX4_readOrder_37 : decode cX4_readOrder 37 = .ok (.putfield 29, 3) := by decide +kernel
theorem dX4_readOrder_40 : decode cX4_readOrder 40 = .ok (.aload_n 0, 1) := by decide +kernel
theorem dX4_readOrder_41 : decode cX4_readOrder 41 = .ok (.getfield 49, 3) := by decide +kernel
theorem dX4_readOrder_44 : decode cX4_readOrder 44 = .ok (.bipush 107, 2) := by decide +kernel
theorem dX4_readOrder_46 : decode cX4_readOrder 46 = .ok (.if_icmp .ne 10, 3) := by decide +kernel
theorem dX4_readOrder_49 : decode cX4_readOrder 49 = .ok (.aload_n 0, 1) := by decide +kernel
theorem dX4_readOrder_50 : decode cX4_readOrder 50 = .ok (.invokevirtual 60, 3) := by decide +kernel
theorem dX4_readOrder_53 : decode cX4_readOrder 53 = .ok (.goto 8, 3) := by decide +kernel
theorem dX4_readOrder_56 : decode cX4_readOrder 56 = .ok (.aload_n 0, 1) := by decide +kernel
theorem dX4_readOrder_57 : decode cX4_readOrder 57 = .ok (.iload_n 1, 1) := by decide +kernel
theorem dX4_readOrder_58 : decode cX4_readOrder 58 = .ok (.invokevirtual 63, 3) := by decide +kernel
theorem dX4_readOrder_61 : decode cX4_readOrder 61 = .ok (.istore_n 2, 1) := by decide +kernel
theorem dX4_readOrder_62 : decode cX4_readOrder 62 = .ok (.iload_n 2, 1) := by decide +kernel
theorem dX4_readOrder_63 : decode cX4_readOrder 63 = .ok (.ifCond .ne 5, 3) := by decide +kernel
theorem dX4_readOrder_66 : decode cX4_readOrder 66 = .ok (.iconst 0, 1) := by decide +kernel
theorem dX4_readOrder_67 : decode cX4_readOrder 67 = .ok (.ireturn, 1) := by decide +kernel
theorem dX4_readOrder_68 : decode cX4_readOrder 68 = .ok (.aload_n 0, 1) := by decide +kernel
theorem dX4_readOrder_69 : decode cX4_readOrder 69 = .ok (.invokevirtual 35, 3) := by decide +kernel
theorem dX4_readOrder_72 : decode cX4_readOrder 72 = .ok (.bipush 59, 2) := by decide +kernel
theorem dX4_readOrder_74 : decode cX4_readOrder 74 = .ok (.if_icmp .eq 12, 3) := by decide +kernel
theorem dX4_readOrder_77 : decode cX4_readOrder 77 = .ok (.aload_n 0, 1) := by decide +kernel
theorem dX4_readOrder_78 : decode cX4_readOrder 78 = .ok (.aload_n 0, 1) := by decide +kernel
theorem dX4_readOrder_79 : decode cX4_readOrder 79 = .ok (.getfield 29, 3) := by decide +kernel
theorem dX4_readOrder_82 : decode cX4_readOrder 82 = .ok (.invokevirtual 56, 3) := by decide +kernel
theorem dX4_readOrder_85 : decode cX4_readOrder 85 = .ok (.ireturn, 1) := by decide +kernel
theorem dX4_readOrder_86 : decode cX4_readOrder 86 = .ok (.aload_n 0, 1) := by decide +kernel
theorem dX4_readOrder_87 : decode cX4_readOrder 87 = .ok (.dup, 1) := by decide +kernel
theorem dX4_readOrder_88 : decode cX4_readOrder 88 = .ok (.getfield 29, 3) := by decide +kernel
theorem dX4_readOrder_91 : decode cX4_readOrder 91 = .ok (.iconst 1, 1) := by decide +kernel
theorem dX4_readOrder_92 : decode cX4_readOrder 92 = .ok (.iadd, 1) := by decide +kernel
theorem dX4_readOrder_93 : decode cX4_readOrder 93 = .ok (.putfield 29, 3) := by decide +kernel
theorem dX4_readOrder_96 : decode cX4_readOrder 96 = .ok (.iconst 1, 1) := by decide +kernel
theorem dX4_readOrder_97 : decode cX4_readOrder 97 = .ok (.ireturn, 1) := by decide +kernel
theorem dX4_numbersBehind_0 : decode cX4_numbersBehind 0 = .ok (.iload_n 0, 1) := by decide +kernel
theorem dX4_numbersBehind_1 : decode cX4_numbersBehind 1 = .ok (.tableswitch 103 100 119 #[99, 103, 103, 97, 103, 103, 103, 95, 103, 103, 103, 103, 97, 103, 103, 103, 103, 101, 103, 101], 95) := by decide +kernel
theorem dX4_numbersBehind_96 : decode cX4_numbersBehind 96 = .ok (.iconst 0, 1) := by decide +kernel
theorem dX4_numbersBehind_97 : decode cX4_numbersBehind 97 = .ok (.ireturn, 1) := by decide +kernel
theorem dX4_numbersBehind_98 : decode cX4_numbersBehind 98 = .ok (.iconst 1, 1) := by decide +kernel
theorem dX4_numbersBehind_99 : decode cX4_numbersBehind 99 = .ok (.ireturn, 1) := by decide +kernel
theorem dX4_numbersBehind_100 : decode cX4_numbersBehind 100 = .ok (.iconst 2, 1) := by decide +kernel
theorem dX4_numbersBehind_101 : decode cX4_numbersBehind 101 = .ok (.ireturn, 1) := by decide +kernel
theorem dX4_numbersBehind_102 : decode cX4_numbersBehind 102 = .ok (.iconst 3, 1) := by decide +kernel
theorem dX4_numbersBehind_103 : decode cX4_numbersBehind 103 = .ok (.ireturn, 1) := by decide +kernel
theorem dX4_numbersBehind_104 : decode cX4_numbersBehind 104 = .ok (.iconst (-1), 1) := by decide +kernel
theorem dX4_numbersBehind_105 : decode cX4_numbersBehind 105 = .ok (.ireturn, 1) := by decide +kernel
theorem dX4_readNumbers_0 : decode cX4_readNumbers 0 = .ok (.iconst 0, 1) := by decide +kernel
theorem dX4_readNumbers_1 : decode cX4_readNumbers 1 = .ok (.istore_n 2, 1) := by decide +kernel
theorem dX4_readNumbers_2 : decode cX4_readNumbers 2 = .ok (.iload_n 2, 1) := by decide +kernel
theorem dX4_readNumbers_3 : decode cX4_readNumbers 3 = .ok (.iload_n 1, 1) := by decide +kernel
theorem dX4_readNumbers_4 : decode cX4_readNumbers 4 = .ok (.if_icmp .ge 31, 3) := by decide +kernel
theorem dX4_readNumbers_7 : decode cX4_readNumbers 7 = .ok (.aload_n 0, 1) := by decide +kernel
theorem dX4_readNumbers_8 : decode cX4_readNumbers 8 = .ok (.getfield 15, 3) := by decide +kernel
theorem dX4_readNumbers_11 : decode cX4_readNumbers 11 = .ok (.iload_n 2, 1) := by decide +kernel
theorem dX4_readNumbers_12 : decode cX4_readNumbers 12 = .ok (.aload_n 0, 1) := by decide +kernel
theorem dX4_readNumbers_13 : decode cX4_readNumbers 13 = .ok (.invokevirtual 66, 3) := by decide +kernel
theorem dX4_readNumbers_16 : decode cX4_readNumbers 16 = .ok (.iastore, 1) := by decide +kernel
theorem dX4_readNumbers_17 : decode cX4_readNumbers 17 = .ok (.aload_n 0, 1) := by decide +kernel
theorem dX4_readNumbers_18 : decode cX4_readNumbers 18 = .ok (.getfield 15, 3) := by decide +kernel
theorem dX4_readNumbers_21 : decode cX4_readNumbers 21 = .ok (.iload_n 2, 1) := by decide +kernel
theorem dX4_readNumbers_22 : decode cX4_readNumbers 22 = .ok (.iaload, 1) := by decide +kernel
theorem dX4_readNumbers_23 : decode cX4_readNumbers 23 = .ok (.iconst (-1), 1) := by decide +kernel
theorem dX4_readNumbers_24 : decode cX4_readNumbers 24 = .ok (.if_icmp .ne 5, 3) := by decide +kernel
theorem dX4_readNumbers_27 : decode cX4_readNumbers 27 = .ok (.iconst 0, 1) := by decide +kernel
theorem dX4_readNumbers_28 : decode cX4_readNumbers 28 = .ok (.ireturn, 1) := by decide +kernel
theorem dX4_readNumbers_29 : decode cX4_readNumbers 29 = .ok (.iinc 2 1, 3) := by decide +kernel
theorem dX4_readNumbers_32 : decode cX4_readNumbers 32 = .ok (.goto (-30), 3) := by decide +kernel
theorem dX4_readNumbers_35 : decode cX4_readNumbers 35 = .ok (.iconst 1, 1) := by decide +kernel
theorem dX4_readNumbers_36 : decode cX4_readNumbers 36 = .ok (.ireturn, 1) := by decide +kernel
theorem dX4_readCycles_0 : decode cX4_readCycles 0 = .ok (.iconst 0, 1) := by decide +kernel
theorem dX4_readCycles_1 : decode cX4_readCycles 1 = .ok (.istore_n 1, 1) := by decide +kernel
theorem dX4_readCycles_2 : decode cX4_readCycles 2 = .ok (.iload_n 1, 1) := by decide +kernel
theorem dX4_readCycles_3 : decode cX4_readCycles 3 = .ok (.bipush 12, 2) := by decide +kernel
theorem dX4_readCycles_5 : decode cX4_readCycles 5 = .ok (.if_icmp .ge 16, 3) := by decide +kernel
theorem dX4_readCycles_8 : decode cX4_readCycles 8 = .ok (.aload_n 0, 1) := by decide +kernel
theorem dX4_readCycles_9 : decode cX4_readCycles 9 = .ok (.getfield 18, 3) := by decide +kernel
theorem dX4_readCycles_12 : decode cX4_readCycles 12 = .ok (.iload_n 1, 1) := by decide +kernel
theorem dX4_readCycles_13 : decode cX4_readCycles 13 = .ok (.iload_n 1, 1) := by decide +kernel
theorem dX4_readCycles_14 : decode cX4_readCycles 14 = .ok (.iastore, 1) := by decide +kernel
theorem dX4_readCycles_15 : decode cX4_readCycles 15 = .ok (.iinc 1 1, 3) := by decide +kernel
theorem dX4_readCycles_18 : decode cX4_readCycles 18 = .ok (.goto (-16), 3) := by decide +kernel
theorem dX4_readCycles_21 : decode cX4_readCycles 21 = .ok (.aload_n 0, 1) := by decide +kernel
theorem dX4_readCycles_22 : decode cX4_readCycles 22 = .ok (.iconst 0, 1) := by decide +kernel
theorem dX4_readCycles_23 : decode cX4_readCycles 23 = .ok (.putfield 69, 3) := by decide +kernel
theorem dX4_readCycles_26 : decode cX4_readCycles 26 = .ok (.iconst 1, 1) := by decide +kernel
theorem dX4_readCycles_27 : decode cX4_readCycles 27 = .ok (.istore_n 1, 1) := by decide +kernel
theorem dX4_readCycles_28 : decode cX4_readCycles 28 = .ok (.iconst 0, 1) := by decide +kernel
theorem dX4_readCycles_29 : decode cX4_readCycles 29 = .ok (.istore_n 2, 1) := by decide +kernel
theorem dX4_readCycles_30 : decode cX4_readCycles 30 = .ok (.iload_n 2, 1) := by decide +kernel
theorem dX4_readCycles_31 : decode cX4_readCycles 31 = .ok (.bipush 12, 2) := by decide +kernel
theorem dX4_readCycles_33 : decode cX4_readCycles 33 = .ok (.if_icmp .ge 37, 3) := by decide +kernel
theorem dX4_readCycles_36 : decode cX4_readCycles 36 = .ok (.iload_n 1, 1) := by decide +kernel
theorem dX4_readCycles_37 : decode cX4_readCycles 37 = .ok (.ifCond .eq 33, 3) := by decide +kernel
theorem dX4_readCycles_40 : decode cX4_readCycles 40 = .ok (.aload_n 0, 1) := by decide +kernel
theorem dX4_readCycles_41 : decode cX4_readCycles 41 = .ok (.invokevirtual 35, 3) := by decide +kernel
theorem dX4_readCycles_44 : decode cX4_readCycles 44 = .ok (.bipush 40, 2) := by decide +kernel
theorem dX4_readCycles_46 : decode cX4_readCycles 46 = .ok (.if_icmp .ne 24, 3) := by decide +kernel
theorem dX4_readCycles_49 : decode cX4_readCycles 49 = .ok (.aload_n 0, 1) := by decide +kernel
theorem dX4_readCycles_50 : decode cX4_readCycles 50 = .ok (.dup, 1) := by decide +kernel
theorem dX4_readCycles_51 : decode cX4_readCycles 51 = .ok (.getfield 29, 3) := by decide +kernel
theorem dX4_readCycles_54 : decode cX4_readCycles 54 = .ok (.iconst 1, 1) := by decide +kernel
theorem dX4_readCycles_55 : decode cX4_readCycles 55 = .ok (.iadd, 1) := by decide +kernel
theorem dX4_readCycles_56 : decode cX4_readCycles 56 = .ok (.putfield 29, 3) := by decide +kernel
theorem dX4_readCycles_59 : decode cX4_readCycles 59 = .ok (.aload_n 0, 1) := by decide +kernel
theorem dX4_readCycles_60 : decode cX4_readCycles 60 = .ok (.invokevirtual 72, 3) := by decide +kernel
theorem dX4_readCycles_63 : decode cX4_readCycles 63 = .ok (.istore_n 1, 1) := by decide +kernel
theorem dX4_readCycles_64 : decode cX4_readCycles 64 = .ok (.iinc 2 1, 3) := by decide +kernel
theorem dX4_readCycles_67 : decode cX4_readCycles 67 = .ok (.goto (-37), 3) := by decide +kernel
theorem dX4_readCycles_70 : decode cX4_readCycles 70 = .ok (.iload_n 1, 1) := by decide +kernel
theorem dX4_readCycles_71 : decode cX4_readCycles 71 = .ok (.ireturn, 1) := by decide +kernel
theorem dX4_readCycle_0 : decode cX4_readCycle 0 = .ok (.iconst (-1), 1) := by decide +kernel
theorem dX4_readCycle_1 : decode cX4_readCycle 1 = .ok (.istore_n 1, 1) := by decide +kernel
theorem dX4_readCycle_2 : decode cX4_readCycle 2 = .ok (.iconst (-1), 1) := by decide +kernel
theorem dX4_readCycle_3 : decode cX4_readCycle 3 = .ok (.istore_n 2, 1) := by decide +kernel
theorem dX4_readCycle_4 : decode cX4_readCycle 4 = .ok (.iconst 0, 1) := by decide +kernel
theorem dX4_readCycle_5 : decode cX4_readCycle 5 = .ok (.istore_n 3, 1) := by decide +kernel
theorem dX4_readCycle_6 : decode cX4_readCycle 6 = .ok (.iload_n 3, 1) := by decide +kernel
theorem dX4_readCycle_7 : decode cX4_readCycle 7 = .ok (.bipush 12, 2) := by decide +kernel
theorem dX4_readCycle_9 : decode cX4_readCycle 9 = .ok (.if_icmp .gt 88, 3) := by decide +kernel
theorem dX4_readCycle_12 : decode cX4_readCycle 12 = .ok (.aload_n 0, 1) := by decide +kernel
theorem dX4_readCycle_13 : decode cX4_readCycle 13 = .ok (.invokevirtual 35, 3) := by decide +kernel
theorem dX4_readCycle_16 : decode cX4_readCycle 16 = .ok (.bipush 41, 2) := by decide +kernel
theorem dX4_readCycle_18 : decode cX4_readCycle 18 = .ok (.if_icmp .ne 27, 3) := by decide +kernel
theorem dX4_readCycle_21 : decode cX4_readCycle 21 = .ok (.iload_n 3, 1) := by decide +kernel
theorem dX4_readCycle_22 : decode cX4_readCycle 22 = .ok (.iconst 2, 1) := by decide +kernel
theorem dX4_readCycle_23 : decode cX4_readCycle 23 = .ok (.if_icmp .lt 22, 3) := by decide +kernel
theorem dX4_readCycle_26 : decode cX4_readCycle 26 = .ok (.aload_n 0, 1) := by decide +kernel
theorem dX4_readCycle_27 : decode cX4_readCycle 27 = .ok (.dup, 1) := by decide +kernel
theorem dX4_readCycle_28 : decode cX4_readCycle 28 = .ok (.getfield 29, 3) := by decide +kernel
theorem dX4_readCycle_31 : decode cX4_readCycle 31 = .ok (.iconst 1, 1) := by decide +kernel
theorem dX4_readCycle_32 : decode cX4_readCycle 32 = .ok (.iadd, 1) := by decide +kernel
theorem dX4_readCycle_33 : decode cX4_readCycle 33 = .ok (.putfield 29, 3) := by decide +kernel
theorem dX4_readCycle_36 : decode cX4_readCycle 36 = .ok (.aload_n 0, 1) := by decide +kernel
theorem dX4_readCycle_37 : decode cX4_readCycle 37 = .ok (.getfield 18, 3) := by decide +kernel
theorem dX4_readCycle_40 : decode cX4_readCycle 40 = .ok (.iload_n 2, 1) := by decide +kernel
theorem dX4_readCycle_41 : decode cX4_readCycle 41 = .ok (.iload_n 1, 1) := by decide +kernel
theorem dX4_readCycle_42 : decode cX4_readCycle 42 = .ok (.iastore, 1) := by decide +kernel
theorem dX4_readCycle_43 : decode cX4_readCycle 43 = .ok (.iconst 1, 1) := by decide +kernel
theorem dX4_readCycle_44 : decode cX4_readCycle 44 = .ok (.ireturn, 1) := by decide +kernel
theorem dX4_readCycle_45 : decode cX4_readCycle 45 = .ok (.aload_n 0, 1) := by decide +kernel
theorem dX4_readCycle_46 : decode cX4_readCycle 46 = .ok (.getfield 29, 3) := by decide +kernel
theorem dX4_readCycle_49 : decode cX4_readCycle 49 = .ok (.istore 4, 2) := by decide +kernel
theorem dX4_readCycle_51 : decode cX4_readCycle 51 = .ok (.aload_n 0, 1) := by decide +kernel
theorem dX4_readCycle_52 : decode cX4_readCycle 52 = .ok (.invokevirtual 66, 3) := by decide +kernel
theorem dX4_readCycle_55 : decode cX4_readCycle 55 = .ok (.istore 5, 2) := by decide +kernel
theorem dX4_readCycle_57 : decode cX4_readCycle 57 = .ok (.aload_n 0, 1) := by decide +kernel
theorem dX4_readCycle_58 : decode cX4_readCycle 58 = .ok (.iload 5, 2) := by decide +kernel
theorem dX4_readCycle_60 : decode cX4_readCycle 60 = .ok (.iload 4, 2) := by decide +kernel
theorem dX4_readCycle_62 : decode cX4_readCycle 62 = .ok (.invokevirtual 75, 3) := by decide +kernel
theorem dX4_readCycle_65 : decode cX4_readCycle 65 = .ok (.ifCond .ne 5, 3) := by decide +kernel
theorem dX4_readCycle_68 : decode cX4_readCycle 68 = .ok (.iconst 0, 1) := by decide +kernel
theorem dX4_readCycle_69 : decode cX4_readCycle 69 = .ok (.ireturn, 1) := by decide +kernel
theorem dX4_readCycle_70 : decode cX4_readCycle 70 = .ok (.iload_n 3, 1) := by decide +kernel
theorem dX4_readCycle_71 : decode cX4_readCycle 71 = .ok (.ifCond .ne 9, 3) := by decide +kernel
theorem dX4_readCycle_74 : decode cX4_readCycle 74 = .ok (.iload 5, 2) := by decide +kernel
theorem dX4_readCycle_76 : decode cX4_readCycle 76 = .ok (.istore_n 1, 1) := by decide +kernel
theorem dX4_readCycle_77 : decode cX4_readCycle 77 = .ok (.goto 11, 3) := by decide +kernel
theorem dX4_readCycle_80 : decode cX4_readCycle 80 = .ok (.aload_n 0, 1) := by decide +kernel
theorem dX4_readCycle_81 : decode cX4_readCycle 81 = .ok (.getfield 18, 3) := by decide +kernel
theorem dX4_readCycle_84 : decode cX4_readCycle 84 = .ok (.iload_n 2, 1) := by decide +kernel
theorem dX4_readCycle_85 : decode cX4_readCycle 85 = .ok (.iload 5, 2) := by decide +kernel
theorem dX4_readCycle_87 : decode cX4_readCycle 87 = .ok (.iastore, 1) := by decide +kernel
theorem dX4_readCycle_88 : decode cX4_readCycle 88 = .ok (.iload 5, 2) := by decide +kernel
theorem dX4_readCycle_90 : decode cX4_readCycle 90 = .ok (.istore_n 2, 1) := by decide +kernel
theorem dX4_readCycle_91 : decode cX4_readCycle 91 = .ok (.iinc 3 1, 3) := by decide +kernel
theorem dX4_readCycle_94 : decode cX4_readCycle 94 = .ok (.goto (-88), 3) := by decide +kernel
theorem dX4_readCycle_97 : decode cX4_readCycle 97 = .ok (.iconst 0, 1) := by decide +kernel
theorem dX4_readCycle_98 : decode cX4_readCycle 98 = .ok (.ireturn, 1) := by decide +kernel
theorem dX4_takesSpot_0 : decode cX4_takesSpot 0 = .ok (.iload_n 1, 1) := by decide +kernel
theorem dX4_takesSpot_1 : decode cX4_takesSpot 1 = .ok (.iconst (-1), 1) := by decide +kernel
theorem dX4_takesSpot_2 : decode cX4_takesSpot 2 = .ok (.if_icmp .ne 5, 3) := by decide +kernel
theorem dX4_takesSpot_5 : decode cX4_takesSpot 5 = .ok (.iconst 0, 1) := by decide +kernel
theorem dX4_takesSpot_6 : decode cX4_takesSpot 6 = .ok (.ireturn, 1) := by decide +kernel
theorem dX4_takesSpot_7 : decode cX4_takesSpot 7 = .ok (.iload_n 1, 1) := by decide +kernel
theorem dX4_takesSpot_8 : decode cX4_takesSpot 8 = .ok (.bipush 12, 2) := by decide +kernel
theorem dX4_takesSpot_10 : decode cX4_takesSpot 10 = .ok (.if_icmp .ge 14, 3) := by decide +kernel
theorem dX4_takesSpot_13 : decode cX4_takesSpot 13 = .ok (.aload_n 0, 1) := by decide +kernel
theorem dX4_takesSpot_14 : decode cX4_takesSpot 14 = .ok (.getfield 69, 3) := by decide +kernel
theorem dX4_takesSpot_17 : decode cX4_takesSpot 17 = .ok (.iload_n 1, 1) := by decide +kernel
theorem dX4_takesSpot_18 : decode cX4_takesSpot 18 = .ok (.ishr, 1) := by decide +kernel
theorem dX4_takesSpot_19 : decode cX4_takesSpot 19 = .ok (.iconst 1, 1) := by decide +kernel
theorem dX4_takesSpot_20 : decode cX4_takesSpot 20 = .ok (.iand, 1) := by decide +kernel
theorem dX4_takesSpot_21 : decode cX4_takesSpot 21 = .ok (.ifCond .eq 9, 3) := by decide +kernel
theorem dX4_takesSpot_24 : decode cX4_takesSpot 24 = .ok (.aload_n 0, 1) := by decide +kernel
theorem dX4_takesSpot_25 : decode cX4_takesSpot 25 = .ok (.iload_n 2, 1) := by decide +kernel
theorem dX4_takesSpot_26 : decode cX4_takesSpot 26 = .ok (.invokevirtual 56, 3) := by decide +kernel
theorem dX4_takesSpot_29 : decode cX4_takesSpot 29 = .ok (.ireturn, 1) := by decide +kernel
theorem dX4_takesSpot_30 : decode cX4_takesSpot 30 = .ok (.aload_n 0, 1) := by decide +kernel
theorem dX4_takesSpot_31 : decode cX4_takesSpot 31 = .ok (.dup, 1) := by decide +kernel
theorem dX4_takesSpot_32 : decode cX4_takesSpot 32 = .ok (.getfield 69, 3) := by decide +kernel
theorem dX4_takesSpot_35 : decode cX4_takesSpot 35 = .ok (.iconst 1, 1) := by decide +kernel
theorem dX4_takesSpot_36 : decode cX4_takesSpot 36 = .ok (.iload_n 1, 1) := by decide +kernel
theorem dX4_takesSpot_37 : decode cX4_takesSpot 37 = .ok (.ishl, 1) := by decide +kernel
theorem dX4_takesSpot_38 : decode cX4_takesSpot 38 = .ok (.ior, 1) := by decide +kernel
theorem dX4_takesSpot_39 : decode cX4_takesSpot 39 = .ok (.putfield 69, 3) := by decide +kernel
theorem dX4_takesSpot_42 : decode cX4_takesSpot 42 = .ok (.iconst 1, 1) := by decide +kernel
theorem dX4_takesSpot_43 : decode cX4_takesSpot 43 = .ok (.ireturn, 1) := by decide +kernel
theorem dX4_readNumber_0 : decode cX4_readNumber 0 = .ok (.aload_n 0, 1) := by decide +kernel
theorem dX4_readNumber_1 : decode cX4_readNumber 1 = .ok (.invokevirtual 78, 3) := by decide +kernel
theorem dX4_readNumber_4 : decode cX4_readNumber 4 = .ok (.iconst 0, 1) := by decide +kernel
theorem dX4_readNumber_5 : decode cX4_readNumber 5 = .ok (.istore_n 1, 1) := by decide +kernel
theorem dX4_readNumber_6 : decode cX4_readNumber 6 = .ok (.iconst 0, 1) := by decide +kernel
theorem dX4_readNumber_7 : decode cX4_readNumber 7 = .ok (.istore_n 2, 1) := by decide +kernel
theorem dX4_readNumber_8 : decode cX4_readNumber 8 = .ok (.iload_n 2, 1) := by decide +kernel
theorem dX4_readNumber_9 : decode cX4_readNumber 9 = .ok (.iconst 2, 1) := by decide +kernel
theorem dX4_readNumber_10 : decode cX4_readNumber 10 = .ok (.if_icmp .ge 44, 3) := by decide +kernel
theorem dX4_readNumber_13 : decode cX4_readNumber 13 = .ok (.aload_n 0, 1) := by decide +kernel
theorem dX4_readNumber_14 : decode cX4_readNumber 14 = .ok (.invokevirtual 81, 3) := by decide +kernel
theorem dX4_readNumber_17 : decode cX4_readNumber 17 = .ok (.ifCond .eq 37, 3) := by decide +kernel
theorem dX4_readNumber_20 : decode cX4_readNumber 20 = .ok (.iload_n 1, 1) := by decide +kernel
theorem dX4_readNumber_21 : decode cX4_readNumber 21 = .ok (.bipush 10, 2) := by decide +kernel
theorem dX4_readNumber_23 : decode cX4_readNumber 23 = .ok (.imul, 1) := by decide +kernel
theorem dX4_readNumber_24 : decode cX4_readNumber 24 = .ok (.aload_n 0, 1) := by decide +kernel
theorem dX4_readNumber_25 : decode cX4_readNumber 25 = .ok (.getfield 9, 3) := by decide +kernel
theorem dX4_readNumber_28 : decode cX4_readNumber 28 = .ok (.aload_n 0, 1) := by decide +kernel
theorem dX4_readNumber_29 : decode cX4_readNumber 29 = .ok (.getfield 29, 3) := by decide +kernel
theorem dX4_readNumber_32 : decode cX4_readNumber 32 = .ok (.iaload, 1) := by decide +kernel
theorem dX4_readNumber_33 : decode cX4_readNumber 33 = .ok (.iadd, 1) := by decide +kernel
theorem dX4_readNumber_34 : decode cX4_readNumber 34 = .ok (.bipush 48, 2) := by decide +kernel
theorem dX4_readNumber_36 : decode cX4_readNumber 36 = .ok (.isub, 1) := by decide +kernel
theorem dX4_readNumber_37 : decode cX4_readNumber 37 = .ok (.istore_n 1, 1) := by decide +kernel
theorem dX4_readNumber_38 : decode cX4_readNumber 38 = .ok (.aload_n 0, 1) := by decide +kernel
theorem dX4_readNumber_39 : decode cX4_readNumber 39 = .ok (.dup, 1) := by decide +kernel
theorem dX4_readNumber_40 : decode cX4_readNumber 40 = .ok (.getfield 29, 3) := by decide +kernel
theorem dX4_readNumber_43 : decode cX4_readNumber 43 = .ok (.iconst 1, 1) := by decide +kernel
theorem dX4_readNumber_44 : decode cX4_readNumber 44 = .ok (.iadd, 1) := by decide +kernel
theorem dX4_readNumber_45 : decode cX4_readNumber 45 = .ok (.putfield 29, 3) := by decide +kernel
theorem dX4_readNumber_48 : decode cX4_readNumber 48 = .ok (.iinc 2 1, 3) := by decide +kernel
theorem dX4_readNumber_51 : decode cX4_readNumber 51 = .ok (.goto (-43), 3) := by decide +kernel
theorem dX4_readNumber_54 : decode cX4_readNumber 54 = .ok (.iload_n 2, 1) := by decide +kernel
theorem dX4_readNumber_55 : decode cX4_readNumber 55 = .ok (.ifCond .eq 10, 3) := by decide +kernel
theorem dX4_readNumber_58 : decode cX4_readNumber 58 = .ok (.aload_n 0, 1) := by decide +kernel
theorem dX4_readNumber_59 : decode cX4_readNumber 59 = .ok (.invokevirtual 81, 3) := by decide +kernel
theorem dX4_readNumber_62 : decode cX4_readNumber 62 = .ok (.ifCond .eq 14, 3) := by decide +kernel
theorem dX4_readNumber_65 : decode cX4_readNumber 65 = .ok (.aload_n 0, 1) := by decide +kernel
theorem dX4_readNumber_66 : decode cX4_readNumber 66 = .ok (.aload_n 0, 1) := by decide +kernel
theorem dX4_readNumber_67 : decode cX4_readNumber 67 = .ok (.getfield 29, 3) := by decide +kernel
theorem dX4_readNumber_70 : decode cX4_readNumber 70 = .ok (.invokevirtual 56, 3) := by decide +kernel
theorem dX4_readNumber_73 : decode cX4_readNumber 73 = .ok (.pop, 1) := by decide +kernel
theorem dX4_readNumber_74 : decode cX4_readNumber 74 = .ok (.iconst (-1), 1) := by decide +kernel
theorem dX4_readNumber_75 : decode cX4_readNumber 75 = .ok (.ireturn, 1) := by decide +kernel
theorem dX4_readNumber_76 : decode cX4_readNumber 76 = .ok (.iload_n 1, 1) := by decide +kernel
theorem dX4_readNumber_77 : decode cX4_readNumber 77 = .ok (.ireturn, 1) := by decide +kernel
theorem dX4_isFigure_0 : decode cX4_isFigure 0 = .ok (.aload_n 0, 1) := by decide +kernel
theorem dX4_isFigure_1 : decode cX4_isFigure 1 = .ok (.getfield 29, 3) := by decide +kernel
theorem dX4_isFigure_4 : decode cX4_isFigure 4 = .ok (.aload_n 0, 1) := by decide +kernel
theorem dX4_isFigure_5 : decode cX4_isFigure 5 = .ok (.getfield 25, 3) := by decide +kernel
theorem dX4_isFigure_8 : decode cX4_isFigure 8 = .ok (.if_icmp .ge 35, 3) := by decide +kernel
theorem dX4_isFigure_11 : decode cX4_isFigure 11 = .ok (.aload_n 0, 1) := by decide +kernel
theorem dX4_isFigure_12 : decode cX4_isFigure 12 = .ok (.getfield 9, 3) := by decide +kernel
theorem dX4_isFigure_15 : decode cX4_isFigure 15 = .ok (.aload_n 0, 1) := by decide +kernel
theorem dX4_isFigure_16 : decode cX4_isFigure 16 = .ok (.getfield 29, 3) := by decide +kernel
theorem dX4_isFigure_19 : decode cX4_isFigure 19 = .ok (.iaload, 1) := by decide +kernel
theorem dX4_isFigure_20 : decode cX4_isFigure 20 = .ok (.bipush 48, 2) := by decide +kernel
theorem dX4_isFigure_22 : decode cX4_isFigure 22 = .ok (.if_icmp .lt 21, 3) := by decide +kernel
theorem dX4_isFigure_25 : decode cX4_isFigure 25 = .ok (.aload_n 0, 1) := by decide +kernel
theorem dX4_isFigure_26 : decode cX4_isFigure 26 = .ok (.getfield 9, 3) := by decide +kernel
theorem dX4_isFigure_29 : decode cX4_isFigure 29 = .ok (.aload_n 0, 1) := by decide +kernel
theorem dX4_isFigure_30 : decode cX4_isFigure 30 = .ok (.getfield 29, 3) := by decide +kernel
theorem dX4_isFigure_33 : decode cX4_isFigure 33 = .ok (.iaload, 1) := by decide +kernel
theorem dX4_isFigure_34 : decode cX4_isFigure 34 = .ok (.bipush 57, 2) := by decide +kernel
theorem dX4_isFigure_36 : decode cX4_isFigure 36 = .ok (.if_icmp .gt 7, 3) := by decide +kernel
theorem dX4_isFigure_39 : decode cX4_isFigure 39 = .ok (.iconst 1, 1) := by decide +kernel
theorem dX4_isFigure_40 : decode cX4_isFigure 40 = .ok (.goto 4, 3) := by decide +kernel
theorem dX4_isFigure_43 : decode cX4_isFigure 43 = .ok (.iconst 0, 1) := by decide +kernel
theorem dX4_isFigure_44 : decode cX4_isFigure 44 = .ok (.ireturn, 1) := by decide +kernel
theorem dX4_nextSign_0 : decode cX4_nextSign 0 = .ok (.aload_n 0, 1) := by decide +kernel
theorem dX4_nextSign_1 : decode cX4_nextSign 1 = .ok (.invokevirtual 78, 3) := by decide +kernel
theorem dX4_nextSign_4 : decode cX4_nextSign 4 = .ok (.aload_n 0, 1) := by decide +kernel
theorem dX4_nextSign_5 : decode cX4_nextSign 5 = .ok (.getfield 29, 3) := by decide +kernel
theorem dX4_nextSign_8 : decode cX4_nextSign 8 = .ok (.aload_n 0, 1) := by decide +kernel
theorem dX4_nextSign_9 : decode cX4_nextSign 9 = .ok (.getfield 25, 3) := by decide +kernel
theorem dX4_nextSign_12 : decode cX4_nextSign 12 = .ok (.if_icmp .ge 15, 3) := by decide +kernel
theorem dX4_nextSign_15 : decode cX4_nextSign 15 = .ok (.aload_n 0, 1) := by decide +kernel
theorem dX4_nextSign_16 : decode cX4_nextSign 16 = .ok (.getfield 9, 3) := by decide +kernel
theorem dX4_nextSign_19 : decode cX4_nextSign 19 = .ok (.aload_n 0, 1) := by decide +kernel
theorem dX4_nextSign_20 : decode cX4_nextSign 20 = .ok (.getfield 29, 3) := by decide +kernel
theorem dX4_nextSign_23 : decode cX4_nextSign 23 = .ok (.iaload, 1) := by decide +kernel
theorem dX4_nextSign_24 : decode cX4_nextSign 24 = .ok (.goto 4, 3) := by decide +kernel
theorem dX4_nextSign_27 : decode cX4_nextSign 27 = .ok (.iconst (-1), 1) := by decide +kernel
theorem dX4_nextSign_28 : decode cX4_nextSign 28 = .ok (.ireturn, 1) := by decide +kernel
theorem dX4_skipBlanks_0 : decode cX4_skipBlanks 0 = .ok (.aload_n 0, 1) := by decide +kernel
theorem dX4_skipBlanks_1 : decode cX4_skipBlanks 1 = .ok (.getfield 29, 3) := by decide +kernel
theorem dX4_skipBlanks_4 : decode cX4_skipBlanks 4 = .ok (.aload_n 0, 1) := by decide +kernel
theorem dX4_skipBlanks_5 : decode cX4_skipBlanks 5 = .ok (.getfield 25, 3) := by decide +kernel
theorem dX4_skipBlanks_8 : decode cX4_skipBlanks 8 = .ok (.if_icmp .ge 30, 3) := by decide +kernel
theorem dX4_skipBlanks_11 : decode cX4_skipBlanks 11 = .ok (.aload_n 0, 1) := by decide +kernel
theorem dX4_skipBlanks_12 : decode cX4_skipBlanks 12 = .ok (.getfield 9, 3) := by decide +kernel
theorem dX4_skipBlanks_15 : decode cX4_skipBlanks 15 = .ok (.aload_n 0, 1) := by decide +kernel
theorem dX4_skipBlanks_16 : decode cX4_skipBlanks 16 = .ok (.getfield 29, 3) := by decide +kernel
theorem dX4_skipBlanks_19 : decode cX4_skipBlanks 19 = .ok (.iaload, 1) := by decide +kernel
theorem dX4_skipBlanks_20 : decode cX4_skipBlanks 20 = .ok (.bipush 32, 2) := by decide +kernel
theorem dX4_skipBlanks_22 : decode cX4_skipBlanks 22 = .ok (.if_icmp .ne 16, 3) := by decide +kernel
theorem dX4_skipBlanks_25 : decode cX4_skipBlanks 25 = .ok (.aload_n 0, 1) := by decide +kernel
theorem dX4_skipBlanks_26 : decode cX4_skipBlanks 26 = .ok (.dup, 1) := by decide +kernel
theorem dX4_skipBlanks_27 : decode cX4_skipBlanks 27 = .ok (.getfield 29, 3) := by decide +kernel
theorem dX4_skipBlanks_30 : decode cX4_skipBlanks 30 = .ok (.iconst 1, 1) := by decide +kernel
theorem dX4_skipBlanks_31 : decode cX4_skipBlanks 31 = .ok (.iadd, 1) := by decide +kernel
theorem dX4_skipBlanks_32 : decode cX4_skipBlanks 32 = .ok (.putfield 29, 3) := by decide +kernel
theorem dX4_skipBlanks_35 : decode cX4_skipBlanks 35 = .ok (.goto (-35), 3) := by decide +kernel
theorem dX4_skipBlanks_38 : decode cX4_skipBlanks 38 = .ok (.return_, 1) := by decide +kernel
theorem dX4_fails_0 : decode cX4_fails 0 = .ok (.aload_n 0, 1) := by decide +kernel
theorem dX4_fails_1 : decode cX4_fails 1 = .ok (.iload_n 1, 1) := by decide +kernel
theorem dX4_fails_2 : decode cX4_fails 2 = .ok (.putfield 32, 3) := by decide +kernel
theorem dX4_fails_5 : decode cX4_fails 5 = .ok (.iconst 0, 1) := by decide +kernel
theorem dX4_fails_6 : decode cX4_fails 6 = .ok (.ireturn, 1) := by decide +kernel
theorem dX5_init_0 : decode cX5_init 0 = .ok (.aload_n 0, 1) := by decide +kernel
theorem dX5_init_1 : decode cX5_init 1 = .ok (.invokespecial 3, 3) := by decide +kernel
theorem dX5_init_4 : decode cX5_init 4 = .ok (.aload_n 0, 1) := by decide +kernel
theorem dX5_init_5 : decode cX5_init 5 = .ok (.new 9, 3) := by decide +kernel
theorem dX5_init_8 : decode cX5_init 8 = .ok (.dup, 1) := by decide +kernel
theorem dX5_init_9 : decode cX5_init 9 = .ok (.invokespecial 11, 3) := by decide +kernel
theorem dX5_init_12 : decode cX5_init 12 = .ok (.putfield 12, 3) := by decide +kernel
theorem dX5_init_15 : decode cX5_init 15 = .ok (.aload_n 0, 1) := by decide +kernel
theorem dX5_init_16 : decode cX5_init 16 = .ok (.new 16, 3) := by decide +kernel
theorem dX5_init_19 : decode cX5_init 19 = .ok (.dup, 1) := by decide +kernel
theorem dX5_init_20 : decode cX5_init 20 = .ok (.invokespecial 18, 3) := by decide +kernel
theorem dX5_init_23 : decode cX5_init 23 = .ok (.putfield 19, 3) := by decide +kernel
theorem dX5_init_26 : decode cX5_init 26 = .ok (.aload_n 0, 1) := by decide +kernel
theorem dX5_init_27 : decode cX5_init 27 = .ok (.new 23, 3) := by decide +kernel
theorem dX5_init_30 : decode cX5_init 30 = .ok (.dup, 1) := by decide +kernel
theorem dX5_init_31 : decode cX5_init 31 = .ok (.invokespecial 25, 3) := by decide +kernel
theorem dX5_init_34 : decode cX5_init 34 = .ok (.putfield 26, 3) := by decide +kernel
theorem dX5_init_37 : decode cX5_init 37 = .ok (.aload_n 0, 1) := by decide +kernel
theorem dX5_init_38 : decode cX5_init 38 = .ok (.new 30, 3) := by decide +kernel
theorem dX5_init_41 : decode cX5_init 41 = .ok (.dup, 1) := by decide +kernel
theorem dX5_init_42 : decode cX5_init 42 = .ok (.invokespecial 32, 3) := by decide +kernel
theorem dX5_init_45 : decode cX5_init 45 = .ok (.putfield 33, 3) := by decide +kernel
theorem dX5_init_48 : decode cX5_init 48 = .ok (.aload_n 0, 1) := by decide +kernel
theorem dX5_init_49 : decode cX5_init 49 = .ok (.iconst 3, 1) := by decide +kernel
theorem dX5_init_50 : decode cX5_init 50 = .ok (.newarray .int, 2) := by decide +kernel
theorem dX5_init_52 : decode cX5_init 52 = .ok (.putfield 37, 3) := by decide +kernel
theorem dX5_init_55 : decode cX5_init 55 = .ok (.return_, 1) := by decide +kernel
theorem dX5_dancer_0 : decode cX5_dancer 0 = .ok (.aload_n 0, 1) := by decide +kernel
theorem dX5_dancer_1 : decode cX5_dancer 1 = .ok (.getfield 19, 3) := by decide +kernel
theorem dX5_dancer_4 : decode cX5_dancer 4 = .ok (.aload_n 0, 1) := by decide +kernel
theorem dX5_dancer_5 : decode cX5_dancer 5 = .ok (.getfield 12, 3) := by decide +kernel
theorem dX5_dancer_8 : decode cX5_dancer 8 = .ok (.invokevirtual 41, 3) := by decide +kernel
theorem dX5_dancer_11 : decode cX5_dancer 11 = .ok (.aload_n 0, 1) := by decide +kernel
theorem dX5_dancer_12 : decode cX5_dancer 12 = .ok (.aload_n 0, 1) := by decide +kernel
theorem dX5_dancer_13 : decode cX5_dancer 13 = .ok (.getfield 12, 3) := by decide +kernel
theorem dX5_dancer_16 : decode cX5_dancer 16 = .ok (.iload_n 1, 1) := by decide +kernel
theorem dX5_dancer_17 : decode cX5_dancer 17 = .ok (.iload_n 2, 1) := by decide +kernel
theorem dX5_dancer_18 : decode cX5_dancer 18 = .ok (.invokevirtual 45, 3) := by decide +kernel
theorem dX5_dancer_21 : decode cX5_dancer 21 = .ok (.invokevirtual 49, 3) := by decide +kernel
theorem dX5_dancer_24 : decode cX5_dancer 24 = .ok (.ireturn, 1) := by decide +kernel
theorem dX5_call_0 : decode cX5_call 0 = .ok (.aload_n 0, 1) := by decide +kernel
theorem dX5_call_1 : decode cX5_call 1 = .ok (.getfield 19, 3) := by decide +kernel
theorem dX5_call_4 : decode cX5_call 4 = .ok (.aload_n 0, 1) := by decide +kernel
theorem dX5_call_5 : decode cX5_call 5 = .ok (.getfield 12, 3) := by decide +kernel
theorem dX5_call_8 : decode cX5_call 8 = .ok (.invokevirtual 41, 3) := by decide +kernel
theorem dX5_call_11 : decode cX5_call 11 = .ok (.aload_n 0, 1) := by decide +kernel
theorem dX5_call_12 : decode cX5_call 12 = .ok (.aload_n 0, 1) := by decide +kernel
theorem dX5_call_13 : decode cX5_call 13 = .ok (.getfield 12, 3) := by decide +kernel
theorem dX5_call_16 : decode cX5_call 16 = .ok (.invokevirtual 53, 3) := by decide +kernel
theorem dX5_call_19 : decode cX5_call 19 = .ok (.invokevirtual 49, 3) := by decide +kernel
theorem dX5_call_22 : decode cX5_call 22 = .ok (.ireturn, 1) := by decide +kernel
theorem dX5_exchanges_0 : decode cX5_exchanges 0 = .ok (.aload_n 0, 1) := by decide +kernel
theorem dX5_exchanges_1 : decode cX5_exchanges 1 = .ok (.getfield 19, 3) := by decide +kernel
theorem dX5_exchanges_4 : decode cX5_exchanges 4 = .ok (.aload_n 0, 1) := by decide +kernel
theorem dX5_exchanges_5 : decode cX5_exchanges 5 = .ok (.getfield 12, 3) := by decide +kernel
theorem dX5_exchanges_8 : decode cX5_exchanges 8 = .ok (.invokevirtual 41, 3) := by decide +kernel
theorem dX5_exchanges_11 : decode cX5_exchanges 11 = .ok (.aload_n 0, 1) := by decide +kernel
theorem dX5_exchanges_12 : decode cX5_exchanges 12 = .ok (.aload_n 0, 1) := by decide +kernel
theorem dX5_exchanges_13 : decode cX5_exchanges 13 = .ok (.getfield 12, 3) := by decide +kernel
theorem dX5_exchanges_16 : decode cX5_exchanges 16 = .ok (.iload_n 1, 1) := by decide +kernel
theorem dX5_exchanges_17 : decode cX5_exchanges 17 = .ok (.iload_n 2, 1) := by decide +kernel
theorem dX5_exchanges_18 : decode cX5_exchanges 18 = .ok (.iload_n 3, 1) := by decide +kernel
theorem dX5_exchanges_19 : decode cX5_exchanges 19 = .ok (.invokevirtual 57, 3) := by decide +kernel
theorem dX5_exchanges_22 : decode cX5_exchanges 22 = .ok (.invokevirtual 49, 3) := by decide +kernel
theorem dX5_exchanges_25 : decode cX5_exchanges 25 = .ok (.ireturn, 1) := by decide +kernel
theorem dX5_turns_0 : decode cX5_turns 0 = .ok (.aload_n 0, 1) := by decide +kernel
theorem dX5_turns_1 : decode cX5_turns 1 = .ok (.getfield 19, 3) := by decide +kernel
theorem dX5_turns_4 : decode cX5_turns 4 = .ok (.aload_n 0, 1) := by decide +kernel
theorem dX5_turns_5 : decode cX5_turns 5 = .ok (.getfield 12, 3) := by decide +kernel
theorem dX5_turns_8 : decode cX5_turns 8 = .ok (.invokevirtual 41, 3) := by decide +kernel
theorem dX5_turns_11 : decode cX5_turns 11 = .ok (.aload_n 0, 1) := by decide +kernel
theorem dX5_turns_12 : decode cX5_turns 12 = .ok (.aload_n 0, 1) := by decide +kernel
theorem dX5_turns_13 : decode cX5_turns 13 = .ok (.getfield 12, 3) := by decide +kernel
theorem dX5_turns_16 : decode cX5_turns 16 = .ok (.iload_n 1, 1) := by decide +kernel
theorem dX5_turns_17 : decode cX5_turns 17 = .ok (.iload_n 2, 1) := by decide +kernel
theorem dX5_turns_18 : decode cX5_turns 18 = .ok (.iload_n 3, 1) := by decide +kernel
theorem dX5_turns_19 : decode cX5_turns 19 = .ok (.invokevirtual 61, 3) := by decide +kernel
theorem dX5_turns_22 : decode cX5_turns 22 = .ok (.invokevirtual 49, 3) := by decide +kernel
theorem dX5_turns_25 : decode cX5_turns 25 = .ok (.ireturn, 1) := by decide +kernel
theorem dX5_wants_0 : decode cX5_wants 0 = .ok (.aload_n 0, 1) := by decide +kernel
theorem dX5_wants_1 : decode cX5_wants 1 = .ok (.getfield 19, 3) := by decide +kernel
theorem dX5_wants_4 : decode cX5_wants 4 = .ok (.aload_n 0, 1) := by decide +kernel
theorem dX5_wants_5 : decode cX5_wants 5 = .ok (.getfield 12, 3) := by decide +kernel
theorem dX5_wants_8 : decode cX5_wants 8 = .ok (.invokevirtual 41, 3) := by decide +kernel
theorem dX5_wants_11 : decode cX5_wants 11 = .ok (.aload_n 0, 1) := by decide +kernel
theorem dX5_wants_12 : decode cX5_wants 12 = .ok (.aload_n 0, 1) := by decide +kernel
theorem dX5_wants_13 : decode cX5_wants 13 = .ok (.getfield 12, 3) := by decide +kernel
theorem dX5_wants_16 : decode cX5_wants 16 = .ok (.iload_n 1, 1) := by decide +kernel
theorem dX5_wants_17 : decode cX5_wants 17 = .ok (.iload_n 2, 1) := by decide +kernel
theorem dX5_wants_18 : decode cX5_wants 18 = .ok (.iload_n 3, 1) := by decide +kernel
theorem dX5_wants_19 : decode cX5_wants 19 = .ok (.invokevirtual 64, 3) := by decide +kernel
theorem dX5_wants_22 : decode cX5_wants 22 = .ok (.invokevirtual 49, 3) := by decide +kernel
theorem dX5_wants_25 : decode cX5_wants 25 = .ok (.ireturn, 1) := by decide +kernel
theorem dX5_joins_0 : decode cX5_joins 0 = .ok (.aload_n 0, 1) := by decide +kernel
theorem dX5_joins_1 : decode cX5_joins 1 = .ok (.getfield 19, 3) := by decide +kernel
theorem dX5_joins_4 : decode cX5_joins 4 = .ok (.aload_n 0, 1) := by decide +kernel
theorem dX5_joins_5 : decode cX5_joins 5 = .ok (.getfield 12, 3) := by decide +kernel
theorem dX5_joins_8 : decode cX5_joins 8 = .ok (.invokevirtual 41, 3) := by decide +kernel
theorem dX5_joins_11 : decode cX5_joins 11 = .ok (.aload_n 0, 1) := by decide +kernel
theorem dX5_joins_12 : decode cX5_joins 12 = .ok (.aload_n 0, 1) := by decide +kernel
theorem dX5_joins_13 : decode cX5_joins 13 = .ok (.getfield 12, 3) := by decide +kernel
theorem dX5_joins_16 : decode cX5_joins 16 = .ok (.iload_n 1, 1) := by decide +kernel
theorem dX5_joins_17 : decode cX5_joins 17 = .ok (.iload_n 2, 1) := by decide +kernel
theorem dX5_joins_18 : decode cX5_joins 18 = .ok (.invokevirtual 67, 3) := by decide +kernel
theorem dX5_joins_21 : decode cX5_joins 21 = .ok (.invokevirtual 49, 3) := by decide +kernel
theorem dX5_joins_24 : decode cX5_joins 24 = .ok (.ireturn, 1) := by decide +kernel
theorem dX5_backwards_0 : decode cX5_backwards 0 = .ok (.aload_n 0, 1) := by decide +kernel
theorem dX5_backwards_1 : decode cX5_backwards 1 = .ok (.getfield 19, 3) := by decide +kernel
theorem dX5_backwards_4 : decode cX5_backwards 4 = .ok (.aload_n 0, 1) := by decide +kernel
theorem dX5_backwards_5 : decode cX5_backwards 5 = .ok (.getfield 12, 3) := by decide +kernel
theorem dX5_backwards_8 : decode cX5_backwards 8 = .ok (.invokevirtual 41, 3) := by decide +kernel
theorem dX5_backwards_11 : decode cX5_backwards 11 = .ok (.aload_n 0, 1) := by decide +kernel
theorem dX5_backwards_12 : decode cX5_backwards 12 = .ok (.aload_n 0, 1) := by decide +kernel
theorem dX5_backwards_13 : decode cX5_backwards 13 = .ok (.getfield 12, 3) := by decide +kernel
theorem dX5_backwards_16 : decode cX5_backwards 16 = .ok (.iload_n 1, 1) := by decide +kernel
theorem dX5_backwards_17 : decode cX5_backwards 17 = .ok (.invokevirtual 70, 3) := by decide +kernel
theorem dX5_backwards_20 : decode cX5_backwards 20 = .ok (.invokevirtual 49, 3) := by decide +kernel
theorem dX5_backwards_23 : decode cX5_backwards 23 = .ok (.ireturn, 1) := by decide +kernel
theorem dX5_gives_0 : decode cX5_gives 0 = .ok (.aload_n 0, 1) := by decide +kernel
theorem dX5_gives_1 : decode cX5_gives 1 = .ok (.getfield 19, 3) := by decide +kernel
theorem dX5_gives_4 : decode cX5_gives 4 = .ok (.aload_n 0, 1) := by decide +kernel
theorem dX5_gives_5 : decode cX5_gives 5 = .ok (.getfield 12, 3) := by decide +kernel
theorem dX5_gives_8 : decode cX5_gives 8 = .ok (.invokevirtual 41, 3) := by decide +kernel
theorem dX5_gives_11 : decode cX5_gives 11 = .ok (.aload_n 0, 1) := by decide +kernel
theorem dX5_gives_12 : decode cX5_gives 12 = .ok (.aload_n 0, 1) := by decide +kernel
theorem dX5_gives_13 : decode cX5_gives 13 = .ok (.getfield 12, 3) := by decide +kernel
theorem dX5_gives_16 : decode cX5_gives 16 = .ok (.iload_n 1, 1) := by decide +kernel
theorem dX5_gives_17 : decode cX5_gives 17 = .ok (.invokevirtual 73, 3) := by decide +kernel
theorem dX5_gives_20 : decode cX5_gives 20 = .ok (.invokevirtual 49, 3) := by decide +kernel
theorem dX5_gives_23 : decode cX5_gives 23 = .ok (.ireturn, 1) := by decide +kernel
theorem dX5_home_0 : decode cX5_home 0 = .ok (.aload_n 0, 1) := by decide +kernel
theorem dX5_home_1 : decode cX5_home 1 = .ok (.getfield 19, 3) := by decide +kernel
theorem dX5_home_4 : decode cX5_home 4 = .ok (.aload_n 0, 1) := by decide +kernel
theorem dX5_home_5 : decode cX5_home 5 = .ok (.getfield 12, 3) := by decide +kernel
theorem dX5_home_8 : decode cX5_home 8 = .ok (.invokevirtual 41, 3) := by decide +kernel
theorem dX5_home_11 : decode cX5_home 11 = .ok (.aload_n 0, 1) := by decide +kernel
theorem dX5_home_12 : decode cX5_home 12 = .ok (.aload_n 0, 1) := by decide +kernel
theorem dX5_home_13 : decode cX5_home 13 = .ok (.getfield 12, 3) := by decide +kernel
theorem dX5_home_16 : decode cX5_home 16 = .ok (.invokevirtual 76, 3) := by decide +kernel
theorem dX5_home_19 : decode cX5_home 19 = .ok (.invokevirtual 49, 3) := by decide +kernel
theorem dX5_home_22 : decode cX5_home 22 = .ok (.ireturn, 1) := by decide +kernel
theorem dX5_of_0 : decode cX5_of 0 = .ok (.aload_n 0, 1) := by decide +kernel
theorem dX5_of_1 : decode cX5_of 1 = .ok (.aload_n 0, 1) := by decide +kernel
theorem dX5_of_2 : decode cX5_of 2 = .ok (.getfield 12, 3) := by decide +kernel
theorem dX5_of_5 : decode cX5_of 5 = .ok (.iload_n 1, 1) := by decide +kernel
theorem dX5_of_6 : decode cX5_of 6 = .ok (.iload_n 2, 1) := by decide +kernel
theorem dX5_of_7 : decode cX5_of 7 = .ok (.invokevirtual 79, 3) := by decide +kernel
theorem dX5_of_10 : decode cX5_of 10 = .ok (.invokevirtual 82, 3) := by decide +kernel
theorem dX5_of_13 : decode cX5_of 13 = .ok (.ireturn, 1) := by decide +kernel
theorem dX5_on_0 : decode cX5_on 0 = .ok (.aload_n 0, 1) := by decide +kernel
theorem dX5_on_1 : decode cX5_on 1 = .ok (.iload_n 1, 1) := by decide +kernel
theorem dX5_on_2 : decode cX5_on 2 = .ok (.bipush 12, 2) := by decide +kernel
theorem dX5_on_4 : decode cX5_on 4 = .ok (.invokestatic 85, 3) := by decide +kernel
theorem dX5_on_7 : decode cX5_on 7 = .ok (.ifCond .eq 14, 3) := by decide +kernel
theorem dX5_on_10 : decode cX5_on 10 = .ok (.aload_n 0, 1) := by decide +kernel
theorem dX5_on_11 : decode cX5_on 11 = .ok (.getfield 12, 3) := by decide +kernel
theorem dX5_on_14 : decode cX5_on 14 = .ok (.iload_n 1, 1) := by decide +kernel
theorem dX5_on_15 : decode cX5_on 15 = .ok (.invokevirtual 89, 3) := by decide +kernel
theorem dX5_on_18 : decode cX5_on 18 = .ok (.goto 5, 3) := by decide +kernel
theorem dX5_on_21 : decode cX5_on 21 = .ok (.bipush (-2), 2) := by decide +kernel
theorem dX5_on_23 : decode cX5_on 23 = .ok (.invokevirtual 82, 3) := by decide +kernel
theorem dX5_on_26 : decode cX5_on 26 = .ok (.ireturn, 1) := by decide +kernel
theorem dX5_at_0 : decode cX5_at 0 = .ok (.aload_n 0, 1) := by decide +kernel
theorem dX5_at_1 : decode cX5_at 1 = .ok (.aload_n 0, 1) := by decide +kernel
theorem dX5_at_2 : decode cX5_at 2 = .ok (.getfield 12, 3) := by decide +kernel
theorem dX5_at_5 : decode cX5_at 5 = .ok (.iload_n 1, 1) := by decide +kernel
theorem dX5_at_6 : decode cX5_at 6 = .ok (.iload_n 2, 1) := by decide +kernel
theorem dX5_at_7 : decode cX5_at 7 = .ok (.iload_n 3, 1) := by decide +kernel
theorem dX5_at_8 : decode cX5_at 8 = .ok (.invokevirtual 92, 3) := by decide +kernel
theorem dX5_at_11 : decode cX5_at 11 = .ok (.invokevirtual 82, 3) := by decide +kernel
theorem dX5_at_14 : decode cX5_at 14 = .ok (.ireturn, 1) := by decide +kernel
theorem dX5_tells_0 : decode cX5_tells 0 = .ok (.aload_n 0, 1) := by decide +kernel
theorem dX5_tells_1 : decode cX5_tells 1 = .ok (.aload_n 0, 1) := by decide +kernel
theorem dX5_tells_2 : decode cX5_tells 2 = .ok (.getfield 12, 3) := by decide +kernel
theorem dX5_tells_5 : decode cX5_tells 5 = .ok (.iload_n 1, 1) := by decide +kernel
theorem dX5_tells_6 : decode cX5_tells 6 = .ok (.iload_n 2, 1) := by decide +kernel
theorem dX5_tells_7 : decode cX5_tells 7 = .ok (.invokevirtual 95, 3) := by decide +kernel
theorem dX5_tells_10 : decode cX5_tells 10 = .ok (.invokevirtual 82, 3) := by decide +kernel
theorem dX5_tells_13 : decode cX5_tells 13 = .ok (.ireturn, 1) := by decide +kernel
theorem dX5_finds_0 : decode cX5_finds 0 = .ok (.aload_n 0, 1) := by decide +kernel
theorem dX5_finds_1 : decode cX5_finds 1 = .ok (.iload_n 1, 1) := by decide +kernel
theorem dX5_finds_2 : decode cX5_finds 2 = .ok (.iload_n 2, 1) := by decide +kernel
theorem dX5_finds_3 : decode cX5_finds 3 = .ok (.iload_n 3, 1) := by decide +kernel
theorem dX5_finds_4 : decode cX5_finds 4 = .ok (.invokestatic 98, 3) := by decide +kernel
theorem dX5_finds_7 : decode cX5_finds 7 = .ok (.ifCond .eq 20, 3) := by decide +kernel
theorem dX5_finds_10 : decode cX5_finds 10 = .ok (.aload_n 0, 1) := by decide +kernel
theorem dX5_finds_11 : decode cX5_finds 11 = .ok (.getfield 33, 3) := by decide +kernel
theorem dX5_finds_14 : decode cX5_finds 14 = .ok (.aload_n 0, 1) := by decide +kernel
theorem dX5_finds_15 : decode cX5_finds 15 = .ok (.getfield 12, 3) := by decide +kernel
theorem dX5_finds_18 : decode cX5_finds 18 = .ok (.iload_n 1, 1) := by decide +kernel
theorem dX5_finds_19 : decode cX5_finds 19 = .ok (.iload_n 2, 1) := by decide +kernel
theorem dX5_finds_20 : decode cX5_finds 20 = .ok (.iload_n 3, 1) := by decide +kernel
theorem dX5_finds_21 : decode cX5_finds 21 = .ok (.invokevirtual 102, 3) := by decide +kernel
