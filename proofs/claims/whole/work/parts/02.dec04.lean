theorem dX6_comes_107 : decode cX6_comes 107 = .ok (.iaload, 1) := by decide +kernel
theorem dX6_comes_108 : decode cX6_comes 108 = .ok (.imul, 1) := by decide +kernel
theorem dX6_comes_109 : decode cX6_comes 109 = .ok (.iadd, 1) := by decide +kernel
theorem dX6_comes_110 : decode cX6_comes 110 = .ok (.istore 4, 2) := by decide +kernel
theorem dX6_comes_112 : decode cX6_comes 112 = .ok (.aload_n 0, 1) := by decide +kernel
theorem dX6_comes_113 : decode cX6_comes 113 = .ok (.getfield 7, 3) := by decide +kernel
theorem dX6_comes_116 : decode cX6_comes 116 = .ok (.iload 4, 2) := by decide +kernel
theorem dX6_comes_118 : decode cX6_comes 118 = .ok (.iload_n 1, 1) := by decide +kernel
theorem dX6_comes_119 : decode cX6_comes 119 = .ok (.iastore, 1) := by decide +kernel
theorem dX6_comes_120 : decode cX6_comes 120 = .ok (.aload_n 0, 1) := by decide +kernel
theorem dX6_comes_121 : decode cX6_comes 121 = .ok (.getfield 7, 3) := by decide +kernel
theorem dX6_comes_124 : decode cX6_comes 124 = .ok (.iload 4, 2) := by decide +kernel
theorem dX6_comes_126 : decode cX6_comes 126 = .ok (.iconst 1, 1) := by decide +kernel
theorem dX6_comes_127 : decode cX6_comes 127 = .ok (.iadd, 1) := by decide +kernel
theorem dX6_comes_128 : decode cX6_comes 128 = .ok (.iload_n 2, 1) := by decide +kernel
theorem dX6_comes_129 : decode cX6_comes 129 = .ok (.iastore, 1) := by decide +kernel
theorem dX6_comes_130 : decode cX6_comes 130 = .ok (.aload_n 0, 1) := by decide +kernel
theorem dX6_comes_131 : decode cX6_comes 131 = .ok (.getfield 7, 3) := by decide +kernel
theorem dX6_comes_134 : decode cX6_comes 134 = .ok (.iload 4, 2) := by decide +kernel
theorem dX6_comes_136 : decode cX6_comes 136 = .ok (.iconst 2, 1) := by decide +kernel
theorem dX6_comes_137 : decode cX6_comes 137 = .ok (.iadd, 1) := by decide +kernel
theorem dX6_comes_138 : decode cX6_comes 138 = .ok (.iload_n 1, 1) := by decide +kernel
theorem dX6_comes_139 : decode cX6_comes 139 = .ok (.iastore, 1) := by decide +kernel
theorem dX6_comes_140 : decode cX6_comes 140 = .ok (.aload_n 0, 1) := by decide +kernel
theorem dX6_comes_141 : decode cX6_comes 141 = .ok (.getfield 7, 3) := by decide +kernel
theorem dX6_comes_144 : decode cX6_comes 144 = .ok (.iload 4, 2) := by decide +kernel
theorem dX6_comes_146 : decode cX6_comes 146 = .ok (.iconst 3, 1) := by decide +kernel
theorem dX6_comes_147 : decode cX6_comes 147 = .ok (.iadd, 1) := by decide +kernel
theorem dX6_comes_148 : decode cX6_comes 148 = .ok (.iload_n 2, 1) := by decide +kernel
theorem dX6_comes_149 : decode cX6_comes 149 = .ok (.iastore, 1) := by decide +kernel
theorem dX6_comes_150 : decode cX6_comes 150 = .ok (.aload_n 0, 1) := by decide +kernel
theorem dX6_comes_151 : decode cX6_comes 151 = .ok (.getfield 7, 3) := by decide +kernel
theorem dX6_comes_154 : decode cX6_comes 154 = .ok (.iconst 0, 1) := by decide +kernel
theorem dX6_comes_155 : decode cX6_comes 155 = .ok (.dup2, 1) := by decide +kernel
theorem dX6_comes_156 : decode cX6_comes 156 = .ok (.iaload, 1) := by decide +kernel
theorem dX6_comes_157 : decode cX6_comes 157 = .ok (.iconst 1, 1) := by decide +kernel
theorem dX6_comes_158 : decode cX6_comes 158 = .ok (.iadd, 1) := by decide +kernel
theorem dX6_comes_159 : decode cX6_comes 159 = .ok (.iastore, 1) := by decide +kernel
theorem dX6_comes_160 : decode cX6_comes 160 = .ok (.aload_n 0, 1) := by decide +kernel
theorem dX6_comes_161 : decode cX6_comes 161 = .ok (.getfield 7, 3) := by decide +kernel
theorem dX6_comes_164 : decode cX6_comes 164 = .ok (.iconst 0, 1) := by decide +kernel
theorem dX6_comes_165 : decode cX6_comes 165 = .ok (.iaload, 1) := by decide +kernel
theorem dX6_comes_166 : decode cX6_comes 166 = .ok (.iconst 1, 1) := by decide +kernel
theorem dX6_comes_167 : decode cX6_comes 167 = .ok (.isub, 1) := by decide +kernel
theorem dX6_comes_168 : decode cX6_comes 168 = .ok (.ireturn, 1) := by decide +kernel
theorem dX6_adds_0 : decode cX6_adds 0 = .ok (.aload_n 0, 1) := by decide +kernel
theorem dX6_adds_1 : decode cX6_adds 1 = .ok (.getfield 7, 3) := by decide +kernel
theorem dX6_adds_4 : decode cX6_adds 4 = .ok (.iconst 1, 1) := by decide +kernel
theorem dX6_adds_5 : decode cX6_adds 5 = .ok (.iaload, 1) := by decide +kernel
theorem dX6_adds_6 : decode cX6_adds 6 = .ok (.bipush 8, 2) := by decide +kernel
theorem dX6_adds_8 : decode cX6_adds 8 = .ok (.if_icmp .ne 6, 3) := by decide +kernel
theorem dX6_adds_11 : decode cX6_adds 11 = .ok (.bipush (-4), 2) := by decide +kernel
theorem dX6_adds_13 : decode cX6_adds 13 = .ok (.ireturn, 1) := by decide +kernel
theorem dX6_adds_14 : decode cX6_adds 14 = .ok (.iconst 0, 1) := by decide +kernel
theorem dX6_adds_15 : decode cX6_adds 15 = .ok (.istore_n 1, 1) := by decide +kernel
theorem dX6_adds_16 : decode cX6_adds 16 = .ok (.iload_n 1, 1) := by decide +kernel
theorem dX6_adds_17 : decode cX6_adds 17 = .ok (.bipush 12, 2) := by decide +kernel
theorem dX6_adds_19 : decode cX6_adds 19 = .ok (.if_icmp .ge 63, 3) := by decide +kernel
theorem dX6_adds_22 : decode cX6_adds 22 = .ok (.aload_n 0, 1) := by decide +kernel
theorem dX6_adds_23 : decode cX6_adds 23 = .ok (.getfield 7, 3) := by decide +kernel
theorem dX6_adds_26 : decode cX6_adds 26 = .ok (.aload_n 0, 1) := by decide +kernel
theorem dX6_adds_27 : decode cX6_adds 27 = .ok (.aload_n 0, 1) := by decide +kernel
theorem dX6_adds_28 : decode cX6_adds 28 = .ok (.getfield 7, 3) := by decide +kernel
theorem dX6_adds_31 : decode cX6_adds 31 = .ok (.iconst 1, 1) := by decide +kernel
theorem dX6_adds_32 : decode cX6_adds 32 = .ok (.iaload, 1) := by decide +kernel
theorem dX6_adds_33 : decode cX6_adds 33 = .ok (.iload_n 1, 1) := by decide +kernel
theorem dX6_adds_34 : decode cX6_adds 34 = .ok (.iconst 0, 1) := by decide +kernel
theorem dX6_adds_35 : decode cX6_adds 35 = .ok (.invokevirtual 56, 3) := by decide +kernel
theorem dX6_adds_38 : decode cX6_adds 38 = .ok (.iload_n 1, 1) := by decide +kernel
theorem dX6_adds_39 : decode cX6_adds 39 = .ok (.iastore, 1) := by decide +kernel
theorem dX6_adds_40 : decode cX6_adds 40 = .ok (.aload_n 0, 1) := by decide +kernel
theorem dX6_adds_41 : decode cX6_adds 41 = .ok (.getfield 7, 3) := by decide +kernel
theorem dX6_adds_44 : decode cX6_adds 44 = .ok (.aload_n 0, 1) := by decide +kernel
theorem dX6_adds_45 : decode cX6_adds 45 = .ok (.aload_n 0, 1) := by decide +kernel
theorem dX6_adds_46 : decode cX6_adds 46 = .ok (.getfield 7, 3) := by decide +kernel
theorem dX6_adds_49 : decode cX6_adds 49 = .ok (.iconst 1, 1) := by decide +kernel
theorem dX6_adds_50 : decode cX6_adds 50 = .ok (.iaload, 1) := by decide +kernel
theorem dX6_adds_51 : decode cX6_adds 51 = .ok (.iload_n 1, 1) := by decide +kernel
theorem dX6_adds_52 : decode cX6_adds 52 = .ok (.iconst 1, 1) := by decide +kernel
theorem dX6_adds_53 : decode cX6_adds 53 = .ok (.invokevirtual 56, 3) := by decide +kernel
theorem dX6_adds_56 : decode cX6_adds 56 = .ok (.iconst 0, 1) := by decide +kernel
theorem dX6_adds_57 : decode cX6_adds 57 = .ok (.iastore, 1) := by decide +kernel
theorem dX6_adds_58 : decode cX6_adds 58 = .ok (.aload_n 0, 1) := by decide +kernel
theorem dX6_adds_59 : decode cX6_adds 59 = .ok (.getfield 7, 3) := by decide +kernel
theorem dX6_adds_62 : decode cX6_adds 62 = .ok (.aload_n 0, 1) := by decide +kernel
theorem dX6_adds_63 : decode cX6_adds 63 = .ok (.aload_n 0, 1) := by decide +kernel
theorem dX6_adds_64 : decode cX6_adds 64 = .ok (.getfield 7, 3) := by decide +kernel
theorem dX6_adds_67 : decode cX6_adds 67 = .ok (.iconst 1, 1) := by decide +kernel
theorem dX6_adds_68 : decode cX6_adds 68 = .ok (.iaload, 1) := by decide +kernel
theorem dX6_adds_69 : decode cX6_adds 69 = .ok (.iload_n 1, 1) := by decide +kernel
theorem dX6_adds_70 : decode cX6_adds 70 = .ok (.iconst 2, 1) := by decide +kernel
theorem dX6_adds_71 : decode cX6_adds 71 = .ok (.invokevirtual 56, 3) := by decide +kernel
theorem dX6_adds_74 : decode cX6_adds 74 = .ok (.iconst 0, 1) := by decide +kernel
theorem dX6_adds_75 : decode cX6_adds 75 = .ok (.iastore, 1) := by decide +kernel
theorem dX6_adds_76 : decode cX6_adds 76 = .ok (.iinc 1 1, 3) := by decide +kernel
theorem dX6_adds_79 : decode cX6_adds 79 = .ok (.goto (-63), 3) := by decide +kernel
theorem dX6_adds_82 : decode cX6_adds 82 = .ok (.aload_n 0, 1) := by decide +kernel
theorem dX6_adds_83 : decode cX6_adds 83 = .ok (.getfield 7, 3) := by decide +kernel
theorem dX6_adds_86 : decode cX6_adds 86 = .ok (.iconst 1, 1) := by decide +kernel
theorem dX6_adds_87 : decode cX6_adds 87 = .ok (.dup2, 1) := by decide +kernel
theorem dX6_adds_88 : decode cX6_adds 88 = .ok (.iaload, 1) := by decide +kernel
theorem dX6_adds_89 : decode cX6_adds 89 = .ok (.iconst 1, 1) := by decide +kernel
theorem dX6_adds_90 : decode cX6_adds 90 = .ok (.iadd, 1) := by decide +kernel
theorem dX6_adds_91 : decode cX6_adds 91 = .ok (.iastore, 1) := by decide +kernel
theorem dX6_adds_92 : decode cX6_adds 92 = .ok (.aload_n 0, 1) := by decide +kernel
theorem dX6_adds_93 : decode cX6_adds 93 = .ok (.getfield 7, 3) := by decide +kernel
theorem dX6_adds_96 : decode cX6_adds 96 = .ok (.iconst 1, 1) := by decide +kernel
theorem dX6_adds_97 : decode cX6_adds 97 = .ok (.iaload, 1) := by decide +kernel
theorem dX6_adds_98 : decode cX6_adds 98 = .ok (.iconst 1, 1) := by decide +kernel
theorem dX6_adds_99 : decode cX6_adds 99 = .ok (.isub, 1) := by decide +kernel
theorem dX6_adds_100 : decode cX6_adds 100 = .ok (.ireturn, 1) := by decide +kernel
theorem dX6_setsAt_0 : decode cX6_setsAt 0 = .ok (.aload_n 0, 1) := by decide +kernel
theorem dX6_setsAt_1 : decode cX6_setsAt 1 = .ok (.iload_n 1, 1) := by decide +kernel
theorem dX6_setsAt_2 : decode cX6_setsAt 2 = .ok (.invokevirtual 60, 3) := by decide +kernel
theorem dX6_setsAt_5 : decode cX6_setsAt 5 = .ok (.ifCond .eq 22, 3) := by decide +kernel
theorem dX6_setsAt_8 : decode cX6_setsAt 8 = .ok (.iload_n 2, 1) := by decide +kernel
theorem dX6_setsAt_9 : decode cX6_setsAt 9 = .ok (.invokestatic 52, 3) := by decide +kernel
theorem dX6_setsAt_12 : decode cX6_setsAt 12 = .ok (.ifCond .eq 15, 3) := by decide +kernel
theorem dX6_setsAt_15 : decode cX6_setsAt 15 = .ok (.iload 4, 2) := by decide +kernel
theorem dX6_setsAt_17 : decode cX6_setsAt 17 = .ok (.iconst 0, 1) := by decide +kernel
theorem dX6_setsAt_18 : decode cX6_setsAt 18 = .ok (.iconst 4, 1) := by decide +kernel
theorem dX6_setsAt_19 : decode cX6_setsAt 19 = .ok (.iload_n 3, 1) := by decide +kernel
theorem dX6_setsAt_20 : decode cX6_setsAt 20 = .ok (.isub, 1) := by decide +kernel
theorem dX6_setsAt_21 : decode cX6_setsAt 21 = .ok (.invokestatic 48, 3) := by decide +kernel
theorem dX6_setsAt_24 : decode cX6_setsAt 24 = .ok (.ifCond .ne 6, 3) := by decide +kernel
theorem dX6_setsAt_27 : decode cX6_setsAt 27 = .ok (.bipush (-2), 2) := by decide +kernel
theorem dX6_setsAt_29 : decode cX6_setsAt 29 = .ok (.ireturn, 1) := by decide +kernel
theorem dX6_setsAt_30 : decode cX6_setsAt 30 = .ok (.aload_n 0, 1) := by decide +kernel
theorem dX6_setsAt_31 : decode cX6_setsAt 31 = .ok (.getfield 7, 3) := by decide +kernel
theorem dX6_setsAt_34 : decode cX6_setsAt 34 = .ok (.aload_n 0, 1) := by decide +kernel
theorem dX6_setsAt_35 : decode cX6_setsAt 35 = .ok (.iload_n 1, 1) := by decide +kernel
theorem dX6_setsAt_36 : decode cX6_setsAt 36 = .ok (.iload_n 2, 1) := by decide +kernel
theorem dX6_setsAt_37 : decode cX6_setsAt 37 = .ok (.iload_n 3, 1) := by decide +kernel
theorem dX6_setsAt_38 : decode cX6_setsAt 38 = .ok (.invokevirtual 56, 3) := by decide +kernel
theorem dX6_setsAt_41 : decode cX6_setsAt 41 = .ok (.iaload, 1) := by decide +kernel
theorem dX6_setsAt_42 : decode cX6_setsAt 42 = .ok (.istore 5, 2) := by decide +kernel
theorem dX6_setsAt_44 : decode cX6_setsAt 44 = .ok (.aload_n 0, 1) := by decide +kernel
theorem dX6_setsAt_45 : decode cX6_setsAt 45 = .ok (.getfield 7, 3) := by decide +kernel
theorem dX6_setsAt_48 : decode cX6_setsAt 48 = .ok (.aload_n 0, 1) := by decide +kernel
theorem dX6_setsAt_49 : decode cX6_setsAt 49 = .ok (.iload_n 1, 1) := by decide +kernel
theorem dX6_setsAt_50 : decode cX6_setsAt 50 = .ok (.iload_n 2, 1) := by decide +kernel
theorem dX6_setsAt_51 : decode cX6_setsAt 51 = .ok (.iload_n 3, 1) := by decide +kernel
theorem dX6_setsAt_52 : decode cX6_setsAt 52 = .ok (.invokevirtual 56, 3) := by decide +kernel
theorem dX6_setsAt_55 : decode cX6_setsAt 55 = .ok (.iload 4, 2) := by decide +kernel
theorem dX6_setsAt_57 : decode cX6_setsAt 57 = .ok (.iastore, 1) := by decide +kernel
theorem dX6_setsAt_58 : decode cX6_setsAt 58 = .ok (.iload 5, 2) := by decide +kernel
theorem dX6_setsAt_60 : decode cX6_setsAt 60 = .ok (.ireturn, 1) := by decide +kernel
theorem dX6_fits_0 : decode cX6_fits 0 = .ok (.iconst 1, 1) := by decide +kernel
theorem dX6_fits_1 : decode cX6_fits 1 = .ok (.istore_n 2, 1) := by decide +kernel
theorem dX6_fits_2 : decode cX6_fits 2 = .ok (.iconst 0, 1) := by decide +kernel
theorem dX6_fits_3 : decode cX6_fits 3 = .ok (.istore_n 3, 1) := by decide +kernel
theorem dX6_fits_4 : decode cX6_fits 4 = .ok (.iload_n 3, 1) := by decide +kernel
theorem dX6_fits_5 : decode cX6_fits 5 = .ok (.bipush 12, 2) := by decide +kernel
theorem dX6_fits_7 : decode cX6_fits 7 = .ok (.if_icmp .ge 65, 3) := by decide +kernel
theorem dX6_fits_10 : decode cX6_fits 10 = .ok (.aload_n 0, 1) := by decide +kernel
theorem dX6_fits_11 : decode cX6_fits 11 = .ok (.getfield 7, 3) := by decide +kernel
theorem dX6_fits_14 : decode cX6_fits 14 = .ok (.aload_n 0, 1) := by decide +kernel
theorem dX6_fits_15 : decode cX6_fits 15 = .ok (.iload_n 1, 1) := by decide +kernel
theorem dX6_fits_16 : decode cX6_fits 16 = .ok (.iload_n 3, 1) := by decide +kernel
theorem dX6_fits_17 : decode cX6_fits 17 = .ok (.iconst 2, 1) := by decide +kernel
theorem dX6_fits_18 : decode cX6_fits 18 = .ok (.invokevirtual 56, 3) := by decide +kernel
theorem dX6_fits_21 : decode cX6_fits 21 = .ok (.iaload, 1) := by decide +kernel
theorem dX6_fits_22 : decode cX6_fits 22 = .ok (.istore 4, 2) := by decide +kernel
theorem dX6_fits_24 : decode cX6_fits 24 = .ok (.iload_n 2, 1) := by decide +kernel
theorem dX6_fits_25 : decode cX6_fits 25 = .ok (.ifCond .eq 39, 3) := by decide +kernel
theorem dX6_fits_28 : decode cX6_fits 28 = .ok (.iload 4, 2) := by decide +kernel
theorem dX6_fits_30 : decode cX6_fits 30 = .ok (.ifCond .eq 30, 3) := by decide +kernel
theorem dX6_fits_33 : decode cX6_fits 33 = .ok (.iload 4, 2) := by decide +kernel
theorem dX6_fits_35 : decode cX6_fits 35 = .ok (.iconst 1, 1) := by decide +kernel
theorem dX6_fits_36 : decode cX6_fits 36 = .ok (.if_icmp .ne 7, 3) := by decide +kernel
theorem dX6_fits_39 : decode cX6_fits 39 = .ok (.iconst 1, 1) := by decide +kernel
theorem dX6_fits_40 : decode cX6_fits 40 = .ok (.goto 4, 3) := by decide +kernel
theorem dX6_fits_43 : decode cX6_fits 43 = .ok (.iconst 0, 1) := by decide +kernel
theorem dX6_fits_44 : decode cX6_fits 44 = .ok (.aload_n 0, 1) := by decide +kernel
theorem dX6_fits_45 : decode cX6_fits 45 = .ok (.iload_n 3, 1) := by decide +kernel
theorem dX6_fits_46 : decode cX6_fits 46 = .ok (.invokevirtual 63, 3) := by decide +kernel
theorem dX6_fits_49 : decode cX6_fits 49 = .ok (.ifCond .lt 7, 3) := by decide +kernel
theorem dX6_fits_52 : decode cX6_fits 52 = .ok (.iconst 1, 1) := by decide +kernel
theorem dX6_fits_53 : decode cX6_fits 53 = .ok (.goto 4, 3) := by decide +kernel
theorem dX6_fits_56 : decode cX6_fits 56 = .ok (.iconst 0, 1) := by decide +kernel
theorem dX6_fits_57 : decode cX6_fits 57 = .ok (.if_icmp .ne 7, 3) := by decide +kernel
theorem dX6_fits_60 : decode cX6_fits 60 = .ok (.iconst 1, 1) := by decide +kernel
theorem dX6_fits_61 : decode cX6_fits 61 = .ok (.goto 4, 3) := by decide +kernel
theorem dX6_fits_64 : decode cX6_fits 64 = .ok (.iconst 0, 1) := by decide +kernel
theorem dX6_fits_65 : decode cX6_fits 65 = .ok (.istore_n 2, 1) := by decide +kernel
theorem dX6_fits_66 : decode cX6_fits 66 = .ok (.iinc 3 1, 3) := by decide +kernel
theorem dX6_fits_69 : decode cX6_fits 69 = .ok (.goto (-65), 3) := by decide +kernel
theorem dX6_fits_72 : decode cX6_fits 72 = .ok (.iload_n 2, 1) := by decide +kernel
theorem dX6_fits_73 : decode cX6_fits 73 = .ok (.ireturn, 1) := by decide +kernel
theorem dX6_moves_0 : decode cX6_moves 0 = .ok (.iconst 0, 1) := by decide +kernel
theorem dX6_moves_1 : decode cX6_moves 1 = .ok (.istore_n 2, 1) := by decide +kernel
theorem dX6_moves_2 : decode cX6_moves 2 = .ok (.iconst 0, 1) := by decide +kernel
theorem dX6_moves_3 : decode cX6_moves 3 = .ok (.istore_n 3, 1) := by decide +kernel
theorem dX6_moves_4 : decode cX6_moves 4 = .ok (.iload_n 3, 1) := by decide +kernel
theorem dX6_moves_5 : decode cX6_moves 5 = .ok (.aload_n 0, 1) := by decide +kernel
theorem dX6_moves_6 : decode cX6_moves 6 = .ok (.getfield 7, 3) := by decide +kernel
theorem dX6_moves_9 : decode cX6_moves 9 = .ok (.iconst 0, 1) := by decide +kernel
theorem dX6_moves_10 : decode cX6_moves 10 = .ok (.iaload, 1) := by decide +kernel
theorem dX6_moves_11 : decode cX6_moves 11 = .ok (.if_icmp .ge 122, 3) := by decide +kernel
theorem dX6_moves_14 : decode cX6_moves 14 = .ok (.aload_n 0, 1) := by decide +kernel
theorem dX6_moves_15 : decode cX6_moves 15 = .ok (.getfield 7, 3) := by decide +kernel
theorem dX6_moves_18 : decode cX6_moves 18 = .ok (.iconst 4, 1) := by decide +kernel
theorem dX6_moves_19 : decode cX6_moves 19 = .ok (.iconst 4, 1) := by decide +kernel
theorem dX6_moves_20 : decode cX6_moves 20 = .ok (.iload_n 3, 1) := by decide +kernel
theorem dX6_moves_21 : decode cX6_moves 21 = .ok (.imul, 1) := by decide +kernel
theorem dX6_moves_22 : decode cX6_moves 22 = .ok (.iadd, 1) := by decide +kernel
theorem dX6_moves_23 : decode cX6_moves 23 = .ok (.iaload, 1) := by decide +kernel
theorem dX6_moves_24 : decode cX6_moves 24 = .ok (.istore 4, 2) := by decide +kernel
theorem dX6_moves_26 : decode cX6_moves 26 = .ok (.aload_n 0, 1) := by decide +kernel
theorem dX6_moves_27 : decode cX6_moves 27 = .ok (.getfield 7, 3) := by decide +kernel
theorem dX6_moves_30 : decode cX6_moves 30 = .ok (.iconst 5, 1) := by decide +kernel
theorem dX6_moves_31 : decode cX6_moves 31 = .ok (.iconst 4, 1) := by decide +kernel
theorem dX6_moves_32 : decode cX6_moves 32 = .ok (.iload_n 3, 1) := by decide +kernel
theorem dX6_moves_33 : decode cX6_moves 33 = .ok (.imul, 1) := by decide +kernel
theorem dX6_moves_34 : decode cX6_moves 34 = .ok (.iadd, 1) := by decide +kernel
theorem dX6_moves_35 : decode cX6_moves 35 = .ok (.iaload, 1) := by decide +kernel
theorem dX6_moves_36 : decode cX6_moves 36 = .ok (.istore 5, 2) := by decide +kernel
theorem dX6_moves_38 : decode cX6_moves 38 = .ok (.aload_n 0, 1) := by decide +kernel
theorem dX6_moves_39 : decode cX6_moves 39 = .ok (.getfield 7, 3) := by decide +kernel
theorem dX6_moves_42 : decode cX6_moves 42 = .ok (.iconst 4, 1) := by decide +kernel
theorem dX6_moves_43 : decode cX6_moves 43 = .ok (.iconst 4, 1) := by decide +kernel
theorem dX6_moves_44 : decode cX6_moves 44 = .ok (.iload_n 3, 1) := by decide +kernel
theorem dX6_moves_45 : decode cX6_moves 45 = .ok (.imul, 1) := by decide +kernel
theorem dX6_moves_46 : decode cX6_moves 46 = .ok (.iadd, 1) := by decide +kernel
theorem dX6_moves_47 : decode cX6_moves 47 = .ok (.aload_n 0, 1) := by decide +kernel
theorem dX6_moves_48 : decode cX6_moves 48 = .ok (.getfield 7, 3) := by decide +kernel
theorem dX6_moves_51 : decode cX6_moves 51 = .ok (.aload_n 0, 1) := by decide +kernel
theorem dX6_moves_52 : decode cX6_moves 52 = .ok (.iload_n 1, 1) := by decide +kernel
theorem dX6_moves_53 : decode cX6_moves 53 = .ok (.iload 4, 2) := by decide +kernel
theorem dX6_moves_55 : decode cX6_moves 55 = .ok (.iconst 0, 1) := by decide +kernel
theorem dX6_moves_56 : decode cX6_moves 56 = .ok (.invokevirtual 56, 3) := by decide +kernel
theorem dX6_moves_59 : decode cX6_moves 59 = .ok (.iaload, 1) := by decide +kernel
theorem dX6_moves_60 : decode cX6_moves 60 = .ok (.iastore, 1) := by decide +kernel
theorem dX6_moves_61 : decode cX6_moves 61 = .ok (.aload_n 0, 1) := by decide +kernel
theorem dX6_moves_62 : decode cX6_moves 62 = .ok (.getfield 7, 3) := by decide +kernel
theorem dX6_moves_65 : decode cX6_moves 65 = .ok (.iconst 5, 1) := by decide +kernel
theorem dX6_moves_66 : decode cX6_moves 66 = .ok (.iconst 4, 1) := by decide +kernel
theorem dX6_moves_67 : decode cX6_moves 67 = .ok (.iload_n 3, 1) := by decide +kernel
theorem dX6_moves_68 : decode cX6_moves 68 = .ok (.imul, 1) := by decide +kernel
theorem dX6_moves_69 : decode cX6_moves 69 = .ok (.iadd, 1) := by decide +kernel
theorem dX6_moves_70 : decode cX6_moves 70 = .ok (.iload 5, 2) := by decide +kernel
theorem dX6_moves_72 : decode cX6_moves 72 = .ok (.aload_n 0, 1) := by decide +kernel
theorem dX6_moves_73 : decode cX6_moves 73 = .ok (.getfield 7, 3) := by decide +kernel
theorem dX6_moves_76 : decode cX6_moves 76 = .ok (.aload_n 0, 1) := by decide +kernel
theorem dX6_moves_77 : decode cX6_moves 77 = .ok (.iload_n 1, 1) := by decide +kernel
theorem dX6_moves_78 : decode cX6_moves 78 = .ok (.iload 4, 2) := by decide +kernel
theorem dX6_moves_80 : decode cX6_moves 80 = .ok (.iconst 1, 1) := by decide +kernel
theorem dX6_moves_81 : decode cX6_moves 81 = .ok (.invokevirtual 56, 3) := by decide +kernel
theorem dX6_moves_84 : decode cX6_moves 84 = .ok (.iaload, 1) := by decide +kernel
theorem dX6_moves_85 : decode cX6_moves 85 = .ok (.iadd, 1) := by decide +kernel
theorem dX6_moves_86 : decode cX6_moves 86 = .ok (.iconst 4, 1) := by decide +kernel
theorem dX6_moves_87 : decode cX6_moves 87 = .ok (.irem, 1) := by decide +kernel
theorem dX6_moves_88 : decode cX6_moves 88 = .ok (.iastore, 1) := by decide +kernel
theorem dX6_moves_89 : decode cX6_moves 89 = .ok (.iload_n 2, 1) := by decide +kernel
theorem dX6_moves_90 : decode cX6_moves 90 = .ok (.aload_n 0, 1) := by decide +kernel
theorem dX6_moves_91 : decode cX6_moves 91 = .ok (.getfield 7, 3) := by decide +kernel
theorem dX6_moves_94 : decode cX6_moves 94 = .ok (.iconst 4, 1) := by decide +kernel
theorem dX6_moves_95 : decode cX6_moves 95 = .ok (.iconst 4, 1) := by decide +kernel
theorem dX6_moves_96 : decode cX6_moves 96 = .ok (.iload_n 3, 1) := by decide +kernel
theorem dX6_moves_97 : decode cX6_moves 97 = .ok (.imul, 1) := by decide +kernel
theorem dX6_moves_98 : decode cX6_moves 98 = .ok (.iadd, 1) := by decide +kernel
theorem dX6_moves_99 : decode cX6_moves 99 = .ok (.iaload, 1) := by decide +kernel
theorem dX6_moves_100 : decode cX6_moves 100 = .ok (.iload 4, 2) := by decide +kernel
theorem dX6_moves_102 : decode cX6_moves 102 = .ok (.if_icmp .ne 18, 3) := by decide +kernel
theorem dX6_moves_105 : decode cX6_moves 105 = .ok (.aload_n 0, 1) := by decide +kernel
theorem dX6_moves_106 : decode cX6_moves 106 = .ok (.getfield 7, 3) := by decide +kernel
theorem dX6_moves_109 : decode cX6_moves 109 = .ok (.iconst 5, 1) := by decide +kernel
theorem dX6_moves_110 : decode cX6_moves 110 = .ok (.iconst 4, 1) := by decide +kernel
theorem dX6_moves_111 : decode cX6_moves 111 = .ok (.iload_n 3, 1) := by decide +kernel
theorem dX6_moves_112 : decode cX6_moves 112 = .ok (.imul, 1) := by decide +kernel
theorem dX6_moves_113 : decode cX6_moves 113 = .ok (.iadd, 1) := by decide +kernel
theorem dX6_moves_114 : decode cX6_moves 114 = .ok (.iaload, 1) := by decide +kernel
theorem dX6_moves_115 : decode cX6_moves 115 = .ok (.iload 5, 2) := by decide +kernel
theorem dX6_moves_117 : decode cX6_moves 117 = .ok (.if_icmp .eq 7, 3) := by decide +kernel
theorem dX6_moves_120 : decode cX6_moves 120 = .ok (.iconst 1, 1) := by decide +kernel
theorem dX6_moves_121 : decode cX6_moves 121 = .ok (.goto 4, 3) := by decide +kernel
theorem dX6_moves_124 : decode cX6_moves 124 = .ok (.iconst 0, 1) := by decide +kernel
theorem dX6_moves_125 : decode cX6_moves 125 = .ok (.iadd, 1) := by decide +kernel
theorem dX6_moves_126 : decode cX6_moves 126 = .ok (.istore_n 2, 1) := by decide +kernel
theorem dX6_moves_127 : decode cX6_moves 127 = .ok (.iinc 3 1, 3) := by decide +kernel
theorem dX6_moves_130 : decode cX6_moves 130 = .ok (.goto (-126), 3) := by decide +kernel
theorem dX6_moves_133 : decode cX6_moves 133 = .ok (.iload_n 2, 1) := by decide +kernel
theorem dX6_moves_134 : decode cX6_moves 134 = .ok (.ireturn, 1) := by decide +kernel
theorem dX6_given_0 : decode cX6_given 0 = .ok (.aload_n 0, 1) := by decide +kernel
theorem dX6_given_1 : decode cX6_given 1 = .ok (.iload_n 1, 1) := by decide +kernel
theorem dX6_given_2 : decode cX6_given 2 = .ok (.invokevirtual 60, 3) := by decide +kernel
theorem dX6_given_5 : decode cX6_given 5 = .ok (.ifCond .ne 6, 3) := by decide +kernel
theorem dX6_given_8 : decode cX6_given 8 = .ok (.bipush (-2), 2) := by decide +kernel
theorem dX6_given_10 : decode cX6_given 10 = .ok (.ireturn, 1) := by decide +kernel
theorem dX6_given_11 : decode cX6_given 11 = .ok (.aload_n 0, 1) := by decide +kernel
theorem dX6_given_12 : decode cX6_given 12 = .ok (.iload_n 1, 1) := by decide +kernel
theorem dX6_given_13 : decode cX6_given 13 = .ok (.invokevirtual 66, 3) := by decide +kernel
theorem dX6_given_16 : decode cX6_given 16 = .ok (.ifCond .ne 6, 3) := by decide +kernel
theorem dX6_given_19 : decode cX6_given 19 = .ok (.bipush (-3), 2) := by decide +kernel
theorem dX6_given_21 : decode cX6_given 21 = .ok (.ireturn, 1) := by decide +kernel
theorem dX6_given_22 : decode cX6_given 22 = .ok (.aload_n 0, 1) := by decide +kernel
theorem dX6_given_23 : decode cX6_given 23 = .ok (.getfield 7, 3) := by decide +kernel
theorem dX6_given_26 : decode cX6_given 26 = .ok (.iconst 3, 1) := by decide +kernel
theorem dX6_given_27 : decode cX6_given 27 = .ok (.dup2, 1) := by decide +kernel
theorem dX6_given_28 : decode cX6_given 28 = .ok (.iaload, 1) := by decide +kernel
theorem dX6_given_29 : decode cX6_given 29 = .ok (.iconst 1, 1) := by decide +kernel
theorem dX6_given_30 : decode cX6_given 30 = .ok (.iadd, 1) := by decide +kernel
theorem dX6_given_31 : decode cX6_given 31 = .ok (.iastore, 1) := by decide +kernel
theorem dX6_given_32 : decode cX6_given 32 = .ok (.aload_n 0, 1) := by decide +kernel
theorem dX6_given_33 : decode cX6_given 33 = .ok (.iload_n 1, 1) := by decide +kernel
theorem dX6_given_34 : decode cX6_given 34 = .ok (.invokevirtual 69, 3) := by decide +kernel
theorem dX6_given_37 : decode cX6_given 37 = .ok (.ireturn, 1) := by decide +kernel
theorem dX6_plansOn_0 : decode cX6_plansOn 0 = .ok (.aload_n 0, 1) := by decide +kernel
theorem dX6_plansOn_1 : decode cX6_plansOn 1 = .ok (.iload_n 1, 1) := by decide +kernel
theorem dX6_plansOn_2 : decode cX6_plansOn 2 = .ok (.invokevirtual 60, 3) := by decide +kernel
theorem dX6_plansOn_5 : decode cX6_plansOn 5 = .ok (.ifCond .ne 6, 3) := by decide +kernel
theorem dX6_plansOn_8 : decode cX6_plansOn 8 = .ok (.bipush (-2), 2) := by decide +kernel
theorem dX6_plansOn_10 : decode cX6_plansOn 10 = .ok (.ireturn, 1) := by decide +kernel
theorem dX6_plansOn_11 : decode cX6_plansOn 11 = .ok (.aload_n 0, 1) := by decide +kernel
theorem dX6_plansOn_12 : decode cX6_plansOn 12 = .ok (.getfield 7, 3) := by decide +kernel
theorem dX6_plansOn_15 : decode cX6_plansOn 15 = .ok (.iconst 2, 1) := by decide +kernel
theorem dX6_plansOn_16 : decode cX6_plansOn 16 = .ok (.iaload, 1) := by decide +kernel
theorem dX6_plansOn_17 : decode cX6_plansOn 17 = .ok (.bipush 12, 2) := by decide +kernel
theorem dX6_plansOn_19 : decode cX6_plansOn 19 = .ok (.if_icmp .ne 6, 3) := by decide +kernel
theorem dX6_plansOn_22 : decode cX6_plansOn 22 = .ok (.bipush (-4), 2) := by decide +kernel
theorem dX6_plansOn_24 : decode cX6_plansOn 24 = .ok (.ireturn, 1) := by decide +kernel
theorem dX6_plansOn_25 : decode cX6_plansOn 25 = .ok (.aload_n 0, 1) := by decide +kernel
theorem dX6_plansOn_26 : decode cX6_plansOn 26 = .ok (.getfield 7, 3) := by decide +kernel
theorem dX6_plansOn_29 : decode cX6_plansOn 29 = .ok (.sipush 324, 3) := by decide +kernel
theorem dX6_plansOn_32 : decode cX6_plansOn 32 = .ok (.aload_n 0, 1) := by decide +kernel
theorem dX6_plansOn_33 : decode cX6_plansOn 33 = .ok (.getfield 7, 3) := by decide +kernel
theorem dX6_plansOn_36 : decode cX6_plansOn 36 = .ok (.iconst 2, 1) := by decide +kernel
theorem dX6_plansOn_37 : decode cX6_plansOn 37 = .ok (.iaload, 1) := by decide +kernel
theorem dX6_plansOn_38 : decode cX6_plansOn 38 = .ok (.iadd, 1) := by decide +kernel
theorem dX6_plansOn_39 : decode cX6_plansOn 39 = .ok (.iload_n 1, 1) := by decide +kernel
theorem dX6_plansOn_40 : decode cX6_plansOn 40 = .ok (.iastore, 1) := by decide +kernel
theorem dX6_plansOn_41 : decode cX6_plansOn 41 = .ok (.aload_n 0, 1) := by decide +kernel
theorem dX6_plansOn_42 : decode cX6_plansOn 42 = .ok (.getfield 7, 3) := by decide +kernel
theorem dX6_plansOn_45 : decode cX6_plansOn 45 = .ok (.iconst 2, 1) := by decide +kernel
theorem dX6_plansOn_46 : decode cX6_plansOn 46 = .ok (.dup2, 1) := by decide +kernel
theorem dX6_plansOn_47 : decode cX6_plansOn 47 = .ok (.iaload, 1) := by decide +kernel
theorem dX6_plansOn_48 : decode cX6_plansOn 48 = .ok (.iconst 1, 1) := by decide +kernel
theorem dX6_plansOn_49 : decode cX6_plansOn 49 = .ok (.iadd, 1) := by decide +kernel
theorem dX6_plansOn_50 : decode cX6_plansOn 50 = .ok (.iastore, 1) := by decide +kernel
theorem dX6_plansOn_51 : decode cX6_plansOn 51 = .ok (.aload_n 0, 1) := by decide +kernel
theorem dX6_plansOn_52 : decode cX6_plansOn 52 = .ok (.getfield 7, 3) := by decide +kernel
theorem dX6_plansOn_55 : decode cX6_plansOn 55 = .ok (.iconst 2, 1) := by decide +kernel
theorem dX6_plansOn_56 : decode cX6_plansOn 56 = .ok (.iaload, 1) := by decide +kernel
theorem dX6_plansOn_57 : decode cX6_plansOn 57 = .ok (.ireturn, 1) := by decide +kernel
theorem dX6_dancer_0 : decode cX6_dancer 0 = .ok (.aload_n 0, 1) := by decide +kernel
theorem dX6_dancer_1 : decode cX6_dancer 1 = .ok (.invokevirtual 72, 3) := by decide +kernel
theorem dX6_dancer_4 : decode cX6_dancer 4 = .ok (.aload_n 0, 1) := by decide +kernel
theorem dX6_dancer_5 : decode cX6_dancer 5 = .ok (.aload_n 0, 1) := by decide +kernel
theorem dX6_dancer_6 : decode cX6_dancer 6 = .ok (.iload_n 1, 1) := by decide +kernel
theorem dX6_dancer_7 : decode cX6_dancer 7 = .ok (.iload_n 2, 1) := by decide +kernel
theorem dX6_dancer_8 : decode cX6_dancer 8 = .ok (.invokevirtual 75, 3) := by decide +kernel
theorem dX6_dancer_11 : decode cX6_dancer 11 = .ok (.invokevirtual 79, 3) := by decide +kernel
theorem dX6_dancer_14 : decode cX6_dancer 14 = .ok (.ireturn, 1) := by decide +kernel
theorem dX6_call_0 : decode cX6_call 0 = .ok (.aload_n 0, 1) := by decide +kernel
theorem dX6_call_1 : decode cX6_call 1 = .ok (.invokevirtual 72, 3) := by decide +kernel
theorem dX6_call_4 : decode cX6_call 4 = .ok (.aload_n 0, 1) := by decide +kernel
theorem dX6_call_5 : decode cX6_call 5 = .ok (.aload_n 0, 1) := by decide +kernel
theorem dX6_call_6 : decode cX6_call 6 = .ok (.invokevirtual 82, 3) := by decide +kernel
theorem dX6_call_9 : decode cX6_call 9 = .ok (.invokevirtual 79, 3) := by decide +kernel
theorem dX6_call_12 : decode cX6_call 12 = .ok (.ireturn, 1) := by decide +kernel
theorem dX6_exchanges_0 : decode cX6_exchanges 0 = .ok (.aload_n 0, 1) := by decide +kernel
theorem dX6_exchanges_1 : decode cX6_exchanges 1 = .ok (.iload_n 1, 1) := by decide +kernel
theorem dX6_exchanges_2 : decode cX6_exchanges 2 = .ok (.invokevirtual 60, 3) := by decide +kernel
theorem dX6_exchanges_5 : decode cX6_exchanges 5 = .ok (.ifCond .eq 22, 3) := by decide +kernel
theorem dX6_exchanges_8 : decode cX6_exchanges 8 = .ok (.iload_n 2, 1) := by decide +kernel
theorem dX6_exchanges_9 : decode cX6_exchanges 9 = .ok (.invokestatic 52, 3) := by decide +kernel
theorem dX6_exchanges_12 : decode cX6_exchanges 12 = .ok (.ifCond .eq 15, 3) := by decide +kernel
theorem dX6_exchanges_15 : decode cX6_exchanges 15 = .ok (.iload_n 3, 1) := by decide +kernel
theorem dX6_exchanges_16 : decode cX6_exchanges 16 = .ok (.invokestatic 52, 3) := by decide +kernel
theorem dX6_exchanges_19 : decode cX6_exchanges 19 = .ok (.ifCond .eq 8, 3) := by decide +kernel
theorem dX6_exchanges_22 : decode cX6_exchanges 22 = .ok (.iload_n 2, 1) := by decide +kernel
theorem dX6_exchanges_23 : decode cX6_exchanges 23 = .ok (.iload_n 3, 1) := by decide +kernel
theorem dX6_exchanges_24 : decode cX6_exchanges 24 = .ok (.if_icmp .ne 10, 3) := by decide +kernel
theorem dX6_exchanges_27 : decode cX6_exchanges 27 = .ok (.aload_n 0, 1) := by decide +kernel
theorem dX6_exchanges_28 : decode cX6_exchanges 28 = .ok (.bipush (-2), 2) := by decide +kernel
theorem dX6_exchanges_30 : decode cX6_exchanges 30 = .ok (.invokevirtual 38, 3) := by decide +kernel
theorem dX6_exchanges_33 : decode cX6_exchanges 33 = .ok (.ireturn, 1) := by decide +kernel
theorem dX6_exchanges_34 : decode cX6_exchanges 34 = .ok (.aload_n 0, 1) := by decide +kernel
theorem dX6_exchanges_35 : decode cX6_exchanges 35 = .ok (.invokevirtual 45, 3) := by decide +kernel
theorem dX6_exchanges_38 : decode cX6_exchanges 38 = .ok (.aload_n 0, 1) := by decide +kernel
theorem dX6_exchanges_39 : decode cX6_exchanges 39 = .ok (.getfield 7, 3) := by decide +kernel
theorem dX6_exchanges_42 : decode cX6_exchanges 42 = .ok (.aload_n 0, 1) := by decide +kernel
theorem dX6_exchanges_43 : decode cX6_exchanges 43 = .ok (.iload_n 1, 1) := by decide +kernel
theorem dX6_exchanges_44 : decode cX6_exchanges 44 = .ok (.iload_n 2, 1) := by decide +kernel
theorem dX6_exchanges_45 : decode cX6_exchanges 45 = .ok (.iconst 0, 1) := by decide +kernel
theorem dX6_exchanges_46 : decode cX6_exchanges 46 = .ok (.invokevirtual 56, 3) := by decide +kernel
theorem dX6_exchanges_49 : decode cX6_exchanges 49 = .ok (.iaload, 1) := by decide +kernel
theorem dX6_exchanges_50 : decode cX6_exchanges 50 = .ok (.istore 4, 2) := by decide +kernel
theorem dX6_exchanges_52 : decode cX6_exchanges 52 = .ok (.aload_n 0, 1) := by decide +kernel
theorem dX6_exchanges_53 : decode cX6_exchanges 53 = .ok (.getfield 7, 3) := by decide +kernel
theorem dX6_exchanges_56 : decode cX6_exchanges 56 = .ok (.aload_n 0, 1) := by decide +kernel
theorem dX6_exchanges_57 : decode cX6_exchanges 57 = .ok (.iload_n 1, 1) := by decide +kernel
theorem dX6_exchanges_58 : decode cX6_exchanges 58 = .ok (.iload_n 2, 1) := by decide +kernel
theorem dX6_exchanges_59 : decode cX6_exchanges 59 = .ok (.iconst 0, 1) := by decide +kernel
theorem dX6_exchanges_60 : decode cX6_exchanges 60 = .ok (.invokevirtual 56, 3) := by decide +kernel
theorem dX6_exchanges_63 : decode cX6_exchanges 63 = .ok (.aload_n 0, 1) := by decide +kernel
theorem dX6_exchanges_64 : decode cX6_exchanges 64 = .ok (.getfield 7, 3) := by decide +kernel
theorem dX6_exchanges_67 : decode cX6_exchanges 67 = .ok (.aload_n 0, 1) := by decide +kernel
theorem dX6_exchanges_68 : decode cX6_exchanges 68 = .ok (.iload_n 1, 1) := by decide +kernel
theorem dX6_exchanges_69 : decode cX6_exchanges 69 = .ok (.iload_n 3, 1) := by decide +kernel
theorem dX6_exchanges_70 : decode cX6_exchanges 70 = .ok (.iconst 0, 1) := by decide +kernel
theorem dX6_exchanges_71 : decode cX6_exchanges 71 = .ok (.invokevirtual 56, 3) := by decide +kernel
theorem dX6_exchanges_74 : decode cX6_exchanges 74 = .ok (.iaload, 1) := by decide +kernel
theorem dX6_exchanges_75 : decode cX6_exchanges 75 = .ok (.iastore, 1) := by decide +kernel
theorem dX6_exchanges_76 : decode cX6_exchanges 76 = .ok (.aload_n 0, 1) := by decide +kernel
theorem dX6_exchanges_77 : decode cX6_exchanges 77 = .ok (.getfield 7, 3) := by decide +kernel
theorem dX6_exchanges_80 : decode cX6_exchanges 80 = .ok (.aload_n 0, 1) := by decide +kernel
theorem dX6_exchanges_81 : decode cX6_exchanges 81 = .ok (.iload_n 1, 1) := by decide +kernel
theorem dX6_exchanges_82 : decode cX6_exchanges 82 = .ok (.iload_n 3, 1) := by decide +kernel
theorem dX6_exchanges_83 : decode cX6_exchanges 83 = .ok (.iconst 0, 1) := by decide +kernel
theorem dX6_exchanges_84 : decode cX6_exchanges 84 = .ok (.invokevirtual 56, 3) := by decide +kernel
theorem dX6_exchanges_87 : decode cX6_exchanges 87 = .ok (.iload 4, 2) := by decide +kernel
theorem dX6_exchanges_89 : decode cX6_exchanges 89 = .ok (.iastore, 1) := by decide +kernel
theorem dX6_exchanges_90 : decode cX6_exchanges 90 = .ok (.aload_n 0, 1) := by decide +kernel
theorem dX6_exchanges_91 : decode cX6_exchanges 91 = .ok (.getfield 7, 3) := by decide +kernel
theorem dX6_exchanges_94 : decode cX6_exchanges 94 = .ok (.aload_n 0, 1) := by decide +kernel
theorem dX6_exchanges_95 : decode cX6_exchanges 95 = .ok (.iload_n 1, 1) := by decide +kernel
theorem dX6_exchanges_96 : decode cX6_exchanges 96 = .ok (.iload_n 2, 1) := by decide +kernel
theorem dX6_exchanges_97 : decode cX6_exchanges 97 = .ok (.iconst 0, 1) := by decide +kernel
theorem dX6_exchanges_98 : decode cX6_exchanges 98 = .ok (.invokevirtual 56, 3) := by decide +kernel
theorem dX6_exchanges_101 : decode cX6_exchanges 101 = .ok (.iaload, 1) := by decide +kernel
theorem dX6_exchanges_102 : decode cX6_exchanges 102 = .ok (.ireturn, 1) := by decide +kernel
theorem dX6_turns_0 : decode cX6_turns 0 = .ok (.aload_n 0, 1) := by decide +kernel
theorem dX6_turns_1 : decode cX6_turns 1 = .ok (.invokevirtual 72, 3) := by decide +kernel
theorem dX6_turns_4 : decode cX6_turns 4 = .ok (.aload_n 0, 1) := by decide +kernel
theorem dX6_turns_5 : decode cX6_turns 5 = .ok (.aload_n 0, 1) := by decide +kernel
theorem dX6_turns_6 : decode cX6_turns 6 = .ok (.iload_n 1, 1) := by decide +kernel
theorem dX6_turns_7 : decode cX6_turns 7 = .ok (.iload_n 2, 1) := by decide +kernel
theorem dX6_turns_8 : decode cX6_turns 8 = .ok (.iconst 1, 1) := by decide +kernel
theorem dX6_turns_9 : decode cX6_turns 9 = .ok (.iload_n 3, 1) := by decide +kernel
theorem dX6_turns_10 : decode cX6_turns 10 = .ok (.invokevirtual 86, 3) := by decide +kernel
theorem dX6_turns_13 : decode cX6_turns 13 = .ok (.invokevirtual 79, 3) := by decide +kernel
theorem dX6_turns_16 : decode cX6_turns 16 = .ok (.ireturn, 1) := by decide +kernel
theorem dX6_wants_0 : decode cX6_wants 0 = .ok (.aload_n 0, 1) := by decide +kernel
theorem dX6_wants_1 : decode cX6_wants 1 = .ok (.invokevirtual 72, 3) := by decide +kernel
theorem dX6_wants_4 : decode cX6_wants 4 = .ok (.aload_n 0, 1) := by decide +kernel
theorem dX6_wants_5 : decode cX6_wants 5 = .ok (.aload_n 0, 1) := by decide +kernel
theorem dX6_wants_6 : decode cX6_wants 6 = .ok (.iload_n 1, 1) := by decide +kernel
theorem dX6_wants_7 : decode cX6_wants 7 = .ok (.iload_n 2, 1) := by decide +kernel
theorem dX6_wants_8 : decode cX6_wants 8 = .ok (.iconst 2, 1) := by decide +kernel
theorem dX6_wants_9 : decode cX6_wants 9 = .ok (.iload_n 3, 1) := by decide +kernel
theorem dX6_wants_10 : decode cX6_wants 10 = .ok (.invokevirtual 86, 3) := by decide +kernel
theorem dX6_wants_13 : decode cX6_wants 13 = .ok (.invokevirtual 79, 3) := by decide +kernel
theorem dX6_wants_16 : decode cX6_wants 16 = .ok (.ireturn, 1) := by decide +kernel
theorem dX6_joins_0 : decode cX6_joins 0 = .ok (.aload_n 0, 1) := by decide +kernel
theorem dX6_joins_1 : decode cX6_joins 1 = .ok (.iload_n 1, 1) := by decide +kernel
theorem dX6_joins_2 : decode cX6_joins 2 = .ok (.invokevirtual 60, 3) := by decide +kernel
theorem dX6_joins_5 : decode cX6_joins 5 = .ok (.ifCond .eq 11, 3) := by decide +kernel
theorem dX6_joins_8 : decode cX6_joins 8 = .ok (.aload_n 0, 1) := by decide +kernel
theorem dX6_joins_9 : decode cX6_joins 9 = .ok (.iload_n 2, 1) := by decide +kernel
theorem dX6_joins_10 : decode cX6_joins 10 = .ok (.invokevirtual 60, 3) := by decide +kernel
theorem dX6_joins_13 : decode cX6_joins 13 = .ok (.ifCond .ne 10, 3) := by decide +kernel
theorem dX6_joins_16 : decode cX6_joins 16 = .ok (.aload_n 0, 1) := by decide +kernel
theorem dX6_joins_17 : decode cX6_joins 17 = .ok (.bipush (-2), 2) := by decide +kernel
theorem dX6_joins_19 : decode cX6_joins 19 = .ok (.invokevirtual 38, 3) := by decide +kernel
theorem dX6_joins_22 : decode cX6_joins 22 = .ok (.ireturn, 1) := by decide +kernel
theorem dX6_joins_23 : decode cX6_joins 23 = .ok (.iconst 0, 1) := by decide +kernel
theorem dX6_joins_24 : decode cX6_joins 24 = .ok (.istore_n 3, 1) := by decide +kernel
theorem dX6_joins_25 : decode cX6_joins 25 = .ok (.iload_n 3, 1) := by decide +kernel
theorem dX6_joins_26 : decode cX6_joins 26 = .ok (.bipush 12, 2) := by decide +kernel
theorem dX6_joins_28 : decode cX6_joins 28 = .ok (.if_icmp .ge 72, 3) := by decide +kernel
theorem dX6_joins_31 : decode cX6_joins 31 = .ok (.aload_n 0, 1) := by decide +kernel
theorem dX6_joins_32 : decode cX6_joins 32 = .ok (.getfield 7, 3) := by decide +kernel
theorem dX6_joins_35 : decode cX6_joins 35 = .ok (.aload_n 0, 1) := by decide +kernel
theorem dX6_joins_36 : decode cX6_joins 36 = .ok (.iload_n 1, 1) := by decide +kernel
theorem dX6_joins_37 : decode cX6_joins 37 = .ok (.iload_n 3, 1) := by decide +kernel
theorem dX6_joins_38 : decode cX6_joins 38 = .ok (.iconst 2, 1) := by decide +kernel
theorem dX6_joins_39 : decode cX6_joins 39 = .ok (.invokevirtual 56, 3) := by decide +kernel
theorem dX6_joins_42 : decode cX6_joins 42 = .ok (.iaload, 1) := by decide +kernel
theorem dX6_joins_43 : decode cX6_joins 43 = .ok (.istore 4, 2) := by decide +kernel
theorem dX6_joins_45 : decode cX6_joins 45 = .ok (.aload_n 0, 1) := by decide +kernel
theorem dX6_joins_46 : decode cX6_joins 46 = .ok (.getfield 7, 3) := by decide +kernel
theorem dX6_joins_49 : decode cX6_joins 49 = .ok (.aload_n 0, 1) := by decide +kernel
theorem dX6_joins_50 : decode cX6_joins 50 = .ok (.iload_n 2, 1) := by decide +kernel
theorem dX6_joins_51 : decode cX6_joins 51 = .ok (.aload_n 0, 1) := by decide +kernel
theorem dX6_joins_52 : decode cX6_joins 52 = .ok (.getfield 7, 3) := by decide +kernel
theorem dX6_joins_55 : decode cX6_joins 55 = .ok (.aload_n 0, 1) := by decide +kernel
theorem dX6_joins_56 : decode cX6_joins 56 = .ok (.iload_n 1, 1) := by decide +kernel
theorem dX6_joins_57 : decode cX6_joins 57 = .ok (.iload_n 3, 1) := by decide +kernel
theorem dX6_joins_58 : decode cX6_joins 58 = .ok (.iconst 0, 1) := by decide +kernel
theorem dX6_joins_59 : decode cX6_joins 59 = .ok (.invokevirtual 56, 3) := by decide +kernel
theorem dX6_joins_62 : decode cX6_joins 62 = .ok (.iaload, 1) := by decide +kernel
theorem dX6_joins_63 : decode cX6_joins 63 = .ok (.iconst 2, 1) := by decide +kernel
theorem dX6_joins_64 : decode cX6_joins 64 = .ok (.invokevirtual 56, 3) := by decide +kernel
theorem dX6_joins_67 : decode cX6_joins 67 = .ok (.iaload, 1) := by decide +kernel
theorem dX6_joins_68 : decode cX6_joins 68 = .ok (.istore 5, 2) := by decide +kernel
theorem dX6_joins_70 : decode cX6_joins 70 = .ok (.iload 4, 2) := by decide +kernel
theorem dX6_joins_72 : decode cX6_joins 72 = .ok (.ifCond .eq 22, 3) := by decide +kernel
theorem dX6_joins_75 : decode cX6_joins 75 = .ok (.iload 5, 2) := by decide +kernel
theorem dX6_joins_77 : decode cX6_joins 77 = .ok (.ifCond .eq 17, 3) := by decide +kernel
theorem dX6_joins_80 : decode cX6_joins 80 = .ok (.iload 4, 2) := by decide +kernel
theorem dX6_joins_82 : decode cX6_joins 82 = .ok (.iload 5, 2) := by decide +kernel
theorem dX6_joins_84 : decode cX6_joins 84 = .ok (.if_icmp .eq 10, 3) := by decide +kernel
theorem dX6_joins_87 : decode cX6_joins 87 = .ok (.aload_n 0, 1) := by decide +kernel
theorem dX6_joins_88 : decode cX6_joins 88 = .ok (.bipush (-3), 2) := by decide +kernel
theorem dX6_joins_90 : decode cX6_joins 90 = .ok (.invokevirtual 38, 3) := by decide +kernel
theorem dX6_joins_93 : decode cX6_joins 93 = .ok (.ireturn, 1) := by decide +kernel
theorem dX6_joins_94 : decode cX6_joins 94 = .ok (.iinc 3 1, 3) := by decide +kernel
theorem dX6_joins_97 : decode cX6_joins 97 = .ok (.goto (-72), 3) := by decide +kernel
theorem dX6_joins_100 : decode cX6_joins 100 = .ok (.aload_n 0, 1) := by decide +kernel
theorem dX6_joins_101 : decode cX6_joins 101 = .ok (.getfield 7, 3) := by decide +kernel
theorem dX6_joins_104 : decode cX6_joins 104 = .ok (.iconst 1, 1) := by decide +kernel
theorem dX6_joins_105 : decode cX6_joins 105 = .ok (.iaload, 1) := by decide +kernel
theorem dX6_joins_106 : decode cX6_joins 106 = .ok (.bipush 8, 2) := by decide +kernel
theorem dX6_joins_108 : decode cX6_joins 108 = .ok (.if_icmp .ne 10, 3) := by decide +kernel
theorem dX6_joins_111 : decode cX6_joins 111 = .ok (.aload_n 0, 1) := by decide +kernel
theorem dX6_joins_112 : decode cX6_joins 112 = .ok (.bipush (-4), 2) := by decide +kernel
theorem dX6_joins_114 : decode cX6_joins 114 = .ok (.invokevirtual 38, 3) := by decide +kernel
theorem dX6_joins_117 : decode cX6_joins 117 = .ok (.ireturn, 1) := by decide +kernel
theorem dX6_joins_118 : decode cX6_joins 118 = .ok (.aload_n 0, 1) := by decide +kernel
theorem dX6_joins_119 : decode cX6_joins 119 = .ok (.invokevirtual 45, 3) := by decide +kernel
theorem dX6_joins_122 : decode cX6_joins 122 = .ok (.aload_n 0, 1) := by decide +kernel
theorem dX6_joins_123 : decode cX6_joins 123 = .ok (.invokevirtual 82, 3) := by decide +kernel
theorem dX6_joins_126 : decode cX6_joins 126 = .ok (.istore_n 3, 1) := by decide +kernel
theorem dX6_joins_127 : decode cX6_joins 127 = .ok (.iconst 0, 1) := by decide +kernel
theorem dX6_joins_128 : decode cX6_joins 128 = .ok (.istore 4, 2) := by decide +kernel
theorem dX6_joins_130 : decode cX6_joins 130 = .ok (.iload 4, 2) := by decide +kernel
theorem dX6_joins_132 : decode cX6_joins 132 = .ok (.bipush 12, 2) := by decide +kernel
theorem dX6_joins_134 : decode cX6_joins 134 = .ok (.if_icmp .ge 143, 3) := by decide +kernel
theorem dX6_joins_137 : decode cX6_joins 137 = .ok (.aload_n 0, 1) := by decide +kernel
theorem dX6_joins_138 : decode cX6_joins 138 = .ok (.getfield 7, 3) := by decide +kernel
theorem dX6_joins_141 : decode cX6_joins 141 = .ok (.aload_n 0, 1) := by decide +kernel
theorem dX6_joins_142 : decode cX6_joins 142 = .ok (.iload_n 1, 1) := by decide +kernel
theorem dX6_joins_143 : decode cX6_joins 143 = .ok (.iload 4, 2) := by decide +kernel
theorem dX6_joins_145 : decode cX6_joins 145 = .ok (.iconst 0, 1) := by decide +kernel
theorem dX6_joins_146 : decode cX6_joins 146 = .ok (.invokevirtual 56, 3) := by decide +kernel
theorem dX6_joins_149 : decode cX6_joins 149 = .ok (.iaload, 1) := by decide +kernel
theorem dX6_joins_150 : decode cX6_joins 150 = .ok (.istore 5, 2) := by decide +kernel
theorem dX6_joins_152 : decode cX6_joins 152 = .ok (.aload_n 0, 1) := by decide +kernel
theorem dX6_joins_153 : decode cX6_joins 153 = .ok (.getfield 7, 3) := by decide +kernel
theorem dX6_joins_156 : decode cX6_joins 156 = .ok (.aload_n 0, 1) := by decide +kernel
theorem dX6_joins_157 : decode cX6_joins 157 = .ok (.iload_n 1, 1) := by decide +kernel
theorem dX6_joins_158 : decode cX6_joins 158 = .ok (.iload 4, 2) := by decide +kernel
theorem dX6_joins_160 : decode cX6_joins 160 = .ok (.iconst 2, 1) := by decide +kernel
theorem dX6_joins_161 : decode cX6_joins 161 = .ok (.invokevirtual 56, 3) := by decide +kernel
theorem dX6_joins_164 : decode cX6_joins 164 = .ok (.iaload, 1) := by decide +kernel
theorem dX6_joins_165 : decode cX6_joins 165 = .ok (.istore 6, 2) := by decide +kernel
theorem dX6_joins_167 : decode cX6_joins 167 = .ok (.aload_n 0, 1) := by decide +kernel
theorem dX6_joins_168 : decode cX6_joins 168 = .ok (.getfield 7, 3) := by decide +kernel
theorem dX6_joins_171 : decode cX6_joins 171 = .ok (.aload_n 0, 1) := by decide +kernel
theorem dX6_joins_172 : decode cX6_joins 172 = .ok (.iload_n 3, 1) := by decide +kernel
theorem dX6_joins_173 : decode cX6_joins 173 = .ok (.iload 4, 2) := by decide +kernel
theorem dX6_joins_175 : decode cX6_joins 175 = .ok (.iconst 0, 1) := by decide +kernel
theorem dX6_joins_176 : decode cX6_joins 176 = .ok (.invokevirtual 56, 3) := by decide +kernel
theorem dX6_joins_179 : decode cX6_joins 179 = .ok (.aload_n 0, 1) := by decide +kernel
theorem dX6_joins_180 : decode cX6_joins 180 = .ok (.getfield 7, 3) := by decide +kernel
theorem dX6_joins_183 : decode cX6_joins 183 = .ok (.aload_n 0, 1) := by decide +kernel
theorem dX6_joins_184 : decode cX6_joins 184 = .ok (.iload_n 2, 1) := by decide +kernel
theorem dX6_joins_185 : decode cX6_joins 185 = .ok (.iload 5, 2) := by decide +kernel
theorem dX6_joins_187 : decode cX6_joins 187 = .ok (.iconst 0, 1) := by decide +kernel
theorem dX6_joins_188 : decode cX6_joins 188 = .ok (.invokevirtual 56, 3) := by decide +kernel
theorem dX6_joins_191 : decode cX6_joins 191 = .ok (.iaload, 1) := by decide +kernel
theorem dX6_joins_192 : decode cX6_joins 192 = .ok (.iastore, 1) := by decide +kernel
theorem dX6_joins_193 : decode cX6_joins 193 = .ok (.aload_n 0, 1) := by decide +kernel
theorem dX6_joins_194 : decode cX6_joins 194 = .ok (.getfield 7, 3) := by decide +kernel
theorem dX6_joins_197 : decode cX6_joins 197 = .ok (.aload_n 0, 1) := by decide +kernel
theorem dX6_joins_198 : decode cX6_joins 198 = .ok (.iload_n 3, 1) := by decide +kernel
theorem dX6_joins_199 : decode cX6_joins 199 = .ok (.iload 4, 2) := by decide +kernel
theorem dX6_joins_201 : decode cX6_joins 201 = .ok (.iconst 1, 1) := by decide +kernel
theorem dX6_joins_202 : decode cX6_joins 202 = .ok (.invokevirtual 56, 3) := by decide +kernel
theorem dX6_joins_205 : decode cX6_joins 205 = .ok (.aload_n 0, 1) := by decide +kernel
theorem dX6_joins_206 : decode cX6_joins 206 = .ok (.getfield 7, 3) := by decide +kernel
theorem dX6_joins_209 : decode cX6_joins 209 = .ok (.aload_n 0, 1) := by decide +kernel
theorem dX6_joins_210 : decode cX6_joins 210 = .ok (.iload_n 1, 1) := by decide +kernel
theorem dX6_joins_211 : decode cX6_joins 211 = .ok (.iload 4, 2) := by decide +kernel
theorem dX6_joins_213 : decode cX6_joins 213 = .ok (.iconst 1, 1) := by decide +kernel
theorem dX6_joins_214 : decode cX6_joins 214 = .ok (.invokevirtual 56, 3) := by decide +kernel
theorem dX6_joins_217 : decode cX6_joins 217 = .ok (.iaload, 1) := by decide +kernel
theorem dX6_joins_218 : decode cX6_joins 218 = .ok (.aload_n 0, 1) := by decide +kernel
theorem dX6_joins_219 : decode cX6_joins 219 = .ok (.getfield 7, 3) := by decide +kernel
theorem dX6_joins_222 : decode cX6_joins 222 = .ok (.aload_n 0, 1) := by decide +kernel
theorem dX6_joins_223 : decode cX6_joins 223 = .ok (.iload_n 2, 1) := by decide +kernel
theorem dX6_joins_224 : decode cX6_joins 224 = .ok (.iload 5, 2) := by decide +kernel
theorem dX6_joins_226 : decode cX6_joins 226 = .ok (.iconst 1, 1) := by decide +kernel
theorem dX6_joins_227 : decode cX6_joins 227 = .ok (.invokevirtual 56, 3) := by decide +kernel
theorem dX6_joins_230 : decode cX6_joins 230 = .ok (.iaload, 1) := by decide +kernel
theorem dX6_joins_231 : decode cX6_joins 231 = .ok (.iadd, 1) := by decide +kernel
theorem dX6_joins_232 : decode cX6_joins 232 = .ok (.iconst 4, 1) := by decide +kernel
theorem dX6_joins_233 : decode cX6_joins 233 = .ok (.irem, 1) := by decide +kernel
theorem dX6_joins_234 : decode cX6_joins 234 = .ok (.iastore, 1) := by decide +kernel
theorem dX6_joins_235 : decode cX6_joins 235 = .ok (.aload_n 0, 1) := by decide +kernel
theorem dX6_joins_236 : decode cX6_joins 236 = .ok (.getfield 7, 3) := by decide +kernel
theorem dX6_joins_239 : decode cX6_joins 239 = .ok (.aload_n 0, 1) := by decide +kernel
theorem dX6_joins_240 : decode cX6_joins 240 = .ok (.iload_n 3, 1) := by decide +kernel
theorem dX6_joins_241 : decode cX6_joins 241 = .ok (.iload 4, 2) := by decide +kernel
theorem dX6_joins_243 : decode cX6_joins 243 = .ok (.iconst 2, 1) := by decide +kernel
theorem dX6_joins_244 : decode cX6_joins 244 = .ok (.invokevirtual 56, 3) := by decide +kernel
theorem dX6_joins_247 : decode cX6_joins 247 = .ok (.iload 6, 2) := by decide +kernel
theorem dX6_joins_249 : decode cX6_joins 249 = .ok (.ifCond .eq 8, 3) := by decide +kernel
theorem dX6_joins_252 : decode cX6_joins 252 = .ok (.iload 6, 2) := by decide +kernel
theorem dX6_joins_254 : decode cX6_joins 254 = .ok (.goto 16, 3) := by decide +kernel
theorem dX6_joins_257 : decode cX6_joins 257 = .ok (.aload_n 0, 1) := by decide +kernel
theorem dX6_joins_258 : decode cX6_joins 258 = .ok (.getfield 7, 3) := by decide +kernel
theorem dX6_joins_261 : decode cX6_joins 261 = .ok (.aload_n 0, 1) := by decide +kernel
theorem dX6_joins_262 : decode cX6_joins 262 = .ok (.iload_n 2, 1) := by decide +kernel
theorem dX6_joins_263 : decode cX6_joins 263 = .ok (.iload 5, 2) := by decide +kernel
theorem dX6_joins_265 : decode cX6_joins 265 = .ok (.iconst 2, 1) := by decide +kernel
theorem dX6_joins_266 : decode cX6_joins 266 = .ok (.invokevirtual 56, 3) := by decide +kernel
theorem dX6_joins_269 : decode cX6_joins 269 = .ok (.iaload, 1) := by decide +kernel
theorem dX6_joins_270 : decode cX6_joins 270 = .ok (.iastore, 1) := by decide +kernel
theorem dX6_joins_271 : decode cX6_joins 271 = .ok (.iinc 4 1, 3) := by decide +kernel
theorem dX6_joins_274 : decode cX6_joins 274 = .ok (.goto (-144), 3) := by decide +kernel
theorem dX6_joins_277 : decode cX6_joins 277 = .ok (.iload_n 3, 1) := by decide +kernel
theorem dX6_joins_278 : decode cX6_joins 278 = .ok (.ireturn, 1) := by decide +kernel
theorem dX6_backwards_0 : decode cX6_backwards 0 = .ok (.aload_n 0, 1) := by decide +kernel
theorem dX6_backwards_1 : decode cX6_backwards 1 = .ok (.iload_n 1, 1) := by decide +kernel
theorem dX6_backwards_2 : decode cX6_backwards 2 = .ok (.invokevirtual 60, 3) := by decide +kernel
theorem dX6_backwards_5 : decode cX6_backwards 5 = .ok (.ifCond .ne 10, 3) := by decide +kernel
theorem dX6_backwards_8 : decode cX6_backwards 8 = .ok (.aload_n 0, 1) := by decide +kernel
theorem dX6_backwards_9 : decode cX6_backwards 9 = .ok (.bipush (-2), 2) := by decide +kernel
theorem dX6_backwards_11 : decode cX6_backwards 11 = .ok (.invokevirtual 38, 3) := by decide +kernel
theorem dX6_backwards_14 : decode cX6_backwards 14 = .ok (.ireturn, 1) := by decide +kernel
theorem dX6_backwards_15 : decode cX6_backwards 15 = .ok (.aload_n 0, 1) := by decide +kernel
theorem dX6_backwards_16 : decode cX6_backwards 16 = .ok (.getfield 7, 3) := by decide +kernel
theorem dX6_backwards_19 : decode cX6_backwards 19 = .ok (.iconst 1, 1) := by decide +kernel
theorem dX6_backwards_20 : decode cX6_backwards 20 = .ok (.iaload, 1) := by decide +kernel
theorem dX6_backwards_21 : decode cX6_backwards 21 = .ok (.bipush 8, 2) := by decide +kernel
theorem dX6_backwards_23 : decode cX6_backwards 23 = .ok (.if_icmp .ne 10, 3) := by decide +kernel
theorem dX6_backwards_26 : decode cX6_backwards 26 = .ok (.aload_n 0, 1) := by decide +kernel
theorem dX6_backwards_27 : decode cX6_backwards 27 = .ok (.bipush (-4), 2) := by decide +kernel
theorem dX6_backwards_29 : decode cX6_backwards 29 = .ok (.invokevirtual 38, 3) := by decide +kernel
theorem dX6_backwards_32 : decode cX6_backwards 32 = .ok (.ireturn, 1) := by decide +kernel
theorem dX6_backwards_33 : decode cX6_backwards 33 = .ok (.aload_n 0, 1) := by decide +kernel
theorem dX6_backwards_34 : decode cX6_backwards 34 = .ok (.invokevirtual 45, 3) := by decide +kernel
theorem dX6_backwards_37 : decode cX6_backwards 37 = .ok (.aload_n 0, 1) := by decide +kernel
theorem dX6_backwards_38 : decode cX6_backwards 38 = .ok (.invokevirtual 82, 3) := by decide +kernel
theorem dX6_backwards_41 : decode cX6_backwards 41 = .ok (.istore_n 2, 1) := by decide +kernel
theorem dX6_backwards_42 : decode cX6_backwards 42 = .ok (.iconst 0, 1) := by decide +kernel
theorem dX6_backwards_43 : decode cX6_backwards 43 = .ok (.istore_n 3, 1) := by decide +kernel
theorem dX6_backwards_44 : decode cX6_backwards 44 = .ok (.iload_n 3, 1) := by decide +kernel
theorem dX6_backwards_45 : decode cX6_backwards 45 = .ok (.bipush 12, 2) := by decide +kernel
theorem dX6_backwards_47 : decode cX6_backwards 47 = .ok (.if_icmp .ge 91, 3) := by decide +kernel
theorem dX6_backwards_50 : decode cX6_backwards 50 = .ok (.aload_n 0, 1) := by decide +kernel
theorem dX6_backwards_51 : decode cX6_backwards 51 = .ok (.getfield 7, 3) := by decide +kernel
theorem dX6_backwards_54 : decode cX6_backwards 54 = .ok (.aload_n 0, 1) := by decide +kernel
theorem dX6_backwards_55 : decode cX6_backwards 55 = .ok (.iload_n 1, 1) := by decide +kernel
theorem dX6_backwards_56 : decode cX6_backwards 56 = .ok (.iload_n 3, 1) := by decide +kernel
theorem dX6_backwards_57 : decode cX6_backwards 57 = .ok (.iconst 0, 1) := by decide +kernel
theorem dX6_backwards_58 : decode cX6_backwards 58 = .ok (.invokevirtual 56, 3) := by decide +kernel
theorem dX6_backwards_61 : decode cX6_backwards 61 = .ok (.iaload, 1) := by decide +kernel
theorem dX6_backwards_62 : decode cX6_backwards 62 = .ok (.istore 4, 2) := by decide +kernel
theorem dX6_backwards_64 : decode cX6_backwards 64 = .ok (.aload_n 0, 1) := by decide +kernel
theorem dX6_backwards_65 : decode cX6_backwards 65 = .ok (.getfield 7, 3) := by decide +kernel
theorem dX6_backwards_68 : decode cX6_backwards 68 = .ok (.aload_n 0, 1) := by decide +kernel
theorem dX6_backwards_69 : decode cX6_backwards 69 = .ok (.iload_n 2, 1) := by decide +kernel
theorem dX6_backwards_70 : decode cX6_backwards 70 = .ok (.iload 4, 2) := by decide +kernel
theorem dX6_backwards_72 : decode cX6_backwards 72 = .ok (.iconst 0, 1) := by decide +kernel
theorem dX6_backwards_73 : decode cX6_backwards 73 = .ok (.invokevirtual 56, 3) := by decide +kernel
theorem dX6_backwards_76 : decode cX6_backwards 76 = .ok (.iload_n 3, 1) := by decide +kernel
theorem dX6_backwards_77 : decode cX6_backwards 77 = .ok (.iastore, 1) := by decide +kernel
theorem dX6_backwards_78 : decode cX6_backwards 78 = .ok (.aload_n 0, 1) := by decide +kernel
theorem dX6_backwards_79 : decode cX6_backwards 79 = .ok (.getfield 7, 3) := by decide +kernel
theorem dX6_backwards_82 : decode cX6_backwards 82 = .ok (.aload_n 0, 1) := by decide +kernel
theorem dX6_backwards_83 : decode cX6_backwards 83 = .ok (.iload_n 2, 1) := by decide +kernel
theorem dX6_backwards_84 : decode cX6_backwards 84 = .ok (.iload 4, 2) := by decide +kernel
theorem dX6_backwards_86 : decode cX6_backwards 86 = .ok (.iconst 1, 1) := by decide +kernel
theorem dX6_backwards_87 : decode cX6_backwards 87 = .ok (.invokevirtual 56, 3) := by decide +kernel
theorem dX6_backwards_90 : decode cX6_backwards 90 = .ok (.iconst 4, 1) := by decide +kernel
theorem dX6_backwards_91 : decode cX6_backwards 91 = .ok (.aload_n 0, 1) := by decide +kernel
theorem dX6_backwards_92 : decode cX6_backwards 92 = .ok (.getfield 7, 3) := by decide +kernel
theorem dX6_backwards_95 : decode cX6_backwards 95 = .ok (.aload_n 0, 1) := by decide +kernel
theorem dX6_backwards_96 : decode cX6_backwards 96 = .ok (.iload_n 1, 1) := by decide +kernel
theorem dX6_backwards_97 : decode cX6_backwards 97 = .ok (.iload_n 3, 1) := by decide +kernel
theorem dX6_backwards_98 : decode cX6_backwards 98 = .ok (.iconst 1, 1) := by decide +kernel
theorem dX6_backwards_99 : decode cX6_backwards 99 = .ok (.invokevirtual 56, 3) := by decide +kernel
theorem dX6_backwards_102 : decode cX6_backwards 102 = .ok (.iaload, 1) := by decide +kernel
theorem dX6_backwards_103 : decode cX6_backwards 103 = .ok (.isub, 1) := by decide +kernel
theorem dX6_backwards_104 : decode cX6_backwards 104 = .ok (.iconst 4, 1) := by decide +kernel
theorem dX6_backwards_105 : decode cX6_backwards 105 = .ok (.irem, 1) := by decide +kernel
theorem dX6_backwards_106 : decode cX6_backwards 106 = .ok (.iastore, 1) := by decide +kernel
theorem dX6_backwards_107 : decode cX6_backwards 107 = .ok (.aload_n 0, 1) := by decide +kernel
theorem dX6_backwards_108 : decode cX6_backwards 108 = .ok (.getfield 7, 3) := by decide +kernel
theorem dX6_backwards_111 : decode cX6_backwards 111 = .ok (.aload_n 0, 1) := by decide +kernel
theorem dX6_backwards_112 : decode cX6_backwards 112 = .ok (.iload_n 2, 1) := by decide +kernel
theorem dX6_backwards_113 : decode cX6_backwards 113 = .ok (.iload 4, 2) := by decide +kernel
theorem dX6_backwards_115 : decode cX6_backwards 115 = .ok (.iconst 2, 1) := by decide +kernel
theorem dX6_backwards_116 : decode cX6_backwards 116 = .ok (.invokevirtual 56, 3) := by decide +kernel
theorem dX6_backwards_119 : decode cX6_backwards 119 = .ok (.aload_n 0, 1) := by decide +kernel
theorem dX6_backwards_120 : decode cX6_backwards 120 = .ok (.getfield 7, 3) := by decide +kernel
theorem dX6_backwards_123 : decode cX6_backwards 123 = .ok (.aload_n 0, 1) := by decide +kernel
theorem dX6_backwards_124 : decode cX6_backwards 124 = .ok (.iload_n 1, 1) := by decide +kernel
theorem dX6_backwards_125 : decode cX6_backwards 125 = .ok (.iload_n 3, 1) := by decide +kernel
theorem dX6_backwards_126 : decode cX6_backwards 126 = .ok (.iconst 2, 1) := by decide +kernel
theorem dX6_backwards_127 : decode cX6_backwards 127 = .ok (.invokevirtual 56, 3) := by decide +kernel
theorem dX6_backwards_130 : decode cX6_backwards 130 = .ok (.iaload, 1) := by decide +kernel
theorem dX6_backwards_131 : decode cX6_backwards 131 = .ok (.iastore, 1) := by decide +kernel
theorem dX6_backwards_132 : decode cX6_backwards 132 = .ok (.iinc 3 1, 3) := by decide +kernel
theorem dX6_backwards_135 : decode cX6_backwards 135 = .ok (.goto (-91), 3) := by decide +kernel
theorem dX6_backwards_138 : decode cX6_backwards 138 = .ok (.iload_n 2, 1) := by decide +kernel
theorem dX6_backwards_139 : decode cX6_backwards 139 = .ok (.ireturn, 1) := by decide +kernel
theorem dX6_gives_0 : decode cX6_gives 0 = .ok (.aload_n 0, 1) := by decide +kernel
theorem dX6_gives_1 : decode cX6_gives 1 = .ok (.invokevirtual 72, 3) := by decide +kernel
theorem dX6_gives_4 : decode cX6_gives 4 = .ok (.aload_n 0, 1) := by decide +kernel
theorem dX6_gives_5 : decode cX6_gives 5 = .ok (.aload_n 0, 1) := by decide +kernel
theorem dX6_gives_6 : decode cX6_gives 6 = .ok (.iload_n 1, 1) := by decide +kernel
theorem dX6_gives_7 : decode cX6_gives 7 = .ok (.invokevirtual 90, 3) := by decide +kernel
theorem dX6_gives_10 : decode cX6_gives 10 = .ok (.invokevirtual 79, 3) := by decide +kernel
theorem dX6_gives_13 : decode cX6_gives 13 = .ok (.ireturn, 1) := by decide +kernel
theorem dX6_home_0 : decode cX6_home 0 = .ok (.aload_n 0, 1) := by decide +kernel
theorem dX6_home_1 : decode cX6_home 1 = .ok (.getfield 7, 3) := by decide +kernel
theorem dX6_home_4 : decode cX6_home 4 = .ok (.iconst 0, 1) := by decide +kernel
theorem dX6_home_5 : decode cX6_home 5 = .ok (.iaload, 1) := by decide +kernel
theorem dX6_home_6 : decode cX6_home 6 = .ok (.aload_n 0, 1) := by decide +kernel
theorem dX6_home_7 : decode cX6_home 7 = .ok (.invokevirtual 93, 3) := by decide +kernel
theorem dX6_home_10 : decode cX6_home 10 = .ok (.isub, 1) := by decide +kernel
theorem dX6_home_11 : decode cX6_home 11 = .ok (.istore_n 1, 1) := by decide +kernel
theorem dX6_home_12 : decode cX6_home 12 = .ok (.aload_n 0, 1) := by decide +kernel
theorem dX6_home_13 : decode cX6_home 13 = .ok (.invokevirtual 45, 3) := by decide +kernel
theorem dX6_home_16 : decode cX6_home 16 = .ok (.iconst 0, 1) := by decide +kernel
theorem dX6_home_17 : decode cX6_home 17 = .ok (.istore_n 2, 1) := by decide +kernel
theorem dX6_home_18 : decode cX6_home 18 = .ok (.iload_n 2, 1) := by decide +kernel
theorem dX6_home_19 : decode cX6_home 19 = .ok (.aload_n 0, 1) := by decide +kernel
theorem dX6_home_20 : decode cX6_home 20 = .ok (.getfield 7, 3) := by decide +kernel
theorem dX6_home_23 : decode cX6_home 23 = .ok (.iconst 0, 1) := by decide +kernel
theorem dX6_home_24 : decode cX6_home 24 = .ok (.iaload, 1) := by decide +kernel
theorem dX6_home_25 : decode cX6_home 25 = .ok (.if_icmp .ge 51, 3) := by decide +kernel
theorem dX6_home_28 : decode cX6_home 28 = .ok (.aload_n 0, 1) := by decide +kernel
theorem dX6_home_29 : decode cX6_home 29 = .ok (.getfield 7, 3) := by decide +kernel
theorem dX6_home_32 : decode cX6_home 32 = .ok (.iconst 4, 1) := by decide +kernel
theorem dX6_home_33 : decode cX6_home 33 = .ok (.iconst 4, 1) := by decide +kernel
theorem dX6_home_34 : decode cX6_home 34 = .ok (.iload_n 2, 1) := by decide +kernel
theorem dX6_home_35 : decode cX6_home 35 = .ok (.imul, 1) := by decide +kernel
theorem dX6_home_36 : decode cX6_home 36 = .ok (.iadd, 1) := by decide +kernel
theorem dX6_home_37 : decode cX6_home 37 = .ok (.aload_n 0, 1) := by decide +kernel
theorem dX6_home_38 : decode cX6_home 38 = .ok (.getfield 7, 3) := by decide +kernel
theorem dX6_home_41 : decode cX6_home 41 = .ok (.bipush 6, 2) := by decide +kernel
theorem dX6_home_43 : decode cX6_home 43 = .ok (.iconst 4, 1) := by decide +kernel
theorem dX6_home_44 : decode cX6_home 44 = .ok (.iload_n 2, 1) := by decide +kernel
theorem dX6_home_45 : decode cX6_home 45 = .ok (.imul, 1) := by decide +kernel
theorem dX6_home_46 : decode cX6_home 46 = .ok (.iadd, 1) := by decide +kernel
theorem dX6_home_47 : decode cX6_home 47 = .ok (.iaload, 1) := by decide +kernel
theorem dX6_home_48 : decode cX6_home 48 = .ok (.iastore, 1) := by decide +kernel
theorem dX6_home_49 : decode cX6_home 49 = .ok (.aload_n 0, 1) := by decide +kernel
theorem dX6_home_50 : decode cX6_home 50 = .ok (.getfield 7, 3) := by decide +kernel
theorem dX6_home_53 : decode cX6_home 53 = .ok (.iconst 5, 1) := by decide +kernel
theorem dX6_home_54 : decode cX6_home 54 = .ok (.iconst 4, 1) := by decide +kernel
theorem dX6_home_55 : decode cX6_home 55 = .ok (.iload_n 2, 1) := by decide +kernel
theorem dX6_home_56 : decode cX6_home 56 = .ok (.imul, 1) := by decide +kernel
theorem dX6_home_57 : decode cX6_home 57 = .ok (.iadd, 1) := by decide +kernel
theorem dX6_home_58 : decode cX6_home 58 = .ok (.aload_n 0, 1) := by decide +kernel
theorem dX6_home_59 : decode cX6_home 59 = .ok (.getfield 7, 3) := by decide +kernel
theorem dX6_home_62 : decode cX6_home 62 = .ok (.bipush 7, 2) := by decide +kernel
theorem dX6_home_64 : decode cX6_home 64 = .ok (.iconst 4, 1) := by decide +kernel
theorem dX6_home_65 : decode cX6_home 65 = .ok (.iload_n 2, 1) := by decide +kernel
theorem dX6_home_66 : decode cX6_home 66 = .ok (.imul, 1) := by decide +kernel
theorem dX6_home_67 : decode cX6_home 67 = .ok (.iadd, 1) := by decide +kernel
theorem dX6_home_68 : decode cX6_home 68 = .ok (.iaload, 1) := by decide +kernel
theorem dX6_home_69 : decode cX6_home 69 = .ok (.iastore, 1) := by decide +kernel
theorem dX6_home_70 : decode cX6_home 70 = .ok (.iinc 2 1, 3) := by decide +kernel
theorem dX6_home_73 : decode cX6_home 73 = .ok (.goto (-55), 3) := by decide +kernel
theorem dX6_home_76 : decode cX6_home 76 = .ok (.iload_n 1, 1) := by decide +kernel
theorem dX6_home_77 : decode cX6_home 77 = .ok (.ireturn, 1) := by decide +kernel
theorem dX6_plans_0 : decode cX6_plans 0 = .ok (.aload_n 0, 1) := by decide +kernel
theorem dX6_plans_1 : decode cX6_plans 1 = .ok (.invokevirtual 72, 3) := by decide +kernel
theorem dX6_plans_4 : decode cX6_plans 4 = .ok (.aload_n 0, 1) := by decide +kernel
theorem dX6_plans_5 : decode cX6_plans 5 = .ok (.aload_n 0, 1) := by decide +kernel
theorem dX6_plans_6 : decode cX6_plans 6 = .ok (.iload_n 1, 1) := by decide +kernel
theorem dX6_plans_7 : decode cX6_plans 7 = .ok (.invokevirtual 96, 3) := by decide +kernel
theorem dX6_plans_10 : decode cX6_plans 10 = .ok (.invokevirtual 79, 3) := by decide +kernel
theorem dX6_plans_13 : decode cX6_plans 13 = .ok (.ireturn, 1) := by decide +kernel
theorem dX6_scraps_0 : decode cX6_scraps 0 = .ok (.aload_n 0, 1) := by decide +kernel
theorem dX6_scraps_1 : decode cX6_scraps 1 = .ok (.getfield 7, 3) := by decide +kernel
theorem dX6_scraps_4 : decode cX6_scraps 4 = .ok (.iconst 2, 1) := by decide +kernel
theorem dX6_scraps_5 : decode cX6_scraps 5 = .ok (.iaload, 1) := by decide +kernel
theorem dX6_scraps_6 : decode cX6_scraps 6 = .ok (.istore_n 1, 1) := by decide +kernel
theorem dX6_scraps_7 : decode cX6_scraps 7 = .ok (.aload_n 0, 1) := by decide +kernel
theorem dX6_scraps_8 : decode cX6_scraps 8 = .ok (.invokevirtual 45, 3) := by decide +kernel
theorem dX6_scraps_11 : decode cX6_scraps 11 = .ok (.aload_n 0, 1) := by decide +kernel
theorem dX6_scraps_12 : decode cX6_scraps 12 = .ok (.getfield 7, 3) := by decide +kernel
theorem dX6_scraps_15 : decode cX6_scraps 15 = .ok (.iconst 2, 1) := by decide +kernel
theorem dX6_scraps_16 : decode cX6_scraps 16 = .ok (.iconst 0, 1) := by decide +kernel
theorem dX6_scraps_17 : decode cX6_scraps 17 = .ok (.iastore, 1) := by decide +kernel
theorem dX6_scraps_18 : decode cX6_scraps 18 = .ok (.iload_n 1, 1) := by decide +kernel
theorem dX6_scraps_19 : decode cX6_scraps 19 = .ok (.ireturn, 1) := by decide +kernel
theorem dX6_back_0 : decode cX6_back 0 = .ok (.aload_n 0, 1) := by decide +kernel
theorem dX6_back_1 : decode cX6_back 1 = .ok (.getfield 42, 3) := by decide +kernel
theorem dX6_back_4 : decode cX6_back 4 = .ok (.ifCond .ne 10, 3) := by decide +kernel
theorem dX6_back_7 : decode cX6_back 7 = .ok (.aload_n 0, 1) := by decide +kernel
theorem dX6_back_8 : decode cX6_back 8 = .ok (.bipush (-3), 2) := by decide +kernel
theorem dX6_back_10 : decode cX6_back 10 = .ok (.invokevirtual 38, 3) := by decide +kernel
theorem dX6_back_13 : decode cX6_back 13 = .ok (.ireturn, 1) := by decide +kernel
theorem dX6_back_14 : decode cX6_back 14 = .ok (.aload_n 0, 1) := by decide +kernel
theorem dX6_back_15 : decode cX6_back 15 = .ok (.dup, 1) := by decide +kernel
theorem dX6_back_16 : decode cX6_back 16 = .ok (.getfield 42, 3) := by decide +kernel
theorem dX6_back_19 : decode cX6_back 19 = .ok (.iconst 1, 1) := by decide +kernel
theorem dX6_back_20 : decode cX6_back 20 = .ok (.isub, 1) := by decide +kernel
theorem dX6_back_21 : decode cX6_back 21 = .ok (.putfield 42, 3) := by decide +kernel
theorem dX6_back_24 : decode cX6_back 24 = .ok (.iconst 0, 1) := by decide +kernel
theorem dX6_back_25 : decode cX6_back 25 = .ok (.istore_n 1, 1) := by decide +kernel
theorem dX6_back_26 : decode cX6_back 26 = .ok (.iload_n 1, 1) := by decide +kernel
theorem dX6_back_27 : decode cX6_back 27 = .ok (.sipush 336, 3) := by decide +kernel
theorem dX6_back_30 : decode cX6_back 30 = .ok (.if_icmp .ge 30, 3) := by decide +kernel
theorem dX6_back_33 : decode cX6_back 33 = .ok (.aload_n 0, 1) := by decide +kernel
theorem dX6_back_34 : decode cX6_back 34 = .ok (.getfield 7, 3) := by decide +kernel
theorem dX6_back_37 : decode cX6_back 37 = .ok (.iload_n 1, 1) := by decide +kernel
theorem dX6_back_38 : decode cX6_back 38 = .ok (.aload_n 0, 1) := by decide +kernel
theorem dX6_back_39 : decode cX6_back 39 = .ok (.getfield 13, 3) := by decide +kernel
theorem dX6_back_42 : decode cX6_back 42 = .ok (.sipush 336, 3) := by decide +kernel
theorem dX6_back_45 : decode cX6_back 45 = .ok (.aload_n 0, 1) := by decide +kernel
theorem dX6_back_46 : decode cX6_back 46 = .ok (.getfield 42, 3) := by decide +kernel
