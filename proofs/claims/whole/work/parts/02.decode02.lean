theorem dX4_harvestFor_126 : decode cX4_harvestFor 126 = .ok (.iconst 1, 1) := by decide +kernel
theorem dX4_harvestFor_127 : decode cX4_harvestFor 127 = .ok (.ishl, 1) := by decide +kernel
theorem dX4_harvestFor_128 : decode cX4_harvestFor 128 = .ok (.iconst 1, 1) := by decide +kernel
theorem dX4_harvestFor_129 : decode cX4_harvestFor 129 = .ok (.ior, 1) := by decide +kernel
theorem dX4_harvestFor_130 : decode cX4_harvestFor 130 = .ok (.goto 16, 3) := by decide +kernel
theorem dX4_harvestFor_133 : decode cX4_harvestFor 133 = .ok (.aload_n 0, 1) := by decide +kernel
theorem dX4_harvestFor_134 : decode cX4_harvestFor 134 = .ok (.getfield 15, 3) := by decide +kernel
theorem dX4_harvestFor_137 : decode cX4_harvestFor 137 = .ok (.iload 5, 2) := by decide +kernel
theorem dX4_harvestFor_139 : decode cX4_harvestFor 139 = .ok (.iconst 1, 1) := by decide +kernel
theorem dX4_harvestFor_140 : decode cX4_harvestFor 140 = .ok (.iadd, 1) := by decide +kernel
theorem dX4_harvestFor_141 : decode cX4_harvestFor 141 = .ok (.iaload, 1) := by decide +kernel
theorem dX4_harvestFor_142 : decode cX4_harvestFor 142 = .ok (.iconst 1, 1) := by decide +kernel
theorem dX4_harvestFor_143 : decode cX4_harvestFor 143 = .ok (.ishl, 1) := by decide +kernel
theorem dX4_harvestFor_144 : decode cX4_harvestFor 144 = .ok (.iconst 0, 1) := by decide +kernel
theorem dX4_harvestFor_145 : decode cX4_harvestFor 145 = .ok (.ior, 1) := by decide +kernel
theorem dX4_harvestFor_146 : decode cX4_harvestFor 146 = .ok (.iastore, 1) := by decide +kernel
theorem dX4_harvestFor_147 : decode cX4_harvestFor 147 = .ok (.aload_n 0, 1) := by decide +kernel
theorem dX4_harvestFor_148 : decode cX4_harvestFor 148 = .ok (.getfield 9, 3) := by decide +kernel
theorem dX4_harvestFor_151 : decode cX4_harvestFor 151 = .ok (.iload 5, 2) := by decide +kernel
theorem dX4_harvestFor_153 : decode cX4_harvestFor 153 = .ok (.iload 7, 2) := by decide +kernel
theorem dX4_harvestFor_155 : decode cX4_harvestFor 155 = .ok (.iload 8, 2) := by decide +kernel
theorem dX4_harvestFor_157 : decode cX4_harvestFor 157 = .ok (.invokestatic 42, 3) := by decide +kernel
theorem dX4_harvestFor_160 : decode cX4_harvestFor 160 = .ok (.iastore, 1) := by decide +kernel
theorem dX4_harvestFor_161 : decode cX4_harvestFor 161 = .ok (.iinc 5 1, 3) := by decide +kernel
theorem dX4_harvestFor_164 : decode cX4_harvestFor 164 = .ok (.goto (-127), 3) := by decide +kernel
theorem dX4_harvestFor_167 : decode cX4_harvestFor 167 = .ok (.iinc 3 1, 3) := by decide +kernel
theorem dX4_harvestFor_170 : decode cX4_harvestFor 170 = .ok (.goto (-152), 3) := by decide +kernel
theorem dX4_harvestFor_173 : decode cX4_harvestFor 173 = .ok (.return_, 1) := by decide +kernel
theorem dX4_firstWrong_0 : decode cX4_firstWrong 0 = .ok (.iconst 0, 1) := by decide +kernel
theorem dX4_firstWrong_1 : decode cX4_firstWrong 1 = .ok (.istore 5, 2) := by decide +kernel
theorem dX4_firstWrong_3 : decode cX4_firstWrong 3 = .ok (.aload_n 1, 1) := by decide +kernel
theorem dX4_firstWrong_4 : decode cX4_firstWrong 4 = .ok (.getfield 24, 3) := by decide +kernel
theorem dX4_firstWrong_7 : decode cX4_firstWrong 7 = .ok (.iconst 1, 1) := by decide +kernel
theorem dX4_firstWrong_8 : decode cX4_firstWrong 8 = .ok (.isub, 1) := by decide +kernel
theorem dX4_firstWrong_9 : decode cX4_firstWrong 9 = .ok (.istore 6, 2) := by decide +kernel
theorem dX4_firstWrong_11 : decode cX4_firstWrong 11 = .ok (.iconst 0, 1) := by decide +kernel
theorem dX4_firstWrong_12 : decode cX4_firstWrong 12 = .ok (.istore 7, 2) := by decide +kernel
theorem dX4_firstWrong_14 : decode cX4_firstWrong 14 = .ok (.iload 7, 2) := by decide +kernel
theorem dX4_firstWrong_16 : decode cX4_firstWrong 16 = .ok (.iload 4, 2) := by decide +kernel
theorem dX4_firstWrong_18 : decode cX4_firstWrong 18 = .ok (.if_icmp .ge 73, 3) := by decide +kernel
theorem dX4_firstWrong_21 : decode cX4_firstWrong 21 = .ok (.aload_n 2, 1) := by decide +kernel
theorem dX4_firstWrong_22 : decode cX4_firstWrong 22 = .ok (.getfield 30, 3) := by decide +kernel
theorem dX4_firstWrong_25 : decode cX4_firstWrong 25 = .ok (.iload_n 3, 1) := by decide +kernel
theorem dX4_firstWrong_26 : decode cX4_firstWrong 26 = .ok (.iload 7, 2) := by decide +kernel
theorem dX4_firstWrong_28 : decode cX4_firstWrong 28 = .ok (.iadd, 1) := by decide +kernel
theorem dX4_firstWrong_29 : decode cX4_firstWrong 29 = .ok (.iaload, 1) := by decide +kernel
theorem dX4_firstWrong_30 : decode cX4_firstWrong 30 = .ok (.istore 8, 2) := by decide +kernel
theorem dX4_firstWrong_32 : decode cX4_firstWrong 32 = .ok (.iload 5, 2) := by decide +kernel
theorem dX4_firstWrong_34 : decode cX4_firstWrong 34 = .ok (.iload 6, 2) := by decide +kernel
theorem dX4_firstWrong_36 : decode cX4_firstWrong 36 = .ok (.if_icmp .gt 21, 3) := by decide +kernel
theorem dX4_firstWrong_39 : decode cX4_firstWrong 39 = .ok (.aload_n 1, 1) := by decide +kernel
theorem dX4_firstWrong_40 : decode cX4_firstWrong 40 = .ok (.getfield 35, 3) := by decide +kernel
theorem dX4_firstWrong_43 : decode cX4_firstWrong 43 = .ok (.iload 5, 2) := by decide +kernel
theorem dX4_firstWrong_45 : decode cX4_firstWrong 45 = .ok (.iaload, 1) := by decide +kernel
theorem dX4_firstWrong_46 : decode cX4_firstWrong 46 = .ok (.iload 8, 2) := by decide +kernel
theorem dX4_firstWrong_48 : decode cX4_firstWrong 48 = .ok (.if_icmp .ne 9, 3) := by decide +kernel
theorem dX4_firstWrong_51 : decode cX4_firstWrong 51 = .ok (.iinc 5 1, 3) := by decide +kernel
theorem dX4_firstWrong_54 : decode cX4_firstWrong 54 = .ok (.goto 31, 3) := by decide +kernel
theorem dX4_firstWrong_57 : decode cX4_firstWrong 57 = .ok (.iload 5, 2) := by decide +kernel
theorem dX4_firstWrong_59 : decode cX4_firstWrong 59 = .ok (.iload 6, 2) := by decide +kernel
theorem dX4_firstWrong_61 : decode cX4_firstWrong 61 = .ok (.if_icmp .gt 21, 3) := by decide +kernel
theorem dX4_firstWrong_64 : decode cX4_firstWrong 64 = .ok (.aload_n 1, 1) := by decide +kernel
theorem dX4_firstWrong_65 : decode cX4_firstWrong 65 = .ok (.getfield 35, 3) := by decide +kernel
theorem dX4_firstWrong_68 : decode cX4_firstWrong 68 = .ok (.iload 6, 2) := by decide +kernel
theorem dX4_firstWrong_70 : decode cX4_firstWrong 70 = .ok (.iaload, 1) := by decide +kernel
theorem dX4_firstWrong_71 : decode cX4_firstWrong 71 = .ok (.iload 8, 2) := by decide +kernel
theorem dX4_firstWrong_73 : decode cX4_firstWrong 73 = .ok (.if_icmp .ne 9, 3) := by decide +kernel
theorem dX4_firstWrong_76 : decode cX4_firstWrong 76 = .ok (.iinc 6 (-1), 3) := by decide +kernel
theorem dX4_firstWrong_79 : decode cX4_firstWrong 79 = .ok (.goto 6, 3) := by decide +kernel
theorem dX4_firstWrong_82 : decode cX4_firstWrong 82 = .ok (.iload 7, 2) := by decide +kernel
theorem dX4_firstWrong_84 : decode cX4_firstWrong 84 = .ok (.ireturn, 1) := by decide +kernel
theorem dX4_firstWrong_85 : decode cX4_firstWrong 85 = .ok (.iinc 7 1, 3) := by decide +kernel
theorem dX4_firstWrong_88 : decode cX4_firstWrong 88 = .ok (.goto (-74), 3) := by decide +kernel
theorem dX4_firstWrong_91 : decode cX4_firstWrong 91 = .ok (.ldc 60, 2) := by decide +kernel
theorem dX4_firstWrong_93 : decode cX4_firstWrong 93 = .ok (.ireturn, 1) := by decide +kernel
theorem dX4_hear_0 : decode cX4_hear 0 = .ok (.aload_n 0, 1) := by decide +kernel
theorem dX4_hear_1 : decode cX4_hear 1 = .ok (.getfield 18, 3) := by decide +kernel
theorem dX4_hear_4 : decode cX4_hear 4 = .ok (.iconst 0, 1) := by decide +kernel
theorem dX4_hear_5 : decode cX4_hear 5 = .ok (.invokestatic 54, 3) := by decide +kernel
theorem dX4_hear_8 : decode cX4_hear 8 = .ok (.aload_n 0, 1) := by decide +kernel
theorem dX4_hear_9 : decode cX4_hear 9 = .ok (.getfield 18, 3) := by decide +kernel
theorem dX4_hear_12 : decode cX4_hear 12 = .ok (.iconst 0, 1) := by decide +kernel
theorem dX4_hear_13 : decode cX4_hear 13 = .ok (.iconst 1, 1) := by decide +kernel
theorem dX4_hear_14 : decode cX4_hear 14 = .ok (.iastore, 1) := by decide +kernel
theorem dX4_hear_15 : decode cX4_hear 15 = .ok (.iconst 0, 1) := by decide +kernel
theorem dX4_hear_16 : decode cX4_hear 16 = .ok (.istore 6, 2) := by decide +kernel
theorem dX4_hear_18 : decode cX4_hear 18 = .ok (.iload 6, 2) := by decide +kernel
theorem dX4_hear_20 : decode cX4_hear 20 = .ok (.iload 5, 2) := by decide +kernel
theorem dX4_hear_22 : decode cX4_hear 22 = .ok (.if_icmp .ge 122, 3) := by decide +kernel
theorem dX4_hear_25 : decode cX4_hear 25 = .ok (.aload_n 3, 1) := by decide +kernel
theorem dX4_hear_26 : decode cX4_hear 26 = .ok (.getfield 30, 3) := by decide +kernel
theorem dX4_hear_29 : decode cX4_hear 29 = .ok (.iload 4, 2) := by decide +kernel
theorem dX4_hear_31 : decode cX4_hear 31 = .ok (.iload 6, 2) := by decide +kernel
theorem dX4_hear_33 : decode cX4_hear 33 = .ok (.iadd, 1) := by decide +kernel
theorem dX4_hear_34 : decode cX4_hear 34 = .ok (.iaload, 1) := by decide +kernel
theorem dX4_hear_35 : decode cX4_hear 35 = .ok (.istore 7, 2) := by decide +kernel
theorem dX4_hear_37 : decode cX4_hear 37 = .ok (.iload 6, 2) := by decide +kernel
theorem dX4_hear_39 : decode cX4_hear 39 = .ok (.iconst 1, 1) := by decide +kernel
theorem dX4_hear_40 : decode cX4_hear 40 = .ok (.iadd, 1) := by decide +kernel
theorem dX4_hear_41 : decode cX4_hear 41 = .ok (.istore 8, 2) := by decide +kernel
theorem dX4_hear_43 : decode cX4_hear 43 = .ok (.iload 8, 2) := by decide +kernel
theorem dX4_hear_45 : decode cX4_hear 45 = .ok (.ifCond .lt 93, 3) := by decide +kernel
theorem dX4_hear_48 : decode cX4_hear 48 = .ok (.iload 8, 2) := by decide +kernel
theorem dX4_hear_50 : decode cX4_hear 50 = .ok (.ifCond .le 32, 3) := by decide +kernel
theorem dX4_hear_53 : decode cX4_hear 53 = .ok (.aload_n 0, 1) := by decide +kernel
theorem dX4_hear_54 : decode cX4_hear 54 = .ok (.aload_n 1, 1) := by decide +kernel
theorem dX4_hear_55 : decode cX4_hear 55 = .ok (.iload_n 2, 1) := by decide +kernel
theorem dX4_hear_56 : decode cX4_hear 56 = .ok (.iload 7, 2) := by decide +kernel
theorem dX4_hear_58 : decode cX4_hear 58 = .ok (.iload 8, 2) := by decide +kernel
theorem dX4_hear_60 : decode cX4_hear 60 = .ok (.iconst 1, 1) := by decide +kernel
theorem dX4_hear_61 : decode cX4_hear 61 = .ok (.isub, 1) := by decide +kernel
theorem dX4_hear_62 : decode cX4_hear 62 = .ok (.iload 6, 2) := by decide +kernel
theorem dX4_hear_64 : decode cX4_hear 64 = .ok (.invokevirtual 61, 3) := by decide +kernel
theorem dX4_hear_67 : decode cX4_hear 67 = .ok (.ifCond .eq 15, 3) := by decide +kernel
theorem dX4_hear_70 : decode cX4_hear 70 = .ok (.aload_n 0, 1) := by decide +kernel
theorem dX4_hear_71 : decode cX4_hear 71 = .ok (.getfield 18, 3) := by decide +kernel
theorem dX4_hear_74 : decode cX4_hear 74 = .ok (.iload 8, 2) := by decide +kernel
theorem dX4_hear_76 : decode cX4_hear 76 = .ok (.iconst 1, 1) := by decide +kernel
theorem dX4_hear_77 : decode cX4_hear 77 = .ok (.isub, 1) := by decide +kernel
theorem dX4_hear_78 : decode cX4_hear 78 = .ok (.iaload, 1) := by decide +kernel
theorem dX4_hear_79 : decode cX4_hear 79 = .ok (.goto 4, 3) := by decide +kernel
theorem dX4_hear_82 : decode cX4_hear 82 = .ok (.iconst 0, 1) := by decide +kernel
theorem dX4_hear_83 : decode cX4_hear 83 = .ok (.istore 9, 2) := by decide +kernel
theorem dX4_hear_85 : decode cX4_hear 85 = .ok (.iload 8, 2) := by decide +kernel
theorem dX4_hear_87 : decode cX4_hear 87 = .ok (.iload 6, 2) := by decide +kernel
theorem dX4_hear_89 : decode cX4_hear 89 = .ok (.if_icmp .gt 28, 3) := by decide +kernel
theorem dX4_hear_92 : decode cX4_hear 92 = .ok (.aload_n 0, 1) := by decide +kernel
theorem dX4_hear_93 : decode cX4_hear 93 = .ok (.aload_n 1, 1) := by decide +kernel
theorem dX4_hear_94 : decode cX4_hear 94 = .ok (.iload_n 2, 1) := by decide +kernel
theorem dX4_hear_95 : decode cX4_hear 95 = .ok (.iload 7, 2) := by decide +kernel
theorem dX4_hear_97 : decode cX4_hear 97 = .ok (.iload 8, 2) := by decide +kernel
theorem dX4_hear_99 : decode cX4_hear 99 = .ok (.iload 6, 2) := by decide +kernel
theorem dX4_hear_101 : decode cX4_hear 101 = .ok (.invokevirtual 65, 3) := by decide +kernel
theorem dX4_hear_104 : decode cX4_hear 104 = .ok (.ifCond .eq 13, 3) := by decide +kernel
theorem dX4_hear_107 : decode cX4_hear 107 = .ok (.aload_n 0, 1) := by decide +kernel
theorem dX4_hear_108 : decode cX4_hear 108 = .ok (.getfield 18, 3) := by decide +kernel
theorem dX4_hear_111 : decode cX4_hear 111 = .ok (.iload 8, 2) := by decide +kernel
theorem dX4_hear_113 : decode cX4_hear 113 = .ok (.iaload, 1) := by decide +kernel
theorem dX4_hear_114 : decode cX4_hear 114 = .ok (.goto 4, 3) := by decide +kernel
theorem dX4_hear_117 : decode cX4_hear 117 = .ok (.iconst 0, 1) := by decide +kernel
theorem dX4_hear_118 : decode cX4_hear 118 = .ok (.istore 10, 2) := by decide +kernel
theorem dX4_hear_120 : decode cX4_hear 120 = .ok (.aload_n 0, 1) := by decide +kernel
theorem dX4_hear_121 : decode cX4_hear 121 = .ok (.getfield 18, 3) := by decide +kernel
theorem dX4_hear_124 : decode cX4_hear 124 = .ok (.iload 8, 2) := by decide +kernel
theorem dX4_hear_126 : decode cX4_hear 126 = .ok (.iload 9, 2) := by decide +kernel
theorem dX4_hear_128 : decode cX4_hear 128 = .ok (.iload 10, 2) := by decide +kernel
theorem dX4_hear_130 : decode cX4_hear 130 = .ok (.iadd, 1) := by decide +kernel
theorem dX4_hear_131 : decode cX4_hear 131 = .ok (.iastore, 1) := by decide +kernel
theorem dX4_hear_132 : decode cX4_hear 132 = .ok (.iinc 8 (-1), 3) := by decide +kernel
theorem dX4_hear_135 : decode cX4_hear 135 = .ok (.goto (-92), 3) := by decide +kernel
theorem dX4_hear_138 : decode cX4_hear 138 = .ok (.iinc 6 1, 3) := by decide +kernel
theorem dX4_hear_141 : decode cX4_hear 141 = .ok (.goto (-123), 3) := by decide +kernel
theorem dX4_hear_144 : decode cX4_hear 144 = .ok (.return_, 1) := by decide +kernel
theorem dX4_isLeft_0 : decode cX4_isLeft 0 = .ok (.iload 5, 2) := by decide +kernel
theorem dX4_isLeft_2 : decode cX4_isLeft 2 = .ok (.aload_n 1, 1) := by decide +kernel
theorem dX4_isLeft_3 : decode cX4_isLeft 3 = .ok (.getfield 24, 3) := by decide +kernel
theorem dX4_isLeft_6 : decode cX4_isLeft 6 = .ok (.if_icmp .ge 24, 3) := by decide +kernel
theorem dX4_isLeft_9 : decode cX4_isLeft 9 = .ok (.aload_n 1, 1) := by decide +kernel
theorem dX4_isLeft_10 : decode cX4_isLeft 10 = .ok (.iload_n 2, 1) := by decide +kernel
theorem dX4_isLeft_11 : decode cX4_isLeft 11 = .ok (.aload_n 1, 1) := by decide +kernel
theorem dX4_isLeft_12 : decode cX4_isLeft 12 = .ok (.getfield 35, 3) := by decide +kernel
theorem dX4_isLeft_15 : decode cX4_isLeft 15 = .ok (.iload 4, 2) := by decide +kernel
theorem dX4_isLeft_17 : decode cX4_isLeft 17 = .ok (.iaload, 1) := by decide +kernel
theorem dX4_isLeft_18 : decode cX4_isLeft 18 = .ok (.iconst 0, 1) := by decide +kernel
theorem dX4_isLeft_19 : decode cX4_isLeft 19 = .ok (.invokevirtual 38, 3) := by decide +kernel
theorem dX4_isLeft_22 : decode cX4_isLeft 22 = .ok (.iload_n 3, 1) := by decide +kernel
theorem dX4_isLeft_23 : decode cX4_isLeft 23 = .ok (.if_icmp .ne 7, 3) := by decide +kernel
theorem dX4_isLeft_26 : decode cX4_isLeft 26 = .ok (.iconst 1, 1) := by decide +kernel
theorem dX4_isLeft_27 : decode cX4_isLeft 27 = .ok (.goto 4, 3) := by decide +kernel
theorem dX4_isLeft_30 : decode cX4_isLeft 30 = .ok (.iconst 0, 1) := by decide +kernel
theorem dX4_isLeft_31 : decode cX4_isLeft 31 = .ok (.ireturn, 1) := by decide +kernel
theorem dX4_isRight_0 : decode cX4_isRight 0 = .ok (.aload_n 1, 1) := by decide +kernel
theorem dX4_isRight_1 : decode cX4_isRight 1 = .ok (.getfield 24, 3) := by decide +kernel
theorem dX4_isRight_4 : decode cX4_isRight 4 = .ok (.iconst 1, 1) := by decide +kernel
theorem dX4_isRight_5 : decode cX4_isRight 5 = .ok (.isub, 1) := by decide +kernel
theorem dX4_isRight_6 : decode cX4_isRight 6 = .ok (.iload 5, 2) := by decide +kernel
theorem dX4_isRight_8 : decode cX4_isRight 8 = .ok (.iload 4, 2) := by decide +kernel
theorem dX4_isRight_10 : decode cX4_isRight 10 = .ok (.isub, 1) := by decide +kernel
theorem dX4_isRight_11 : decode cX4_isRight 11 = .ok (.isub, 1) := by decide +kernel
theorem dX4_isRight_12 : decode cX4_isRight 12 = .ok (.istore 6, 2) := by decide +kernel
theorem dX4_isRight_14 : decode cX4_isRight 14 = .ok (.iload 5, 2) := by decide +kernel
theorem dX4_isRight_16 : decode cX4_isRight 16 = .ok (.aload_n 1, 1) := by decide +kernel
theorem dX4_isRight_17 : decode cX4_isRight 17 = .ok (.getfield 24, 3) := by decide +kernel
theorem dX4_isRight_20 : decode cX4_isRight 20 = .ok (.iconst 1, 1) := by decide +kernel
theorem dX4_isRight_21 : decode cX4_isRight 21 = .ok (.isub, 1) := by decide +kernel
theorem dX4_isRight_22 : decode cX4_isRight 22 = .ok (.if_icmp .ge 24, 3) := by decide +kernel
theorem dX4_isRight_25 : decode cX4_isRight 25 = .ok (.aload_n 1, 1) := by decide +kernel
theorem dX4_isRight_26 : decode cX4_isRight 26 = .ok (.iload_n 2, 1) := by decide +kernel
theorem dX4_isRight_27 : decode cX4_isRight 27 = .ok (.aload_n 1, 1) := by decide +kernel
theorem dX4_isRight_28 : decode cX4_isRight 28 = .ok (.getfield 35, 3) := by decide +kernel
theorem dX4_isRight_31 : decode cX4_isRight 31 = .ok (.iload 6, 2) := by decide +kernel
theorem dX4_isRight_33 : decode cX4_isRight 33 = .ok (.iaload, 1) := by decide +kernel
theorem dX4_isRight_34 : decode cX4_isRight 34 = .ok (.iconst 0, 1) := by decide +kernel
theorem dX4_isRight_35 : decode cX4_isRight 35 = .ok (.invokevirtual 38, 3) := by decide +kernel
theorem dX4_isRight_38 : decode cX4_isRight 38 = .ok (.iload_n 3, 1) := by decide +kernel
theorem dX4_isRight_39 : decode cX4_isRight 39 = .ok (.if_icmp .ne 7, 3) := by decide +kernel
theorem dX4_isRight_42 : decode cX4_isRight 42 = .ok (.iconst 1, 1) := by decide +kernel
theorem dX4_isRight_43 : decode cX4_isRight 43 = .ok (.goto 4, 3) := by decide +kernel
theorem dX4_isRight_46 : decode cX4_isRight 46 = .ok (.iconst 0, 1) := by decide +kernel
theorem dX4_isRight_47 : decode cX4_isRight 47 = .ok (.ireturn, 1) := by decide +kernel
theorem dX4_waysOf_0 : decode cX4_waysOf 0 = .ok (.iconst 0, 1) := by decide +kernel
theorem dX4_waysOf_1 : decode cX4_waysOf 1 = .ok (.istore_n 2, 1) := by decide +kernel
theorem dX4_waysOf_2 : decode cX4_waysOf 2 = .ok (.iconst 0, 1) := by decide +kernel
theorem dX4_waysOf_3 : decode cX4_waysOf 3 = .ok (.istore_n 3, 1) := by decide +kernel
theorem dX4_waysOf_4 : decode cX4_waysOf 4 = .ok (.iload_n 3, 1) := by decide +kernel
theorem dX4_waysOf_5 : decode cX4_waysOf 5 = .ok (.iload_n 1, 1) := by decide +kernel
theorem dX4_waysOf_6 : decode cX4_waysOf 6 = .ok (.if_icmp .gt 18, 3) := by decide +kernel
theorem dX4_waysOf_9 : decode cX4_waysOf 9 = .ok (.iload_n 2, 1) := by decide +kernel
theorem dX4_waysOf_10 : decode cX4_waysOf 10 = .ok (.aload_n 0, 1) := by decide +kernel
theorem dX4_waysOf_11 : decode cX4_waysOf 11 = .ok (.getfield 18, 3) := by decide +kernel
theorem dX4_waysOf_14 : decode cX4_waysOf 14 = .ok (.iload_n 3, 1) := by decide +kernel
theorem dX4_waysOf_15 : decode cX4_waysOf 15 = .ok (.iaload, 1) := by decide +kernel
theorem dX4_waysOf_16 : decode cX4_waysOf 16 = .ok (.iadd, 1) := by decide +kernel
theorem dX4_waysOf_17 : decode cX4_waysOf 17 = .ok (.istore_n 2, 1) := by decide +kernel
theorem dX4_waysOf_18 : decode cX4_waysOf 18 = .ok (.iinc 3 1, 3) := by decide +kernel
theorem dX4_waysOf_21 : decode cX4_waysOf 21 = .ok (.goto (-17), 3) := by decide +kernel
theorem dX4_waysOf_24 : decode cX4_waysOf 24 = .ok (.iload_n 2, 1) := by decide +kernel
theorem dX4_waysOf_25 : decode cX4_waysOf 25 = .ok (.ireturn, 1) := by decide +kernel
theorem dX4_surelyTaken_0 : decode cX4_surelyTaken 0 = .ok (.iconst (-1), 1) := by decide +kernel
theorem dX4_surelyTaken_1 : decode cX4_surelyTaken 1 = .ok (.istore_n 3, 1) := by decide +kernel
theorem dX4_surelyTaken_2 : decode cX4_surelyTaken 2 = .ok (.iconst 0, 1) := by decide +kernel
theorem dX4_surelyTaken_3 : decode cX4_surelyTaken 3 = .ok (.istore 4, 2) := by decide +kernel
theorem dX4_surelyTaken_5 : decode cX4_surelyTaken 5 = .ok (.iload 4, 2) := by decide +kernel
theorem dX4_surelyTaken_7 : decode cX4_surelyTaken 7 = .ok (.iload_n 2, 1) := by decide +kernel
theorem dX4_surelyTaken_8 : decode cX4_surelyTaken 8 = .ok (.if_icmp .gt 49, 3) := by decide +kernel
theorem dX4_surelyTaken_11 : decode cX4_surelyTaken 11 = .ok (.aload_n 0, 1) := by decide +kernel
theorem dX4_surelyTaken_12 : decode cX4_surelyTaken 12 = .ok (.getfield 18, 3) := by decide +kernel
theorem dX4_surelyTaken_15 : decode cX4_surelyTaken 15 = .ok (.iload 4, 2) := by decide +kernel
theorem dX4_surelyTaken_17 : decode cX4_surelyTaken 17 = .ok (.iaload, 1) := by decide +kernel
theorem dX4_surelyTaken_18 : decode cX4_surelyTaken 18 = .ok (.ifCond .le 33, 3) := by decide +kernel
theorem dX4_surelyTaken_21 : decode cX4_surelyTaken 21 = .ok (.iload_n 3, 1) := by decide +kernel
theorem dX4_surelyTaken_22 : decode cX4_surelyTaken 22 = .ok (.aload_n 0, 1) := by decide +kernel
theorem dX4_surelyTaken_23 : decode cX4_surelyTaken 23 = .ok (.aload_n 1, 1) := by decide +kernel
theorem dX4_surelyTaken_24 : decode cX4_surelyTaken 24 = .ok (.iconst 0, 1) := by decide +kernel
theorem dX4_surelyTaken_25 : decode cX4_surelyTaken 25 = .ok (.iload 4, 2) := by decide +kernel
theorem dX4_surelyTaken_27 : decode cX4_surelyTaken 27 = .ok (.invokevirtual 68, 3) := by decide +kernel
theorem dX4_surelyTaken_30 : decode cX4_surelyTaken 30 = .ok (.aload_n 0, 1) := by decide +kernel
theorem dX4_surelyTaken_31 : decode cX4_surelyTaken 31 = .ok (.aload_n 1, 1) := by decide +kernel
theorem dX4_surelyTaken_32 : decode cX4_surelyTaken 32 = .ok (.aload_n 1, 1) := by decide +kernel
theorem dX4_surelyTaken_33 : decode cX4_surelyTaken 33 = .ok (.getfield 24, 3) := by decide +kernel
theorem dX4_surelyTaken_36 : decode cX4_surelyTaken 36 = .ok (.iload_n 2, 1) := by decide +kernel
theorem dX4_surelyTaken_37 : decode cX4_surelyTaken 37 = .ok (.iload 4, 2) := by decide +kernel
theorem dX4_surelyTaken_39 : decode cX4_surelyTaken 39 = .ok (.isub, 1) := by decide +kernel
theorem dX4_surelyTaken_40 : decode cX4_surelyTaken 40 = .ok (.isub, 1) := by decide +kernel
theorem dX4_surelyTaken_41 : decode cX4_surelyTaken 41 = .ok (.iload_n 2, 1) := by decide +kernel
theorem dX4_surelyTaken_42 : decode cX4_surelyTaken 42 = .ok (.iload 4, 2) := by decide +kernel
theorem dX4_surelyTaken_44 : decode cX4_surelyTaken 44 = .ok (.isub, 1) := by decide +kernel
theorem dX4_surelyTaken_45 : decode cX4_surelyTaken 45 = .ok (.invokevirtual 68, 3) := by decide +kernel
theorem dX4_surelyTaken_48 : decode cX4_surelyTaken 48 = .ok (.ior, 1) := by decide +kernel
theorem dX4_surelyTaken_49 : decode cX4_surelyTaken 49 = .ok (.iand, 1) := by decide +kernel
theorem dX4_surelyTaken_50 : decode cX4_surelyTaken 50 = .ok (.istore_n 3, 1) := by decide +kernel
theorem dX4_surelyTaken_51 : decode cX4_surelyTaken 51 = .ok (.iinc 4 1, 3) := by decide +kernel
theorem dX4_surelyTaken_54 : decode cX4_surelyTaken 54 = .ok (.goto (-49), 3) := by decide +kernel
theorem dX4_surelyTaken_57 : decode cX4_surelyTaken 57 = .ok (.iload_n 3, 1) := by decide +kernel
theorem dX4_surelyTaken_58 : decode cX4_surelyTaken 58 = .ok (.iconst (-1), 1) := by decide +kernel
theorem dX4_surelyTaken_59 : decode cX4_surelyTaken 59 = .ok (.if_icmp .ne 8, 3) := by decide +kernel
theorem dX4_surelyTaken_62 : decode cX4_surelyTaken 62 = .ok (.ldc 60, 2) := by decide +kernel
theorem dX4_surelyTaken_64 : decode cX4_surelyTaken 64 = .ok (.goto 4, 3) := by decide +kernel
theorem dX4_surelyTaken_67 : decode cX4_surelyTaken 67 = .ok (.iload_n 3, 1) := by decide +kernel
theorem dX4_surelyTaken_68 : decode cX4_surelyTaken 68 = .ok (.ireturn, 1) := by decide +kernel
theorem dX4_bitsOf_0 : decode cX4_bitsOf 0 = .ok (.iconst 0, 1) := by decide +kernel
theorem dX4_bitsOf_1 : decode cX4_bitsOf 1 = .ok (.istore 4, 2) := by decide +kernel
theorem dX4_bitsOf_3 : decode cX4_bitsOf 3 = .ok (.iload_n 2, 1) := by decide +kernel
theorem dX4_bitsOf_4 : decode cX4_bitsOf 4 = .ok (.istore 5, 2) := by decide +kernel
theorem dX4_bitsOf_6 : decode cX4_bitsOf 6 = .ok (.iload 5, 2) := by decide +kernel
theorem dX4_bitsOf_8 : decode cX4_bitsOf 8 = .ok (.iload_n 2, 1) := by decide +kernel
theorem dX4_bitsOf_9 : decode cX4_bitsOf 9 = .ok (.iload_n 3, 1) := by decide +kernel
theorem dX4_bitsOf_10 : decode cX4_bitsOf 10 = .ok (.iadd, 1) := by decide +kernel
theorem dX4_bitsOf_11 : decode cX4_bitsOf 11 = .ok (.if_icmp .ge 23, 3) := by decide +kernel
theorem dX4_bitsOf_14 : decode cX4_bitsOf 14 = .ok (.iload 4, 2) := by decide +kernel
theorem dX4_bitsOf_16 : decode cX4_bitsOf 16 = .ok (.iconst 1, 1) := by decide +kernel
theorem dX4_bitsOf_17 : decode cX4_bitsOf 17 = .ok (.aload_n 1, 1) := by decide +kernel
theorem dX4_bitsOf_18 : decode cX4_bitsOf 18 = .ok (.getfield 35, 3) := by decide +kernel
theorem dX4_bitsOf_21 : decode cX4_bitsOf 21 = .ok (.iload 5, 2) := by decide +kernel
theorem dX4_bitsOf_23 : decode cX4_bitsOf 23 = .ok (.iaload, 1) := by decide +kernel
theorem dX4_bitsOf_24 : decode cX4_bitsOf 24 = .ok (.ishl, 1) := by decide +kernel
theorem dX4_bitsOf_25 : decode cX4_bitsOf 25 = .ok (.ior, 1) := by decide +kernel
theorem dX4_bitsOf_26 : decode cX4_bitsOf 26 = .ok (.istore 4, 2) := by decide +kernel
theorem dX4_bitsOf_28 : decode cX4_bitsOf 28 = .ok (.iinc 5 1, 3) := by decide +kernel
theorem dX4_bitsOf_31 : decode cX4_bitsOf 31 = .ok (.goto (-25), 3) := by decide +kernel
theorem dX4_bitsOf_34 : decode cX4_bitsOf 34 = .ok (.iload 4, 2) := by decide +kernel
theorem dX4_bitsOf_36 : decode cX4_bitsOf 36 = .ok (.ireturn, 1) := by decide +kernel
theorem dX4_mostApart_0 : decode cX4_mostApart 0 = .ok (.aload_n 1, 1) := by decide +kernel
theorem dX4_mostApart_1 : decode cX4_mostApart 1 = .ok (.getfield 24, 3) := by decide +kernel
theorem dX4_mostApart_4 : decode cX4_mostApart 4 = .ok (.iload_n 3, 1) := by decide +kernel
theorem dX4_mostApart_5 : decode cX4_mostApart 5 = .ok (.isub, 1) := by decide +kernel
theorem dX4_mostApart_6 : decode cX4_mostApart 6 = .ok (.istore 5, 2) := by decide +kernel
theorem dX4_mostApart_8 : decode cX4_mostApart 8 = .ok (.iconst 0, 1) := by decide +kernel
theorem dX4_mostApart_9 : decode cX4_mostApart 9 = .ok (.istore 6, 2) := by decide +kernel
theorem dX4_mostApart_11 : decode cX4_mostApart 11 = .ok (.aload_n 0, 1) := by decide +kernel
theorem dX4_mostApart_12 : decode cX4_mostApart 12 = .ok (.aload_n 1, 1) := by decide +kernel
theorem dX4_mostApart_13 : decode cX4_mostApart 13 = .ok (.iload_n 2, 1) := by decide +kernel
theorem dX4_mostApart_14 : decode cX4_mostApart 14 = .ok (.invokevirtual 72, 3) := by decide +kernel
theorem dX4_mostApart_17 : decode cX4_mostApart 17 = .ok (.iconst 0, 1) := by decide +kernel
theorem dX4_mostApart_18 : decode cX4_mostApart 18 = .ok (.iload 4, 2) := by decide +kernel
theorem dX4_mostApart_20 : decode cX4_mostApart 20 = .ok (.iload 5, 2) := by decide +kernel
theorem dX4_mostApart_22 : decode cX4_mostApart 22 = .ok (.isub, 1) := by decide +kernel
theorem dX4_mostApart_23 : decode cX4_mostApart 23 = .ok (.invokestatic 42, 3) := by decide +kernel
theorem dX4_mostApart_26 : decode cX4_mostApart 26 = .ok (.istore 7, 2) := by decide +kernel
theorem dX4_mostApart_28 : decode cX4_mostApart 28 = .ok (.iload 7, 2) := by decide +kernel
theorem dX4_mostApart_30 : decode cX4_mostApart 30 = .ok (.iload_n 3, 1) := by decide +kernel
theorem dX4_mostApart_31 : decode cX4_mostApart 31 = .ok (.iload 4, 2) := by decide +kernel
theorem dX4_mostApart_33 : decode cX4_mostApart 33 = .ok (.invokestatic 48, 3) := by decide +kernel
theorem dX4_mostApart_36 : decode cX4_mostApart 36 = .ok (.if_icmp .gt 37, 3) := by decide +kernel
theorem dX4_mostApart_39 : decode cX4_mostApart 39 = .ok (.iload 6, 2) := by decide +kernel
theorem dX4_mostApart_41 : decode cX4_mostApart 41 = .ok (.aload_n 0, 1) := by decide +kernel
theorem dX4_mostApart_42 : decode cX4_mostApart 42 = .ok (.iconst 0, 1) := by decide +kernel
theorem dX4_mostApart_43 : decode cX4_mostApart 43 = .ok (.iload_n 3, 1) := by decide +kernel
theorem dX4_mostApart_44 : decode cX4_mostApart 44 = .ok (.iload 7, 2) := by decide +kernel
theorem dX4_mostApart_46 : decode cX4_mostApart 46 = .ok (.invokevirtual 76, 3) := by decide +kernel
theorem dX4_mostApart_49 : decode cX4_mostApart 49 = .ok (.aload_n 0, 1) := by decide +kernel
theorem dX4_mostApart_50 : decode cX4_mostApart 50 = .ok (.iload_n 3, 1) := by decide +kernel
theorem dX4_mostApart_51 : decode cX4_mostApart 51 = .ok (.iload 5, 2) := by decide +kernel
theorem dX4_mostApart_53 : decode cX4_mostApart 53 = .ok (.iload 4, 2) := by decide +kernel
theorem dX4_mostApart_55 : decode cX4_mostApart 55 = .ok (.iload 7, 2) := by decide +kernel
theorem dX4_mostApart_57 : decode cX4_mostApart 57 = .ok (.isub, 1) := by decide +kernel
theorem dX4_mostApart_58 : decode cX4_mostApart 58 = .ok (.invokevirtual 76, 3) := by decide +kernel
theorem dX4_mostApart_61 : decode cX4_mostApart 61 = .ok (.iadd, 1) := by decide +kernel
theorem dX4_mostApart_62 : decode cX4_mostApart 62 = .ok (.invokestatic 42, 3) := by decide +kernel
theorem dX4_mostApart_65 : decode cX4_mostApart 65 = .ok (.istore 6, 2) := by decide +kernel
theorem dX4_mostApart_67 : decode cX4_mostApart 67 = .ok (.iinc 7 1, 3) := by decide +kernel
theorem dX4_mostApart_70 : decode cX4_mostApart 70 = .ok (.goto (-42), 3) := by decide +kernel
theorem dX4_mostApart_73 : decode cX4_mostApart 73 = .ok (.iload 6, 2) := by decide +kernel
theorem dX4_mostApart_75 : decode cX4_mostApart 75 = .ok (.ireturn, 1) := by decide +kernel
theorem dX4_addUp_0 : decode cX4_addUp 0 = .ok (.aload_n 0, 1) := by decide +kernel
theorem dX4_addUp_1 : decode cX4_addUp 1 = .ok (.getfield 21, 3) := by decide +kernel
theorem dX4_addUp_4 : decode cX4_addUp 4 = .ok (.iconst 0, 1) := by decide +kernel
theorem dX4_addUp_5 : decode cX4_addUp 5 = .ok (.iconst 0, 1) := by decide +kernel
theorem dX4_addUp_6 : decode cX4_addUp 6 = .ok (.iastore, 1) := by decide +kernel
theorem dX4_addUp_7 : decode cX4_addUp 7 = .ok (.iconst 0, 1) := by decide +kernel
theorem dX4_addUp_8 : decode cX4_addUp 8 = .ok (.istore_n 3, 1) := by decide +kernel
theorem dX4_addUp_9 : decode cX4_addUp 9 = .ok (.iload_n 3, 1) := by decide +kernel
theorem dX4_addUp_10 : decode cX4_addUp 10 = .ok (.aload_n 1, 1) := by decide +kernel
theorem dX4_addUp_11 : decode cX4_addUp 11 = .ok (.getfield 24, 3) := by decide +kernel
theorem dX4_addUp_14 : decode cX4_addUp 14 = .ok (.if_icmp .ge 36, 3) := by decide +kernel
theorem dX4_addUp_17 : decode cX4_addUp 17 = .ok (.aload_n 0, 1) := by decide +kernel
theorem dX4_addUp_18 : decode cX4_addUp 18 = .ok (.getfield 21, 3) := by decide +kernel
theorem dX4_addUp_21 : decode cX4_addUp 21 = .ok (.iload_n 3, 1) := by decide +kernel
theorem dX4_addUp_22 : decode cX4_addUp 22 = .ok (.iconst 1, 1) := by decide +kernel
theorem dX4_addUp_23 : decode cX4_addUp 23 = .ok (.iadd, 1) := by decide +kernel
theorem dX4_addUp_24 : decode cX4_addUp 24 = .ok (.aload_n 0, 1) := by decide +kernel
theorem dX4_addUp_25 : decode cX4_addUp 25 = .ok (.getfield 21, 3) := by decide +kernel
theorem dX4_addUp_28 : decode cX4_addUp 28 = .ok (.iload_n 3, 1) := by decide +kernel
theorem dX4_addUp_29 : decode cX4_addUp 29 = .ok (.iaload, 1) := by decide +kernel
theorem dX4_addUp_30 : decode cX4_addUp 30 = .ok (.aload_n 1, 1) := by decide +kernel
theorem dX4_addUp_31 : decode cX4_addUp 31 = .ok (.iload_n 2, 1) := by decide +kernel
theorem dX4_addUp_32 : decode cX4_addUp 32 = .ok (.aload_n 1, 1) := by decide +kernel
theorem dX4_addUp_33 : decode cX4_addUp 33 = .ok (.getfield 35, 3) := by decide +kernel
theorem dX4_addUp_36 : decode cX4_addUp 36 = .ok (.iload_n 3, 1) := by decide +kernel
theorem dX4_addUp_37 : decode cX4_addUp 37 = .ok (.iaload, 1) := by decide +kernel
theorem dX4_addUp_38 : decode cX4_addUp 38 = .ok (.iconst 0, 1) := by decide +kernel
theorem dX4_addUp_39 : decode cX4_addUp 39 = .ok (.invokevirtual 38, 3) := by decide +kernel
theorem dX4_addUp_42 : decode cX4_addUp 42 = .ok (.iadd, 1) := by decide +kernel
theorem dX4_addUp_43 : decode cX4_addUp 43 = .ok (.iastore, 1) := by decide +kernel
theorem dX4_addUp_44 : decode cX4_addUp 44 = .ok (.iinc 3 1, 3) := by decide +kernel
theorem dX4_addUp_47 : decode cX4_addUp 47 = .ok (.goto (-38), 3) := by decide +kernel
theorem dX4_addUp_50 : decode cX4_addUp 50 = .ok (.return_, 1) := by decide +kernel
theorem dX4_mostOfStall_0 : decode cX4_mostOfStall 0 = .ok (.iload_n 2, 1) := by decide +kernel
theorem dX4_mostOfStall_1 : decode cX4_mostOfStall 1 = .ok (.iload_n 3, 1) := by decide +kernel
theorem dX4_mostOfStall_2 : decode cX4_mostOfStall 2 = .ok (.isub, 1) := by decide +kernel
theorem dX4_mostOfStall_3 : decode cX4_mostOfStall 3 = .ok (.istore 4, 2) := by decide +kernel
theorem dX4_mostOfStall_5 : decode cX4_mostOfStall 5 = .ok (.aload_n 0, 1) := by decide +kernel
theorem dX4_mostOfStall_6 : decode cX4_mostOfStall 6 = .ok (.getfield 21, 3) := by decide +kernel
theorem dX4_mostOfStall_9 : decode cX4_mostOfStall 9 = .ok (.iload_n 1, 1) := by decide +kernel
theorem dX4_mostOfStall_10 : decode cX4_mostOfStall 10 = .ok (.iload 4, 2) := by decide +kernel
theorem dX4_mostOfStall_12 : decode cX4_mostOfStall 12 = .ok (.iadd, 1) := by decide +kernel
theorem dX4_mostOfStall_13 : decode cX4_mostOfStall 13 = .ok (.iaload, 1) := by decide +kernel
theorem dX4_mostOfStall_14 : decode cX4_mostOfStall 14 = .ok (.aload_n 0, 1) := by decide +kernel
theorem dX4_mostOfStall_15 : decode cX4_mostOfStall 15 = .ok (.getfield 21, 3) := by decide +kernel
theorem dX4_mostOfStall_18 : decode cX4_mostOfStall 18 = .ok (.iload_n 1, 1) := by decide +kernel
theorem dX4_mostOfStall_19 : decode cX4_mostOfStall 19 = .ok (.iaload, 1) := by decide +kernel
theorem dX4_mostOfStall_20 : decode cX4_mostOfStall 20 = .ok (.isub, 1) := by decide +kernel
theorem dX4_mostOfStall_21 : decode cX4_mostOfStall 21 = .ok (.istore 5, 2) := by decide +kernel
theorem dX4_mostOfStall_23 : decode cX4_mostOfStall 23 = .ok (.iload_n 1, 1) := by decide +kernel
theorem dX4_mostOfStall_24 : decode cX4_mostOfStall 24 = .ok (.istore 6, 2) := by decide +kernel
theorem dX4_mostOfStall_26 : decode cX4_mostOfStall 26 = .ok (.iload 6, 2) := by decide +kernel
theorem dX4_mostOfStall_28 : decode cX4_mostOfStall 28 = .ok (.iload_n 1, 1) := by decide +kernel
theorem dX4_mostOfStall_29 : decode cX4_mostOfStall 29 = .ok (.iload_n 3, 1) := by decide +kernel
theorem dX4_mostOfStall_30 : decode cX4_mostOfStall 30 = .ok (.iadd, 1) := by decide +kernel
theorem dX4_mostOfStall_31 : decode cX4_mostOfStall 31 = .ok (.if_icmp .gt 34, 3) := by decide +kernel
theorem dX4_mostOfStall_34 : decode cX4_mostOfStall 34 = .ok (.iload 5, 2) := by decide +kernel
theorem dX4_mostOfStall_36 : decode cX4_mostOfStall 36 = .ok (.aload_n 0, 1) := by decide +kernel
theorem dX4_mostOfStall_37 : decode cX4_mostOfStall 37 = .ok (.getfield 21, 3) := by decide +kernel
theorem dX4_mostOfStall_40 : decode cX4_mostOfStall 40 = .ok (.iload 6, 2) := by decide +kernel
theorem dX4_mostOfStall_42 : decode cX4_mostOfStall 42 = .ok (.iload 4, 2) := by decide +kernel
theorem dX4_mostOfStall_44 : decode cX4_mostOfStall 44 = .ok (.iadd, 1) := by decide +kernel
theorem dX4_mostOfStall_45 : decode cX4_mostOfStall 45 = .ok (.iaload, 1) := by decide +kernel
theorem dX4_mostOfStall_46 : decode cX4_mostOfStall 46 = .ok (.aload_n 0, 1) := by decide +kernel
theorem dX4_mostOfStall_47 : decode cX4_mostOfStall 47 = .ok (.getfield 21, 3) := by decide +kernel
theorem dX4_mostOfStall_50 : decode cX4_mostOfStall 50 = .ok (.iload 6, 2) := by decide +kernel
theorem dX4_mostOfStall_52 : decode cX4_mostOfStall 52 = .ok (.iaload, 1) := by decide +kernel
theorem dX4_mostOfStall_53 : decode cX4_mostOfStall 53 = .ok (.isub, 1) := by decide +kernel
theorem dX4_mostOfStall_54 : decode cX4_mostOfStall 54 = .ok (.invokestatic 48, 3) := by decide +kernel
theorem dX4_mostOfStall_57 : decode cX4_mostOfStall 57 = .ok (.istore 5, 2) := by decide +kernel
theorem dX4_mostOfStall_59 : decode cX4_mostOfStall 59 = .ok (.iinc 6 1, 3) := by decide +kernel
theorem dX4_mostOfStall_62 : decode cX4_mostOfStall 62 = .ok (.goto (-36), 3) := by decide +kernel
theorem dX4_mostOfStall_65 : decode cX4_mostOfStall 65 = .ok (.aload_n 0, 1) := by decide +kernel
theorem dX4_mostOfStall_66 : decode cX4_mostOfStall 66 = .ok (.getfield 21, 3) := by decide +kernel
theorem dX4_mostOfStall_69 : decode cX4_mostOfStall 69 = .ok (.iload_n 1, 1) := by decide +kernel
theorem dX4_mostOfStall_70 : decode cX4_mostOfStall 70 = .ok (.iload_n 2, 1) := by decide +kernel
theorem dX4_mostOfStall_71 : decode cX4_mostOfStall 71 = .ok (.iadd, 1) := by decide +kernel
theorem dX4_mostOfStall_72 : decode cX4_mostOfStall 72 = .ok (.iaload, 1) := by decide +kernel
theorem dX4_mostOfStall_73 : decode cX4_mostOfStall 73 = .ok (.aload_n 0, 1) := by decide +kernel
theorem dX4_mostOfStall_74 : decode cX4_mostOfStall 74 = .ok (.getfield 21, 3) := by decide +kernel
theorem dX4_mostOfStall_77 : decode cX4_mostOfStall 77 = .ok (.iload_n 1, 1) := by decide +kernel
theorem dX4_mostOfStall_78 : decode cX4_mostOfStall 78 = .ok (.iaload, 1) := by decide +kernel
theorem dX4_mostOfStall_79 : decode cX4_mostOfStall 79 = .ok (.isub, 1) := by decide +kernel
theorem dX4_mostOfStall_80 : decode cX4_mostOfStall 80 = .ok (.iload 5, 2) := by decide +kernel
theorem dX4_mostOfStall_82 : decode cX4_mostOfStall 82 = .ok (.isub, 1) := by decide +kernel
theorem dX4_mostOfStall_83 : decode cX4_mostOfStall 83 = .ok (.ireturn, 1) := by decide +kernel
theorem dX5_init_0 : decode cX5_init 0 = .ok (.aload_n 0, 1) := by decide +kernel
theorem dX5_init_1 : decode cX5_init 1 = .ok (.invokespecial 3, 3) := by decide +kernel
theorem dX5_init_4 : decode cX5_init 4 = .ok (.aload_n 0, 1) := by decide +kernel
theorem dX5_init_5 : decode cX5_init 5 = .ok (.sipush 400, 3) := by decide +kernel
theorem dX5_init_8 : decode cX5_init 8 = .ok (.newarray .int, 2) := by decide +kernel
theorem dX5_init_10 : decode cX5_init 10 = .ok (.putfield 9, 3) := by decide +kernel
theorem dX5_init_13 : decode cX5_init 13 = .ok (.return_, 1) := by decide +kernel
theorem dX5_append_0 : decode cX5_append 0 = .ok (.aload_n 0, 1) := by decide +kernel
theorem dX5_append_1 : decode cX5_append 1 = .ok (.getfield 15, 3) := by decide +kernel
theorem dX5_append_4 : decode cX5_append 4 = .ok (.sipush 400, 3) := by decide +kernel
theorem dX5_append_7 : decode cX5_append 7 = .ok (.if_icmp .ge 23, 3) := by decide +kernel
theorem dX5_append_10 : decode cX5_append 10 = .ok (.aload_n 0, 1) := by decide +kernel
theorem dX5_append_11 : decode cX5_append 11 = .ok (.getfield 9, 3) := by decide +kernel
theorem dX5_append_14 : decode cX5_append 14 = .ok (.aload_n 0, 1) := by decide +kernel
theorem dX5_append_15 : decode cX5_append 15 = .ok (.getfield 15, 3) := by decide +kernel
theorem dX5_append_18 : decode cX5_append 18 = .ok (.iload_n 1, 1) := by decide +kernel
theorem dX5_append_19 : decode cX5_append 19 = .ok (.iastore, 1) := by decide +kernel
theorem dX5_append_20 : decode cX5_append 20 = .ok (.aload_n 0, 1) := by decide +kernel
theorem dX5_append_21 : decode cX5_append 21 = .ok (.dup, 1) := by decide +kernel
theorem dX5_append_22 : decode cX5_append 22 = .ok (.getfield 15, 3) := by decide +kernel
theorem dX5_append_25 : decode cX5_append 25 = .ok (.iconst 1, 1) := by decide +kernel
theorem dX5_append_26 : decode cX5_append 26 = .ok (.iadd, 1) := by decide +kernel
theorem dX5_append_27 : decode cX5_append 27 = .ok (.putfield 15, 3) := by decide +kernel
theorem dX5_append_30 : decode cX5_append 30 = .ok (.return_, 1) := by decide +kernel
theorem dX5_readInto_0 : decode cX5_readInto 0 = .ok (.aload_n 1, 1) := by decide +kernel
theorem dX5_readInto_1 : decode cX5_readInto 1 = .ok (.invokevirtual 19, 3) := by decide +kernel
theorem dX5_readInto_4 : decode cX5_readInto 4 = .ok (.aload_n 0, 1) := by decide +kernel
theorem dX5_readInto_5 : decode cX5_readInto 5 = .ok (.iconst 0, 1) := by decide +kernel
theorem dX5_readInto_6 : decode cX5_readInto 6 = .ok (.putfield 24, 3) := by decide +kernel
theorem dX5_readInto_9 : decode cX5_readInto 9 = .ok (.aload_n 0, 1) := by decide +kernel
theorem dX5_readInto_10 : decode cX5_readInto 10 = .ok (.iconst 0, 1) := by decide +kernel
theorem dX5_readInto_11 : decode cX5_readInto 11 = .ok (.putfield 27, 3) := by decide +kernel
theorem dX5_readInto_14 : decode cX5_readInto 14 = .ok (.aload_n 0, 1) := by decide +kernel
theorem dX5_readInto_15 : decode cX5_readInto 15 = .ok (.invokevirtual 30, 3) := by decide +kernel
theorem dX5_readInto_18 : decode cX5_readInto 18 = .ok (.aload_n 0, 1) := by decide +kernel
theorem dX5_readInto_19 : decode cX5_readInto 19 = .ok (.aload_n 1, 1) := by decide +kernel
theorem dX5_readInto_20 : decode cX5_readInto 20 = .ok (.invokevirtual 33, 3) := by decide +kernel
theorem dX5_readInto_23 : decode cX5_readInto 23 = .ok (.iconst 0, 1) := by decide +kernel
theorem dX5_readInto_24 : decode cX5_readInto 24 = .ok (.istore_n 2, 1) := by decide +kernel
theorem dX5_readInto_25 : decode cX5_readInto 25 = .ok (.iload_n 2, 1) := by decide +kernel
theorem dX5_readInto_26 : decode cX5_readInto 26 = .ok (.sipush 400, 3) := by decide +kernel
theorem dX5_readInto_29 : decode cX5_readInto 29 = .ok (.if_icmp .ge 23, 3) := by decide +kernel
theorem dX5_readInto_32 : decode cX5_readInto 32 = .ok (.aload_n 0, 1) := by decide +kernel
theorem dX5_readInto_33 : decode cX5_readInto 33 = .ok (.ldc 37, 2) := by decide +kernel
theorem dX5_readInto_35 : decode cX5_readInto 35 = .ok (.invokevirtual 39, 3) := by decide +kernel
theorem dX5_readInto_38 : decode cX5_readInto 38 = .ok (.ifCond .eq 14, 3) := by decide +kernel
theorem dX5_readInto_41 : decode cX5_readInto 41 = .ok (.aload_n 0, 1) := by decide +kernel
theorem dX5_readInto_42 : decode cX5_readInto 42 = .ok (.aload_n 1, 1) := by decide +kernel
theorem dX5_readInto_43 : decode cX5_readInto 43 = .ok (.invokevirtual 43, 3) := by decide +kernel
theorem dX5_readInto_46 : decode cX5_readInto 46 = .ok (.iinc 2 1, 3) := by decide +kernel
theorem dX5_readInto_49 : decode cX5_readInto 49 = .ok (.goto (-24), 3) := by decide +kernel
theorem dX5_readInto_52 : decode cX5_readInto 52 = .ok (.iconst 0, 1) := by decide +kernel
theorem dX5_readInto_53 : decode cX5_readInto 53 = .ok (.istore_n 2, 1) := by decide +kernel
theorem dX5_readInto_54 : decode cX5_readInto 54 = .ok (.iload_n 2, 1) := by decide +kernel
theorem dX5_readInto_55 : decode cX5_readInto 55 = .ok (.sipush 400, 3) := by decide +kernel
theorem dX5_readInto_58 : decode cX5_readInto 58 = .ok (.if_icmp .ge 23, 3) := by decide +kernel
theorem dX5_readInto_61 : decode cX5_readInto 61 = .ok (.aload_n 0, 1) := by decide +kernel
theorem dX5_readInto_62 : decode cX5_readInto 62 = .ok (.ldc 46, 2) := by decide +kernel
theorem dX5_readInto_64 : decode cX5_readInto 64 = .ok (.invokevirtual 39, 3) := by decide +kernel
theorem dX5_readInto_67 : decode cX5_readInto 67 = .ok (.ifCond .eq 14, 3) := by decide +kernel
theorem dX5_readInto_70 : decode cX5_readInto 70 = .ok (.aload_n 0, 1) := by decide +kernel
theorem dX5_readInto_71 : decode cX5_readInto 71 = .ok (.aload_n 1, 1) := by decide +kernel
theorem dX5_readInto_72 : decode cX5_readInto 72 = .ok (.invokevirtual 48, 3) := by decide +kernel
theorem dX5_readInto_75 : decode cX5_readInto 75 = .ok (.iinc 2 1, 3) := by decide +kernel
theorem dX5_readInto_78 : decode cX5_readInto 78 = .ok (.goto (-24), 3) := by decide +kernel
theorem dX5_readInto_81 : decode cX5_readInto 81 = .ok (.aload_n 0, 1) := by decide +kernel
theorem dX5_readInto_82 : decode cX5_readInto 82 = .ok (.getfield 51, 3) := by decide +kernel
theorem dX5_readInto_85 : decode cX5_readInto 85 = .ok (.iconst 3, 1) := by decide +kernel
theorem dX5_readInto_86 : decode cX5_readInto 86 = .ok (.if_icmp .eq 8, 3) := by decide +kernel
theorem dX5_readInto_89 : decode cX5_readInto 89 = .ok (.aload_n 0, 1) := by decide +kernel
theorem dX5_readInto_90 : decode cX5_readInto 90 = .ok (.iconst 1, 1) := by decide +kernel
theorem dX5_readInto_91 : decode cX5_readInto 91 = .ok (.invokevirtual 54, 3) := by decide +kernel
theorem dX5_readInto_94 : decode cX5_readInto 94 = .ok (.aload_n 0, 1) := by decide +kernel
theorem dX5_readInto_95 : decode cX5_readInto 95 = .ok (.iconst 0, 1) := by decide +kernel
theorem dX5_readInto_96 : decode cX5_readInto 96 = .ok (.putfield 15, 3) := by decide +kernel
theorem dX5_readInto_99 : decode cX5_readInto 99 = .ok (.aload_n 0, 1) := by decide +kernel
theorem dX5_readInto_100 : decode cX5_readInto 100 = .ok (.getfield 24, 3) := by decide +kernel
theorem dX5_readInto_103 : decode cX5_readInto 103 = .ok (.ifCond .ne 7, 3) := by decide +kernel
theorem dX5_readInto_106 : decode cX5_readInto 106 = .ok (.iconst 1, 1) := by decide +kernel
theorem dX5_readInto_107 : decode cX5_readInto 107 = .ok (.goto 4, 3) := by decide +kernel
theorem dX5_readInto_110 : decode cX5_readInto 110 = .ok (.iconst 0, 1) := by decide +kernel
theorem dX5_readInto_111 : decode cX5_readInto 111 = .ok (.ireturn, 1) := by decide +kernel
theorem dX5_readLaw_0 : decode cX5_readLaw 0 = .ok (.aload_n 0, 1) := by decide +kernel
theorem dX5_readLaw_1 : decode cX5_readLaw 1 = .ok (.ldc 58, 2) := by decide +kernel
theorem dX5_readLaw_3 : decode cX5_readLaw 3 = .ok (.invokevirtual 39, 3) := by decide +kernel
theorem dX5_readLaw_6 : decode cX5_readLaw 6 = .ok (.ifCond .eq 10, 3) := by decide +kernel
theorem dX5_readLaw_9 : decode cX5_readLaw 9 = .ok (.aload_n 0, 1) := by decide +kernel
theorem dX5_readLaw_10 : decode cX5_readLaw 10 = .ok (.invokevirtual 30, 3) := by decide +kernel
theorem dX5_readLaw_13 : decode cX5_readLaw 13 = .ok (.goto 8, 3) := by decide +kernel
theorem dX5_readLaw_16 : decode cX5_readLaw 16 = .ok (.aload_n 0, 1) := by decide +kernel
theorem dX5_readLaw_17 : decode cX5_readLaw 17 = .ok (.iconst 1, 1) := by decide +kernel
theorem dX5_readLaw_18 : decode cX5_readLaw 18 = .ok (.invokevirtual 54, 3) := by decide +kernel
theorem dX5_readLaw_21 : decode cX5_readLaw 21 = .ok (.aload_n 1, 1) := by decide +kernel
theorem dX5_readLaw_22 : decode cX5_readLaw 22 = .ok (.aload_n 0, 1) := by decide +kernel
theorem dX5_readLaw_23 : decode cX5_readLaw 23 = .ok (.iconst 1, 1) := by decide +kernel
theorem dX5_readLaw_24 : decode cX5_readLaw 24 = .ok (.invokevirtual 60, 3) := by decide +kernel
theorem dX5_readLaw_27 : decode cX5_readLaw 27 = .ok (.putfield 64, 3) := by decide +kernel
theorem dX5_readLaw_30 : decode cX5_readLaw 30 = .ok (.aload_n 0, 1) := by decide +kernel
theorem dX5_readLaw_31 : decode cX5_readLaw 31 = .ok (.invokevirtual 67, 3) := by decide +kernel
theorem dX5_readLaw_34 : decode cX5_readLaw 34 = .ok (.return_, 1) := by decide +kernel
theorem dX5_readBuyer_0 : decode cX5_readBuyer 0 = .ok (.aload_n 1, 1) := by decide +kernel
theorem dX5_readBuyer_1 : decode cX5_readBuyer 1 = .ok (.getfield 70, 3) := by decide +kernel
theorem dX5_readBuyer_4 : decode cX5_readBuyer 4 = .ok (.iconst 4, 1) := by decide +kernel
theorem dX5_readBuyer_5 : decode cX5_readBuyer 5 = .ok (.if_icmp .ne 9, 3) := by decide +kernel
theorem dX5_readBuyer_8 : decode cX5_readBuyer 8 = .ok (.aload_n 0, 1) := by decide +kernel
theorem dX5_readBuyer_9 : decode cX5_readBuyer 9 = .ok (.iconst 3, 1) := by decide +kernel
theorem dX5_readBuyer_10 : decode cX5_readBuyer 10 = .ok (.invokevirtual 54, 3) := by decide +kernel
theorem dX5_readBuyer_13 : decode cX5_readBuyer 13 = .ok (.return_, 1) := by decide +kernel
theorem dX5_readBuyer_14 : decode cX5_readBuyer 14 = .ok (.aload_n 0, 1) := by decide +kernel
theorem dX5_readBuyer_15 : decode cX5_readBuyer 15 = .ok (.invokevirtual 30, 3) := by decide +kernel
theorem dX5_readBuyer_18 : decode cX5_readBuyer 18 = .ok (.aload_n 0, 1) := by decide +kernel
theorem dX5_readBuyer_19 : decode cX5_readBuyer 19 = .ok (.iconst 5, 1) := by decide +kernel
theorem dX5_readBuyer_20 : decode cX5_readBuyer 20 = .ok (.invokevirtual 60, 3) := by decide +kernel
theorem dX5_readBuyer_23 : decode cX5_readBuyer 23 = .ok (.istore_n 2, 1) := by decide +kernel
theorem dX5_readBuyer_24 : decode cX5_readBuyer 24 = .ok (.aload_n 0, 1) := by decide +kernel
theorem dX5_readBuyer_25 : decode cX5_readBuyer 25 = .ok (.sipush 200, 3) := by decide +kernel
theorem dX5_readBuyer_28 : decode cX5_readBuyer 28 = .ok (.invokevirtual 60, 3) := by decide +kernel
theorem dX5_readBuyer_31 : decode cX5_readBuyer 31 = .ok (.istore_n 3, 1) := by decide +kernel
theorem dX5_readBuyer_32 : decode cX5_readBuyer 32 = .ok (.aload_n 0, 1) := by decide +kernel
theorem dX5_readBuyer_33 : decode cX5_readBuyer 33 = .ok (.invokevirtual 67, 3) := by decide +kernel
theorem dX5_readBuyer_36 : decode cX5_readBuyer 36 = .ok (.aload_n 0, 1) := by decide +kernel
theorem dX5_readBuyer_37 : decode cX5_readBuyer 37 = .ok (.getfield 24, 3) := by decide +kernel
theorem dX5_readBuyer_40 : decode cX5_readBuyer 40 = .ok (.ifCond .ne 9, 3) := by decide +kernel
theorem dX5_readBuyer_43 : decode cX5_readBuyer 43 = .ok (.aload_n 1, 1) := by decide +kernel
theorem dX5_readBuyer_44 : decode cX5_readBuyer 44 = .ok (.iload_n 2, 1) := by decide +kernel
theorem dX5_readBuyer_45 : decode cX5_readBuyer 45 = .ok (.iload_n 3, 1) := by decide +kernel
theorem dX5_readBuyer_46 : decode cX5_readBuyer 46 = .ok (.invokevirtual 73, 3) := by decide +kernel
theorem dX5_readBuyer_49 : decode cX5_readBuyer 49 = .ok (.return_, 1) := by decide +kernel
theorem dX5_readWare_0 : decode cX5_readWare 0 = .ok (.aload_n 1, 1) := by decide +kernel
theorem dX5_readWare_1 : decode cX5_readWare 1 = .ok (.getfield 77, 3) := by decide +kernel
theorem dX5_readWare_4 : decode cX5_readWare 4 = .ok (.bipush 10, 2) := by decide +kernel
theorem dX5_readWare_6 : decode cX5_readWare 6 = .ok (.if_icmp .ne 9, 3) := by decide +kernel
theorem dX5_readWare_9 : decode cX5_readWare 9 = .ok (.aload_n 0, 1) := by decide +kernel
theorem dX5_readWare_10 : decode cX5_readWare 10 = .ok (.iconst 3, 1) := by decide +kernel
theorem dX5_readWare_11 : decode cX5_readWare 11 = .ok (.invokevirtual 54, 3) := by decide +kernel
theorem dX5_readWare_14 : decode cX5_readWare 14 = .ok (.return_, 1) := by decide +kernel
theorem dX5_readWare_15 : decode cX5_readWare 15 = .ok (.aload_n 0, 1) := by decide +kernel
theorem dX5_readWare_16 : decode cX5_readWare 16 = .ok (.invokevirtual 30, 3) := by decide +kernel
theorem dX5_readWare_19 : decode cX5_readWare 19 = .ok (.aload_n 0, 1) := by decide +kernel
theorem dX5_readWare_20 : decode cX5_readWare 20 = .ok (.invokevirtual 80, 3) := by decide +kernel
theorem dX5_readWare_23 : decode cX5_readWare 23 = .ok (.istore_n 2, 1) := by decide +kernel
theorem dX5_readWare_24 : decode cX5_readWare 24 = .ok (.aload_n 0, 1) := by decide +kernel
theorem dX5_readWare_25 : decode cX5_readWare 25 = .ok (.bipush 30, 2) := by decide +kernel
theorem dX5_readWare_27 : decode cX5_readWare 27 = .ok (.invokevirtual 60, 3) := by decide +kernel
theorem dX5_readWare_30 : decode cX5_readWare 30 = .ok (.istore_n 3, 1) := by decide +kernel
theorem dX5_readWare_31 : decode cX5_readWare 31 = .ok (.aload_n 0, 1) := by decide +kernel
theorem dX5_readWare_32 : decode cX5_readWare 32 = .ok (.bipush 9, 2) := by decide +kernel
theorem dX5_readWare_34 : decode cX5_readWare 34 = .ok (.invokevirtual 60, 3) := by decide +kernel
theorem dX5_readWare_37 : decode cX5_readWare 37 = .ok (.istore 4, 2) := by decide +kernel
theorem dX5_readWare_39 : decode cX5_readWare 39 = .ok (.aload_n 0, 1) := by decide +kernel
theorem dX5_readWare_40 : decode cX5_readWare 40 = .ok (.invokevirtual 67, 3) := by decide +kernel
theorem dX5_readWare_43 : decode cX5_readWare 43 = .ok (.aload_n 0, 1) := by decide +kernel
theorem dX5_readWare_44 : decode cX5_readWare 44 = .ok (.getfield 24, 3) := by decide +kernel
theorem dX5_readWare_47 : decode cX5_readWare 47 = .ok (.ifCond .ne 13, 3) := by decide +kernel
theorem dX5_readWare_50 : decode cX5_readWare 50 = .ok (.aload_n 1, 1) := by decide +kernel
theorem dX5_readWare_51 : decode cX5_readWare 51 = .ok (.iload_n 2, 1) := by decide +kernel
theorem dX5_readWare_52 : decode cX5_readWare 52 = .ok (.iload_n 3, 1) := by decide +kernel
theorem dX5_readWare_53 : decode cX5_readWare 53 = .ok (.iload 4, 2) := by decide +kernel
theorem dX5_readWare_55 : decode cX5_readWare 55 = .ok (.iconst 1, 1) := by decide +kernel
theorem dX5_readWare_56 : decode cX5_readWare 56 = .ok (.invokevirtual 84, 3) := by decide +kernel
theorem dX5_readWare_59 : decode cX5_readWare 59 = .ok (.pop, 1) := by decide +kernel
theorem dX5_readWare_60 : decode cX5_readWare 60 = .ok (.return_, 1) := by decide +kernel
theorem dX5_readSort_0 : decode cX5_readSort 0 = .ok (.iconst 1, 1) := by decide +kernel
theorem dX5_readSort_1 : decode cX5_readSort 1 = .ok (.istore_n 1, 1) := by decide +kernel
theorem dX5_readSort_2 : decode cX5_readSort 2 = .ok (.iload_n 1, 1) := by decide +kernel
theorem dX5_readSort_3 : decode cX5_readSort 3 = .ok (.iconst 5, 1) := by decide +kernel
theorem dX5_readSort_4 : decode cX5_readSort 4 = .ok (.if_icmp .gt 26, 3) := by decide +kernel
theorem dX5_readSort_7 : decode cX5_readSort 7 = .ok (.aload_n 0, 1) := by decide +kernel
theorem dX5_readSort_8 : decode cX5_readSort 8 = .ok (.iload_n 1, 1) := by decide +kernel
theorem dX5_readSort_9 : decode cX5_readSort 9 = .ok (.invokestatic 88, 3) := by decide +kernel
theorem dX5_readSort_12 : decode cX5_readSort 12 = .ok (.invokevirtual 39, 3) := by decide +kernel
theorem dX5_readSort_15 : decode cX5_readSort 15 = .ok (.ifCond .eq 9, 3) := by decide +kernel
theorem dX5_readSort_18 : decode cX5_readSort 18 = .ok (.aload_n 0, 1) := by decide +kernel
theorem dX5_readSort_19 : decode cX5_readSort 19 = .ok (.invokevirtual 30, 3) := by decide +kernel
theorem dX5_readSort_22 : decode cX5_readSort 22 = .ok (.iload_n 1, 1) := by decide +kernel
theorem dX5_readSort_23 : decode cX5_readSort 23 = .ok (.ireturn, 1) := by decide +kernel
theorem dX5_readSort_24 : decode cX5_readSort 24 = .ok (.iinc 1 1, 3) := by decide +kernel
theorem dX5_readSort_27 : decode cX5_readSort 27 = .ok (.goto (-25), 3) := by decide +kernel
theorem dX5_readSort_30 : decode cX5_readSort 30 = .ok (.aload_n 0, 1) := by decide +kernel
theorem dX5_readSort_31 : decode cX5_readSort 31 = .ok (.iconst 1, 1) := by decide +kernel
theorem dX5_readSort_32 : decode cX5_readSort 32 = .ok (.invokevirtual 54, 3) := by decide +kernel
theorem dX5_readSort_35 : decode cX5_readSort 35 = .ok (.iconst 0, 1) := by decide +kernel
theorem dX5_readSort_36 : decode cX5_readSort 36 = .ok (.ireturn, 1) := by decide +kernel
theorem dX5_wordOf_0 : decode cX5_wordOf 0 = .ok (.iload_n 0, 1) := by decide +kernel
theorem dX5_wordOf_1 : decode cX5_wordOf 1 = .ok (.tableswitch 43 1 4 #[31, 34, 37, 40], 31) := by decide +kernel
theorem dX5_wordOf_32 : decode cX5_wordOf 32 = .ok (.ldc 92, 2) := by decide +kernel
theorem dX5_wordOf_34 : decode cX5_wordOf 34 = .ok (.areturn, 1) := by decide +kernel
theorem dX5_wordOf_35 : decode cX5_wordOf 35 = .ok (.ldc 94, 2) := by decide +kernel
theorem dX5_wordOf_37 : decode cX5_wordOf 37 = .ok (.areturn, 1) := by decide +kernel
theorem dX5_wordOf_38 : decode cX5_wordOf 38 = .ok (.ldc 96, 2) := by decide +kernel
theorem dX5_wordOf_40 : decode cX5_wordOf 40 = .ok (.areturn, 1) := by decide +kernel
theorem dX5_wordOf_41 : decode cX5_wordOf 41 = .ok (.ldc 98, 2) := by decide +kernel
theorem dX5_wordOf_43 : decode cX5_wordOf 43 = .ok (.areturn, 1) := by decide +kernel
theorem dX5_wordOf_44 : decode cX5_wordOf 44 = .ok (.ldc 100, 2) := by decide +kernel
theorem dX5_wordOf_46 : decode cX5_wordOf 46 = .ok (.areturn, 1) := by decide +kernel
theorem dX5_readNumber_0 : decode cX5_readNumber 0 = .ok (.aload_n 0, 1) := by decide +kernel
theorem dX5_readNumber_1 : decode cX5_readNumber 1 = .ok (.getfield 51, 3) := by decide +kernel
theorem dX5_readNumber_4 : decode cX5_readNumber 4 = .ok (.iconst 1, 1) := by decide +kernel
theorem dX5_readNumber_5 : decode cX5_readNumber 5 = .ok (.if_icmp .eq 10, 3) := by decide +kernel
theorem dX5_readNumber_8 : decode cX5_readNumber 8 = .ok (.aload_n 0, 1) := by decide +kernel
theorem dX5_readNumber_9 : decode cX5_readNumber 9 = .ok (.iconst 1, 1) := by decide +kernel
theorem dX5_readNumber_10 : decode cX5_readNumber 10 = .ok (.invokevirtual 54, 3) := by decide +kernel
theorem dX5_readNumber_13 : decode cX5_readNumber 13 = .ok (.iconst 0, 1) := by decide +kernel
theorem dX5_readNumber_14 : decode cX5_readNumber 14 = .ok (.ireturn, 1) := by decide +kernel
theorem dX5_readNumber_15 : decode cX5_readNumber 15 = .ok (.aload_n 0, 1) := by decide +kernel
theorem dX5_readNumber_16 : decode cX5_readNumber 16 = .ok (.getfield 102, 3) := by decide +kernel
theorem dX5_readNumber_19 : decode cX5_readNumber 19 = .ok (.iload_n 1, 1) := by decide +kernel
theorem dX5_readNumber_20 : decode cX5_readNumber 20 = .ok (.if_icmp .le 10, 3) := by decide +kernel
theorem dX5_readNumber_23 : decode cX5_readNumber 23 = .ok (.aload_n 0, 1) := by decide +kernel
theorem dX5_readNumber_24 : decode cX5_readNumber 24 = .ok (.iconst 2, 1) := by decide +kernel
theorem dX5_readNumber_25 : decode cX5_readNumber 25 = .ok (.invokevirtual 54, 3) := by decide +kernel
theorem dX5_readNumber_28 : decode cX5_readNumber 28 = .ok (.iconst 0, 1) := by decide +kernel
theorem dX5_readNumber_29 : decode cX5_readNumber 29 = .ok (.ireturn, 1) := by decide +kernel
theorem dX5_readNumber_30 : decode cX5_readNumber 30 = .ok (.aload_n 0, 1) := by decide +kernel
theorem dX5_readNumber_31 : decode cX5_readNumber 31 = .ok (.getfield 102, 3) := by decide +kernel
theorem dX5_readNumber_34 : decode cX5_readNumber 34 = .ok (.istore_n 2, 1) := by decide +kernel
theorem dX5_readNumber_35 : decode cX5_readNumber 35 = .ok (.aload_n 0, 1) := by decide +kernel
theorem dX5_readNumber_36 : decode cX5_readNumber 36 = .ok (.invokevirtual 30, 3) := by decide +kernel
theorem dX5_readNumber_39 : decode cX5_readNumber 39 = .ok (.iload_n 2, 1) := by decide +kernel
theorem dX5_readNumber_40 : decode cX5_readNumber 40 = .ok (.ireturn, 1) := by decide +kernel
theorem dX5_readSign_0 : decode cX5_readSign 0 = .ok (.aload_n 0, 1) := by decide +kernel
theorem dX5_readSign_1 : decode cX5_readSign 1 = .ok (.getfield 51, 3) := by decide +kernel
theorem dX5_readSign_4 : decode cX5_readSign 4 = .ok (.iconst 2, 1) := by decide +kernel
theorem dX5_readSign_5 : decode cX5_readSign 5 = .ok (.if_icmp .ne 10, 3) := by decide +kernel
theorem dX5_readSign_8 : decode cX5_readSign 8 = .ok (.aload_n 0, 1) := by decide +kernel
theorem dX5_readSign_9 : decode cX5_readSign 9 = .ok (.invokevirtual 30, 3) := by decide +kernel
theorem dX5_readSign_12 : decode cX5_readSign 12 = .ok (.goto 8, 3) := by decide +kernel
theorem dX5_readSign_15 : decode cX5_readSign 15 = .ok (.aload_n 0, 1) := by decide +kernel
theorem dX5_readSign_16 : decode cX5_readSign 16 = .ok (.iconst 1, 1) := by decide +kernel
theorem dX5_readSign_17 : decode cX5_readSign 17 = .ok (.invokevirtual 54, 3) := by decide +kernel
theorem dX5_readSign_20 : decode cX5_readSign 20 = .ok (.return_, 1) := by decide +kernel
theorem dX5_fail_0 : decode cX5_fail 0 = .ok (.aload_n 0, 1) := by decide +kernel
theorem dX5_fail_1 : decode cX5_fail 1 = .ok (.getfield 24, 3) := by decide +kernel
theorem dX5_fail_4 : decode cX5_fail 4 = .ok (.ifCond .ne 16, 3) := by decide +kernel
theorem dX5_fail_7 : decode cX5_fail 7 = .ok (.aload_n 0, 1) := by decide +kernel
theorem dX5_fail_8 : decode cX5_fail 8 = .ok (.iload_n 1, 1) := by decide +kernel
theorem dX5_fail_9 : decode cX5_fail 9 = .ok (.putfield 24, 3) := by decide +kernel
theorem dX5_fail_12 : decode cX5_fail 12 = .ok (.aload_n 0, 1) := by decide +kernel
theorem dX5_fail_13 : decode cX5_fail 13 = .ok (.aload_n 0, 1) := by decide +kernel
theorem dX5_fail_14 : decode cX5_fail 14 = .ok (.getfield 105, 3) := by decide +kernel
theorem dX5_fail_17 : decode cX5_fail 17 = .ok (.putfield 108, 3) := by decide +kernel
theorem dX5_fail_20 : decode cX5_fail 20 = .ok (.aload_n 0, 1) := by decide +kernel
theorem dX5_fail_21 : decode cX5_fail 21 = .ok (.iconst 4, 1) := by decide +kernel
theorem dX5_fail_22 : decode cX5_fail 22 = .ok (.putfield 51, 3) := by decide +kernel
theorem dX5_fail_25 : decode cX5_fail 25 = .ok (.return_, 1) := by decide +kernel
theorem dX5_isWord_0 : decode cX5_isWord 0 = .ok (.aload_n 0, 1) := by decide +kernel
theorem dX5_isWord_1 : decode cX5_isWord 1 = .ok (.getfield 51, 3) := by decide +kernel
theorem dX5_isWord_4 : decode cX5_isWord 4 = .ok (.ifCond .ne 19, 3) := by decide +kernel
theorem dX5_isWord_7 : decode cX5_isWord 7 = .ok (.aload_n 0, 1) := by decide +kernel
theorem dX5_isWord_8 : decode cX5_isWord 8 = .ok (.getfield 27, 3) := by decide +kernel
theorem dX5_isWord_11 : decode cX5_isWord 11 = .ok (.aload_n 0, 1) := by decide +kernel
theorem dX5_isWord_12 : decode cX5_isWord 12 = .ok (.getfield 105, 3) := by decide +kernel
theorem dX5_isWord_15 : decode cX5_isWord 15 = .ok (.isub, 1) := by decide +kernel
theorem dX5_isWord_16 : decode cX5_isWord 16 = .ok (.aload_n 1, 1) := by decide +kernel
theorem dX5_isWord_17 : decode cX5_isWord 17 = .ok (.invokevirtual 111, 3) := by decide +kernel
theorem dX5_isWord_20 : decode cX5_isWord 20 = .ok (.if_icmp .eq 5, 3) := by decide +kernel
theorem dX5_isWord_23 : decode cX5_isWord 23 = .ok (.iconst 0, 1) := by decide +kernel
theorem dX5_isWord_24 : decode cX5_isWord 24 = .ok (.ireturn, 1) := by decide +kernel
theorem dX5_isWord_25 : decode cX5_isWord 25 = .ok (.iconst 0, 1) := by decide +kernel
theorem dX5_isWord_26 : decode cX5_isWord 26 = .ok (.istore_n 2, 1) := by decide +kernel
theorem dX5_isWord_27 : decode cX5_isWord 27 = .ok (.iload_n 2, 1) := by decide +kernel
theorem dX5_isWord_28 : decode cX5_isWord 28 = .ok (.aload_n 1, 1) := by decide +kernel
theorem dX5_isWord_29 : decode cX5_isWord 29 = .ok (.invokevirtual 111, 3) := by decide +kernel
theorem dX5_isWord_32 : decode cX5_isWord 32 = .ok (.if_icmp .ge 30, 3) := by decide +kernel
theorem dX5_isWord_35 : decode cX5_isWord 35 = .ok (.aload_n 0, 1) := by decide +kernel
theorem dX5_isWord_36 : decode cX5_isWord 36 = .ok (.getfield 9, 3) := by decide +kernel
theorem dX5_isWord_39 : decode cX5_isWord 39 = .ok (.aload_n 0, 1) := by decide +kernel
theorem dX5_isWord_40 : decode cX5_isWord 40 = .ok (.getfield 105, 3) := by decide +kernel
theorem dX5_isWord_43 : decode cX5_isWord 43 = .ok (.iload_n 2, 1) := by decide +kernel
theorem dX5_isWord_44 : decode cX5_isWord 44 = .ok (.iadd, 1) := by decide +kernel
theorem dX5_isWord_45 : decode cX5_isWord 45 = .ok (.iaload, 1) := by decide +kernel
theorem dX5_isWord_46 : decode cX5_isWord 46 = .ok (.aload_n 1, 1) := by decide +kernel
theorem dX5_isWord_47 : decode cX5_isWord 47 = .ok (.iload_n 2, 1) := by decide +kernel
theorem dX5_isWord_48 : decode cX5_isWord 48 = .ok (.invokevirtual 115, 3) := by decide +kernel
theorem dX5_isWord_51 : decode cX5_isWord 51 = .ok (.if_icmp .eq 5, 3) := by decide +kernel
theorem dX5_isWord_54 : decode cX5_isWord 54 = .ok (.iconst 0, 1) := by decide +kernel
theorem dX5_isWord_55 : decode cX5_isWord 55 = .ok (.ireturn, 1) := by decide +kernel
theorem dX5_isWord_56 : decode cX5_isWord 56 = .ok (.iinc 2 1, 3) := by decide +kernel
theorem dX5_isWord_59 : decode cX5_isWord 59 = .ok (.goto (-32), 3) := by decide +kernel
theorem dX5_isWord_62 : decode cX5_isWord 62 = .ok (.iconst 1, 1) := by decide +kernel
theorem dX5_isWord_63 : decode cX5_isWord 63 = .ok (.ireturn, 1) := by decide +kernel
theorem dX5_step_0 : decode cX5_step 0 = .ok (.aload_n 0, 1) := by decide +kernel
theorem dX5_step_1 : decode cX5_step 1 = .ok (.aload_n 0, 1) := by decide +kernel
theorem dX5_step_2 : decode cX5_step 2 = .ok (.getfield 27, 3) := by decide +kernel
theorem dX5_step_5 : decode cX5_step 5 = .ok (.putfield 105, 3) := by decide +kernel
theorem dX5_step_8 : decode cX5_step 8 = .ok (.aload_n 0, 1) := by decide +kernel
theorem dX5_step_9 : decode cX5_step 9 = .ok (.getfield 105, 3) := by decide +kernel
theorem dX5_step_12 : decode cX5_step 12 = .ok (.aload_n 0, 1) := by decide +kernel
theorem dX5_step_13 : decode cX5_step 13 = .ok (.getfield 15, 3) := by decide +kernel
theorem dX5_step_16 : decode cX5_step 16 = .ok (.if_icmp .ge 31, 3) := by decide +kernel
theorem dX5_step_19 : decode cX5_step 19 = .ok (.aload_n 0, 1) := by decide +kernel
theorem dX5_step_20 : decode cX5_step 20 = .ok (.getfield 9, 3) := by decide +kernel
theorem dX5_step_23 : decode cX5_step 23 = .ok (.aload_n 0, 1) := by decide +kernel
theorem dX5_step_24 : decode cX5_step 24 = .ok (.getfield 105, 3) := by decide +kernel
theorem dX5_step_27 : decode cX5_step 27 = .ok (.iaload, 1) := by decide +kernel
theorem dX5_step_28 : decode cX5_step 28 = .ok (.invokestatic 119, 3) := by decide +kernel
theorem dX5_step_31 : decode cX5_step 31 = .ok (.ifCond .eq 16, 3) := by decide +kernel
theorem dX5_step_34 : decode cX5_step 34 = .ok (.aload_n 0, 1) := by decide +kernel
theorem dX5_step_35 : decode cX5_step 35 = .ok (.dup, 1) := by decide +kernel
theorem dX5_step_36 : decode cX5_step 36 = .ok (.getfield 105, 3) := by decide +kernel
theorem dX5_step_39 : decode cX5_step 39 = .ok (.iconst 1, 1) := by decide +kernel
theorem dX5_step_40 : decode cX5_step 40 = .ok (.iadd, 1) := by decide +kernel
theorem dX5_step_41 : decode cX5_step 41 = .ok (.putfield 105, 3) := by decide +kernel
theorem dX5_step_44 : decode cX5_step 44 = .ok (.goto (-36), 3) := by decide +kernel
theorem dX5_step_47 : decode cX5_step 47 = .ok (.aload_n 0, 1) := by decide +kernel
theorem dX5_step_48 : decode cX5_step 48 = .ok (.aload_n 0, 1) := by decide +kernel
theorem dX5_step_49 : decode cX5_step 49 = .ok (.getfield 105, 3) := by decide +kernel
theorem dX5_step_52 : decode cX5_step 52 = .ok (.putfield 27, 3) := by decide +kernel
theorem dX5_step_55 : decode cX5_step 55 = .ok (.aload_n 0, 1) := by decide +kernel
theorem dX5_step_56 : decode cX5_step 56 = .ok (.getfield 105, 3) := by decide +kernel
theorem dX5_step_59 : decode cX5_step 59 = .ok (.aload_n 0, 1) := by decide +kernel
theorem dX5_step_60 : decode cX5_step 60 = .ok (.getfield 15, 3) := by decide +kernel
theorem dX5_step_63 : decode cX5_step 63 = .ok (.if_icmp .lt 11, 3) := by decide +kernel
theorem dX5_step_66 : decode cX5_step 66 = .ok (.aload_n 0, 1) := by decide +kernel
theorem dX5_step_67 : decode cX5_step 67 = .ok (.iconst 3, 1) := by decide +kernel
theorem dX5_step_68 : decode cX5_step 68 = .ok (.putfield 51, 3) := by decide +kernel
theorem dX5_step_71 : decode cX5_step 71 = .ok (.goto 80, 3) := by decide +kernel
theorem dX5_step_74 : decode cX5_step 74 = .ok (.aload_n 0, 1) := by decide +kernel
theorem dX5_step_75 : decode cX5_step 75 = .ok (.getfield 9, 3) := by decide +kernel
theorem dX5_step_78 : decode cX5_step 78 = .ok (.aload_n 0, 1) := by decide +kernel
theorem dX5_step_79 : decode cX5_step 79 = .ok (.getfield 105, 3) := by decide +kernel
theorem dX5_step_82 : decode cX5_step 82 = .ok (.iaload, 1) := by decide +kernel
theorem dX5_step_83 : decode cX5_step 83 = .ok (.invokestatic 123, 3) := by decide +kernel
theorem dX5_step_86 : decode cX5_step 86 = .ok (.ifCond .eq 10, 3) := by decide +kernel
theorem dX5_step_89 : decode cX5_step 89 = .ok (.aload_n 0, 1) := by decide +kernel
theorem dX5_step_90 : decode cX5_step 90 = .ok (.invokevirtual 126, 3) := by decide +kernel
theorem dX5_step_93 : decode cX5_step 93 = .ok (.goto 58, 3) := by decide +kernel
theorem dX5_step_96 : decode cX5_step 96 = .ok (.aload_n 0, 1) := by decide +kernel
theorem dX5_step_97 : decode cX5_step 97 = .ok (.getfield 9, 3) := by decide +kernel
theorem dX5_step_100 : decode cX5_step 100 = .ok (.aload_n 0, 1) := by decide +kernel
theorem dX5_step_101 : decode cX5_step 101 = .ok (.getfield 105, 3) := by decide +kernel
theorem dX5_step_104 : decode cX5_step 104 = .ok (.iaload, 1) := by decide +kernel
theorem dX5_step_105 : decode cX5_step 105 = .ok (.invokestatic 129, 3) := by decide +kernel
theorem dX5_step_108 : decode cX5_step 108 = .ok (.ifCond .eq 10, 3) := by decide +kernel
theorem dX5_step_111 : decode cX5_step 111 = .ok (.aload_n 0, 1) := by decide +kernel
theorem dX5_step_112 : decode cX5_step 112 = .ok (.invokevirtual 132, 3) := by decide +kernel
theorem dX5_step_115 : decode cX5_step 115 = .ok (.goto 36, 3) := by decide +kernel
theorem dX5_step_118 : decode cX5_step 118 = .ok (.aload_n 0, 1) := by decide +kernel
theorem dX5_step_119 : decode cX5_step 119 = .ok (.aload_n 0, 1) := by decide +kernel
theorem dX5_step_120 : decode cX5_step 120 = .ok (.getfield 9, 3) := by decide +kernel
theorem dX5_step_123 : decode cX5_step 123 = .ok (.aload_n 0, 1) := by decide +kernel
theorem dX5_step_124 : decode cX5_step 124 = .ok (.getfield 105, 3) := by decide +kernel
theorem dX5_step_127 : decode cX5_step 127 = .ok (.iaload, 1) := by decide +kernel
theorem dX5_step_128 : decode cX5_step 128 = .ok (.bipush 59, 2) := by decide +kernel
theorem dX5_step_130 : decode cX5_step 130 = .ok (.if_icmp .ne 7, 3) := by decide +kernel
theorem dX5_step_133 : decode cX5_step 133 = .ok (.iconst 2, 1) := by decide +kernel
theorem dX5_step_134 : decode cX5_step 134 = .ok (.goto 4, 3) := by decide +kernel
theorem dX5_step_137 : decode cX5_step 137 = .ok (.iconst 4, 1) := by decide +kernel
theorem dX5_step_138 : decode cX5_step 138 = .ok (.putfield 51, 3) := by decide +kernel
theorem dX5_step_141 : decode cX5_step 141 = .ok (.aload_n 0, 1) := by decide +kernel
theorem dX5_step_142 : decode cX5_step 142 = .ok (.aload_n 0, 1) := by decide +kernel
theorem dX5_step_143 : decode cX5_step 143 = .ok (.getfield 105, 3) := by decide +kernel
theorem dX5_step_146 : decode cX5_step 146 = .ok (.iconst 1, 1) := by decide +kernel
theorem dX5_step_147 : decode cX5_step 147 = .ok (.iadd, 1) := by decide +kernel
theorem dX5_step_148 : decode cX5_step 148 = .ok (.putfield 27, 3) := by decide +kernel
theorem dX5_step_151 : decode cX5_step 151 = .ok (.return_, 1) := by decide +kernel
theorem dX5_stepName_0 : decode cX5_stepName 0 = .ok (.aload_n 0, 1) := by decide +kernel
theorem dX5_stepName_1 : decode cX5_stepName 1 = .ok (.getfield 27, 3) := by decide +kernel
theorem dX5_stepName_4 : decode cX5_stepName 4 = .ok (.aload_n 0, 1) := by decide +kernel
theorem dX5_stepName_5 : decode cX5_stepName 5 = .ok (.getfield 15, 3) := by decide +kernel
theorem dX5_stepName_8 : decode cX5_stepName 8 = .ok (.if_icmp .ge 31, 3) := by decide +kernel
theorem dX5_stepName_11 : decode cX5_stepName 11 = .ok (.aload_n 0, 1) := by decide +kernel
theorem dX5_stepName_12 : decode cX5_stepName 12 = .ok (.getfield 9, 3) := by decide +kernel
theorem dX5_stepName_15 : decode cX5_stepName 15 = .ok (.aload_n 0, 1) := by decide +kernel
theorem dX5_stepName_16 : decode cX5_stepName 16 = .ok (.getfield 27, 3) := by decide +kernel
theorem dX5_stepName_19 : decode cX5_stepName 19 = .ok (.iaload, 1) := by decide +kernel
theorem dX5_stepName_20 : decode cX5_stepName 20 = .ok (.invokestatic 123, 3) := by decide +kernel
theorem dX5_stepName_23 : decode cX5_stepName 23 = .ok (.ifCond .eq 16, 3) := by decide +kernel
theorem dX5_stepName_26 : decode cX5_stepName 26 = .ok (.aload_n 0, 1) := by decide +kernel
theorem dX5_stepName_27 : decode cX5_stepName 27 = .ok (.dup, 1) := by decide +kernel
theorem dX5_stepName_28 : decode cX5_stepName 28 = .ok (.getfield 27, 3) := by decide +kernel
theorem dX5_stepName_31 : decode cX5_stepName 31 = .ok (.iconst 1, 1) := by decide +kernel
theorem dX5_stepName_32 : decode cX5_stepName 32 = .ok (.iadd, 1) := by decide +kernel
theorem dX5_stepName_33 : decode cX5_stepName 33 = .ok (.putfield 27, 3) := by decide +kernel
theorem dX5_stepName_36 : decode cX5_stepName 36 = .ok (.goto (-36), 3) := by decide +kernel
theorem dX5_stepName_39 : decode cX5_stepName 39 = .ok (.aload_n 0, 1) := by decide +kernel
theorem dX5_stepName_40 : decode cX5_stepName 40 = .ok (.iconst 0, 1) := by decide +kernel
theorem dX5_stepName_41 : decode cX5_stepName 41 = .ok (.putfield 51, 3) := by decide +kernel
theorem dX5_stepName_44 : decode cX5_stepName 44 = .ok (.return_, 1) := by decide +kernel
theorem dX5_stepNumber_0 : decode cX5_stepNumber 0 = .ok (.aload_n 0, 1) := by decide +kernel
theorem dX5_stepNumber_1 : decode cX5_stepNumber 1 = .ok (.iconst 0, 1) := by decide +kernel
theorem dX5_stepNumber_2 : decode cX5_stepNumber 2 = .ok (.putfield 102, 3) := by decide +kernel
theorem dX5_stepNumber_5 : decode cX5_stepNumber 5 = .ok (.aload_n 0, 1) := by decide +kernel
theorem dX5_stepNumber_6 : decode cX5_stepNumber 6 = .ok (.getfield 27, 3) := by decide +kernel
theorem dX5_stepNumber_9 : decode cX5_stepNumber 9 = .ok (.aload_n 0, 1) := by decide +kernel
theorem dX5_stepNumber_10 : decode cX5_stepNumber 10 = .ok (.getfield 15, 3) := by decide +kernel
theorem dX5_stepNumber_13 : decode cX5_stepNumber 13 = .ok (.if_icmp .ge 68, 3) := by decide +kernel
theorem dX5_stepNumber_16 : decode cX5_stepNumber 16 = .ok (.aload_n 0, 1) := by decide +kernel
theorem dX5_stepNumber_17 : decode cX5_stepNumber 17 = .ok (.getfield 9, 3) := by decide +kernel
theorem dX5_stepNumber_20 : decode cX5_stepNumber 20 = .ok (.aload_n 0, 1) := by decide +kernel
theorem dX5_stepNumber_21 : decode cX5_stepNumber 21 = .ok (.getfield 27, 3) := by decide +kernel
theorem dX5_stepNumber_24 : decode cX5_stepNumber 24 = .ok (.iaload, 1) := by decide +kernel
theorem dX5_stepNumber_25 : decode cX5_stepNumber 25 = .ok (.invokestatic 129, 3) := by decide +kernel
theorem dX5_stepNumber_28 : decode cX5_stepNumber 28 = .ok (.ifCond .eq 53, 3) := by decide +kernel
theorem dX5_stepNumber_31 : decode cX5_stepNumber 31 = .ok (.aload_n 0, 1) := by decide +kernel
theorem dX5_stepNumber_32 : decode cX5_stepNumber 32 = .ok (.getfield 27, 3) := by decide +kernel
theorem dX5_stepNumber_35 : decode cX5_stepNumber 35 = .ok (.aload_n 0, 1) := by decide +kernel
theorem dX5_stepNumber_36 : decode cX5_stepNumber 36 = .ok (.getfield 105, 3) := by decide +kernel
theorem dX5_stepNumber_39 : decode cX5_stepNumber 39 = .ok (.isub, 1) := by decide +kernel
theorem dX5_stepNumber_40 : decode cX5_stepNumber 40 = .ok (.iconst 3, 1) := by decide +kernel
theorem dX5_stepNumber_41 : decode cX5_stepNumber 41 = .ok (.if_icmp .ge 27, 3) := by decide +kernel
theorem dX5_stepNumber_44 : decode cX5_stepNumber 44 = .ok (.aload_n 0, 1) := by decide +kernel
theorem dX5_stepNumber_45 : decode cX5_stepNumber 45 = .ok (.bipush 10, 2) := by decide +kernel
theorem dX5_stepNumber_47 : decode cX5_stepNumber 47 = .ok (.aload_n 0, 1) := by decide +kernel
theorem dX5_stepNumber_48 : decode cX5_stepNumber 48 = .ok (.getfield 102, 3) := by decide +kernel
theorem dX5_stepNumber_51 : decode cX5_stepNumber 51 = .ok (.imul, 1) := by decide +kernel
theorem dX5_stepNumber_52 : decode cX5_stepNumber 52 = .ok (.aload_n 0, 1) := by decide +kernel
theorem dX5_stepNumber_53 : decode cX5_stepNumber 53 = .ok (.getfield 9, 3) := by decide +kernel
theorem dX5_stepNumber_56 : decode cX5_stepNumber 56 = .ok (.aload_n 0, 1) := by decide +kernel
theorem dX5_stepNumber_57 : decode cX5_stepNumber 57 = .ok (.getfield 27, 3) := by decide +kernel
theorem dX5_stepNumber_60 : decode cX5_stepNumber 60 = .ok (.iaload, 1) := by decide +kernel
theorem dX5_stepNumber_61 : decode cX5_stepNumber 61 = .ok (.iadd, 1) := by decide +kernel
theorem dX5_stepNumber_62 : decode cX5_stepNumber 62 = .ok (.bipush 48, 2) := by decide +kernel
theorem dX5_stepNumber_64 : decode cX5_stepNumber 64 = .ok (.isub, 1) := by decide +kernel
theorem dX5_stepNumber_65 : decode cX5_stepNumber 65 = .ok (.putfield 102, 3) := by decide +kernel
theorem dX5_stepNumber_68 : decode cX5_stepNumber 68 = .ok (.aload_n 0, 1) := by decide +kernel
theorem dX5_stepNumber_69 : decode cX5_stepNumber 69 = .ok (.dup, 1) := by decide +kernel
theorem dX5_stepNumber_70 : decode cX5_stepNumber 70 = .ok (.getfield 27, 3) := by decide +kernel
theorem dX5_stepNumber_73 : decode cX5_stepNumber 73 = .ok (.iconst 1, 1) := by decide +kernel
theorem dX5_stepNumber_74 : decode cX5_stepNumber 74 = .ok (.iadd, 1) := by decide +kernel
theorem dX5_stepNumber_75 : decode cX5_stepNumber 75 = .ok (.putfield 27, 3) := by decide +kernel
theorem dX5_stepNumber_78 : decode cX5_stepNumber 78 = .ok (.goto (-73), 3) := by decide +kernel
theorem dX5_stepNumber_81 : decode cX5_stepNumber 81 = .ok (.aload_n 0, 1) := by decide +kernel
theorem dX5_stepNumber_82 : decode cX5_stepNumber 82 = .ok (.aload_n 0, 1) := by decide +kernel
theorem dX5_stepNumber_83 : decode cX5_stepNumber 83 = .ok (.getfield 27, 3) := by decide +kernel
theorem dX5_stepNumber_86 : decode cX5_stepNumber 86 = .ok (.aload_n 0, 1) := by decide +kernel
theorem dX5_stepNumber_87 : decode cX5_stepNumber 87 = .ok (.getfield 105, 3) := by decide +kernel
theorem dX5_stepNumber_90 : decode cX5_stepNumber 90 = .ok (.isub, 1) := by decide +kernel
theorem dX5_stepNumber_91 : decode cX5_stepNumber 91 = .ok (.iconst 3, 1) := by decide +kernel
theorem dX5_stepNumber_92 : decode cX5_stepNumber 92 = .ok (.if_icmp .gt 7, 3) := by decide +kernel
theorem dX5_stepNumber_95 : decode cX5_stepNumber 95 = .ok (.iconst 1, 1) := by decide +kernel
theorem dX5_stepNumber_96 : decode cX5_stepNumber 96 = .ok (.goto 4, 3) := by decide +kernel
theorem dX5_stepNumber_99 : decode cX5_stepNumber 99 = .ok (.iconst 4, 1) := by decide +kernel
theorem dX5_stepNumber_100 : decode cX5_stepNumber 100 = .ok (.putfield 51, 3) := by decide +kernel
theorem dX5_stepNumber_103 : decode cX5_stepNumber 103 = .ok (.return_, 1) := by decide +kernel
theorem dX5_isBlank_0 : decode cX5_isBlank 0 = .ok (.iload_n 0, 1) := by decide +kernel
theorem dX5_isBlank_1 : decode cX5_isBlank 1 = .ok (.bipush 32, 2) := by decide +kernel
theorem dX5_isBlank_3 : decode cX5_isBlank 3 = .ok (.if_icmp .eq 9, 3) := by decide +kernel
theorem dX5_isBlank_6 : decode cX5_isBlank 6 = .ok (.iload_n 0, 1) := by decide +kernel
theorem dX5_isBlank_7 : decode cX5_isBlank 7 = .ok (.bipush 10, 2) := by decide +kernel
theorem dX5_isBlank_9 : decode cX5_isBlank 9 = .ok (.if_icmp .ne 7, 3) := by decide +kernel
theorem dX5_isBlank_12 : decode cX5_isBlank 12 = .ok (.iconst 1, 1) := by decide +kernel
theorem dX5_isBlank_13 : decode cX5_isBlank 13 = .ok (.goto 4, 3) := by decide +kernel
theorem dX5_isBlank_16 : decode cX5_isBlank 16 = .ok (.iconst 0, 1) := by decide +kernel
theorem dX5_isBlank_17 : decode cX5_isBlank 17 = .ok (.ireturn, 1) := by decide +kernel
theorem dX5_isLetter_0 : decode cX5_isLetter 0 = .ok (.iload_n 0, 1) := by decide +kernel
theorem dX5_isLetter_1 : decode cX5_isLetter 1 = .ok (.bipush 97, 2) := by decide +kernel
theorem dX5_isLetter_3 : decode cX5_isLetter 3 = .ok (.if_icmp .lt 13, 3) := by decide +kernel
theorem dX5_isLetter_6 : decode cX5_isLetter 6 = .ok (.iload_n 0, 1) := by decide +kernel
theorem dX5_isLetter_7 : decode cX5_isLetter 7 = .ok (.bipush 122, 2) := by decide +kernel
theorem dX5_isLetter_9 : decode cX5_isLetter 9 = .ok (.if_icmp .gt 7, 3) := by decide +kernel
theorem dX5_isLetter_12 : decode cX5_isLetter 12 = .ok (.iconst 1, 1) := by decide +kernel
theorem dX5_isLetter_13 : decode cX5_isLetter 13 = .ok (.goto 4, 3) := by decide +kernel
theorem dX5_isLetter_16 : decode cX5_isLetter 16 = .ok (.iconst 0, 1) := by decide +kernel
theorem dX5_isLetter_17 : decode cX5_isLetter 17 = .ok (.ireturn, 1) := by decide +kernel
theorem dX5_isFigure_0 : decode cX5_isFigure 0 = .ok (.iload_n 0, 1) := by decide +kernel
theorem dX5_isFigure_1 : decode cX5_isFigure 1 = .ok (.bipush 48, 2) := by decide +kernel
theorem dX5_isFigure_3 : decode cX5_isFigure 3 = .ok (.if_icmp .lt 13, 3) := by decide +kernel
theorem dX5_isFigure_6 : decode cX5_isFigure 6 = .ok (.iload_n 0, 1) := by decide +kernel
theorem dX5_isFigure_7 : decode cX5_isFigure 7 = .ok (.bipush 57, 2) := by decide +kernel
theorem dX5_isFigure_9 : decode cX5_isFigure 9 = .ok (.if_icmp .gt 7, 3) := by decide +kernel
theorem dX5_isFigure_12 : decode cX5_isFigure 12 = .ok (.iconst 1, 1) := by decide +kernel
theorem dX5_isFigure_13 : decode cX5_isFigure 13 = .ok (.goto 4, 3) := by decide +kernel
theorem dX5_isFigure_16 : decode cX5_isFigure 16 = .ok (.iconst 0, 1) := by decide +kernel
theorem dX5_isFigure_17 : decode cX5_isFigure 17 = .ok (.ireturn, 1) := by decide +kernel
theorem dX6_init_0 : decode cX6_init 0 = .ok (.aload_n 0, 1) := by decide +kernel
theorem dX6_init_1 : decode cX6_init 1 = .ok (.invokespecial 1, 3) := by decide +kernel
theorem dX6_init_4 : decode cX6_init 4 = .ok (.aload_n 0, 1) := by decide +kernel
theorem dX6_init_5 : decode cX6_init 5 = .ok (.bipush 8, 2) := by decide +kernel
theorem dX6_init_7 : decode cX6_init 7 = .ok (.anewarray 9, 3) := by decide +kernel
theorem dX6_init_10 : decode cX6_init 10 = .ok (.putfield 11, 3) := by decide +kernel
theorem dX6_init_13 : decode cX6_init 13 = .ok (.aload_n 0, 1) := by decide +kernel
theorem dX6_init_14 : decode cX6_init 14 = .ok (.new 15, 3) := by decide +kernel
theorem dX6_init_17 : decode cX6_init 17 = .ok (.dup, 1) := by decide +kernel
theorem dX6_init_18 : decode cX6_init 18 = .ok (.invokespecial 17, 3) := by decide +kernel
theorem dX6_init_21 : decode cX6_init 21 = .ok (.putfield 18, 3) := by decide +kernel
theorem dX6_init_24 : decode cX6_init 24 = .ok (.aload_n 0, 1) := by decide +kernel
theorem dX6_init_25 : decode cX6_init 25 = .ok (.new 22, 3) := by decide +kernel
theorem dX6_init_28 : decode cX6_init 28 = .ok (.dup, 1) := by decide +kernel
theorem dX6_init_29 : decode cX6_init 29 = .ok (.invokespecial 24, 3) := by decide +kernel
theorem dX6_init_32 : decode cX6_init 32 = .ok (.putfield 25, 3) := by decide +kernel
theorem dX6_init_35 : decode cX6_init 35 = .ok (.aload_n 0, 1) := by decide +kernel
theorem dX6_init_36 : decode cX6_init 36 = .ok (.new 22, 3) := by decide +kernel
theorem dX6_init_39 : decode cX6_init 39 = .ok (.dup, 1) := by decide +kernel
theorem dX6_init_40 : decode cX6_init 40 = .ok (.invokespecial 24, 3) := by decide +kernel
theorem dX6_init_43 : decode cX6_init 43 = .ok (.putfield 29, 3) := by decide +kernel
theorem dX6_init_46 : decode cX6_init 46 = .ok (.aload_n 0, 1) := by decide +kernel
theorem dX6_init_47 : decode cX6_init 47 = .ok (.iconst 2, 1) := by decide +kernel
theorem dX6_init_48 : decode cX6_init 48 = .ok (.anewarray 22, 3) := by decide +kernel
theorem dX6_init_51 : decode cX6_init 51 = .ok (.putfield 32, 3) := by decide +kernel
theorem dX6_init_54 : decode cX6_init 54 = .ok (.aload_n 0, 1) := by decide +kernel
theorem dX6_init_55 : decode cX6_init 55 = .ok (.new 36, 3) := by decide +kernel
theorem dX6_init_58 : decode cX6_init 58 = .ok (.dup, 1) := by decide +kernel
theorem dX6_init_59 : decode cX6_init 59 = .ok (.invokespecial 38, 3) := by decide +kernel
theorem dX6_init_62 : decode cX6_init 62 = .ok (.putfield 39, 3) := by decide +kernel
theorem dX6_init_65 : decode cX6_init 65 = .ok (.aload_n 0, 1) := by decide +kernel
theorem dX6_init_66 : decode cX6_init 66 = .ok (.new 43, 3) := by decide +kernel
theorem dX6_init_69 : decode cX6_init 69 = .ok (.dup, 1) := by decide +kernel
theorem dX6_init_70 : decode cX6_init 70 = .ok (.invokespecial 45, 3) := by decide +kernel
theorem dX6_init_73 : decode cX6_init 73 = .ok (.putfield 46, 3) := by decide +kernel
theorem dX6_init_76 : decode cX6_init 76 = .ok (.aload_n 0, 1) := by decide +kernel
theorem dX6_init_77 : decode cX6_init 77 = .ok (.new 50, 3) := by decide +kernel
theorem dX6_init_80 : decode cX6_init 80 = .ok (.dup, 1) := by decide +kernel
theorem dX6_init_81 : decode cX6_init 81 = .ok (.invokespecial 52, 3) := by decide +kernel
theorem dX6_init_84 : decode cX6_init 84 = .ok (.putfield 53, 3) := by decide +kernel
theorem dX6_init_87 : decode cX6_init 87 = .ok (.aload_n 0, 1) := by decide +kernel
theorem dX6_init_88 : decode cX6_init 88 = .ok (.bipush 16, 2) := by decide +kernel
theorem dX6_init_90 : decode cX6_init 90 = .ok (.newarray .int, 2) := by decide +kernel
theorem dX6_init_92 : decode cX6_init 92 = .ok (.putfield 57, 3) := by decide +kernel
theorem dX6_init_95 : decode cX6_init 95 = .ok (.iconst 0, 1) := by decide +kernel
theorem dX6_init_96 : decode cX6_init 96 = .ok (.istore_n 1, 1) := by decide +kernel
theorem dX6_init_97 : decode cX6_init 97 = .ok (.iload_n 1, 1) := by decide +kernel
theorem dX6_init_98 : decode cX6_init 98 = .ok (.bipush 8, 2) := by decide +kernel
theorem dX6_init_100 : decode cX6_init 100 = .ok (.if_icmp .ge 22, 3) := by decide +kernel
theorem dX6_init_103 : decode cX6_init 103 = .ok (.aload_n 0, 1) := by decide +kernel
theorem dX6_init_104 : decode cX6_init 104 = .ok (.getfield 11, 3) := by decide +kernel
theorem dX6_init_107 : decode cX6_init 107 = .ok (.iload_n 1, 1) := by decide +kernel
theorem dX6_init_108 : decode cX6_init 108 = .ok (.new 9, 3) := by decide +kernel
theorem dX6_init_111 : decode cX6_init 111 = .ok (.dup, 1) := by decide +kernel
theorem dX6_init_112 : decode cX6_init 112 = .ok (.invokespecial 61, 3) := by decide +kernel
theorem dX6_init_115 : decode cX6_init 115 = .ok (.aastore, 1) := by decide +kernel
theorem dX6_init_116 : decode cX6_init 116 = .ok (.iinc 1 1, 3) := by decide +kernel
theorem dX6_init_119 : decode cX6_init 119 = .ok (.goto (-22), 3) := by decide +kernel
theorem dX6_init_122 : decode cX6_init 122 = .ok (.iconst 0, 1) := by decide +kernel
theorem dX6_init_123 : decode cX6_init 123 = .ok (.istore_n 1, 1) := by decide +kernel
theorem dX6_init_124 : decode cX6_init 124 = .ok (.iload_n 1, 1) := by decide +kernel
theorem dX6_init_125 : decode cX6_init 125 = .ok (.iconst 2, 1) := by decide +kernel
theorem dX6_init_126 : decode cX6_init 126 = .ok (.if_icmp .ge 22, 3) := by decide +kernel
theorem dX6_init_129 : decode cX6_init 129 = .ok (.aload_n 0, 1) := by decide +kernel
theorem dX6_init_130 : decode cX6_init 130 = .ok (.getfield 32, 3) := by decide +kernel
theorem dX6_init_133 : decode cX6_init 133 = .ok (.iload_n 1, 1) := by decide +kernel
theorem dX6_init_134 : decode cX6_init 134 = .ok (.new 22, 3) := by decide +kernel
theorem dX6_init_137 : decode cX6_init 137 = .ok (.dup, 1) := by decide +kernel
theorem dX6_init_138 : decode cX6_init 138 = .ok (.invokespecial 24, 3) := by decide +kernel
theorem dX6_init_141 : decode cX6_init 141 = .ok (.aastore, 1) := by decide +kernel
theorem dX6_init_142 : decode cX6_init 142 = .ok (.iinc 1 1, 3) := by decide +kernel
theorem dX6_init_145 : decode cX6_init 145 = .ok (.goto (-21), 3) := by decide +kernel
theorem dX6_init_148 : decode cX6_init 148 = .ok (.return_, 1) := by decide +kernel
theorem dX6_row_0 : decode cX6_row 0 = .ok (.aload_n 0, 1) := by decide +kernel
theorem dX6_row_1 : decode cX6_row 1 = .ok (.iload_n 1, 1) := by decide +kernel
theorem dX6_row_2 : decode cX6_row 2 = .ok (.invokevirtual 62, 3) := by decide +kernel
theorem dX6_row_5 : decode cX6_row 5 = .ok (.ifCond .ne 18, 3) := by decide +kernel
theorem dX6_row_8 : decode cX6_row 8 = .ok (.iload_n 2, 1) := by decide +kernel
theorem dX6_row_9 : decode cX6_row 9 = .ok (.ifCond .lt 14, 3) := by decide +kernel
theorem dX6_row_12 : decode cX6_row 12 = .ok (.iload_n 2, 1) := by decide +kernel
theorem dX6_row_13 : decode cX6_row 13 = .ok (.iconst 2, 1) := by decide +kernel
theorem dX6_row_14 : decode cX6_row 14 = .ok (.if_icmp .gt 9, 3) := by decide +kernel
theorem dX6_row_17 : decode cX6_row 17 = .ok (.iload_n 3, 1) := by decide +kernel
theorem dX6_row_18 : decode cX6_row 18 = .ok (.bipush 40, 2) := by decide +kernel
theorem dX6_row_20 : decode cX6_row 20 = .ok (.if_icmp .le 6, 3) := by decide +kernel
theorem dX6_row_23 : decode cX6_row 23 = .ok (.ldc 66, 2) := by decide +kernel
theorem dX6_row_25 : decode cX6_row 25 = .ok (.ireturn, 1) := by decide +kernel
theorem dX6_row_26 : decode cX6_row 26 = .ok (.iload_n 3, 1) := by decide +kernel
theorem dX6_row_27 : decode cX6_row 27 = .ok (.ifCond .ge 9, 3) := by decide +kernel
theorem dX6_row_30 : decode cX6_row 30 = .ok (.aload_n 0, 1) := by decide +kernel
theorem dX6_row_31 : decode cX6_row 31 = .ok (.iconst 4, 1) := by decide +kernel
theorem dX6_row_32 : decode cX6_row 32 = .ok (.invokevirtual 67, 3) := by decide +kernel
theorem dX6_row_35 : decode cX6_row 35 = .ok (.ireturn, 1) := by decide +kernel
theorem dX6_row_36 : decode cX6_row 36 = .ok (.aload_n 0, 1) := by decide +kernel
theorem dX6_row_37 : decode cX6_row 37 = .ok (.getfield 11, 3) := by decide +kernel
theorem dX6_row_40 : decode cX6_row 40 = .ok (.iload_n 1, 1) := by decide +kernel
theorem dX6_row_41 : decode cX6_row 41 = .ok (.aaload, 1) := by decide +kernel
theorem dX6_row_42 : decode cX6_row 42 = .ok (.iload_n 2, 1) := by decide +kernel
theorem dX6_row_43 : decode cX6_row 43 = .ok (.iload_n 3, 1) := by decide +kernel
theorem dX6_row_44 : decode cX6_row 44 = .ok (.invokevirtual 71, 3) := by decide +kernel
theorem dX6_row_47 : decode cX6_row 47 = .ok (.aload_n 0, 1) := by decide +kernel
theorem dX6_row_48 : decode cX6_row 48 = .ok (.iload_n 3, 1) := by decide +kernel
theorem dX6_row_49 : decode cX6_row 49 = .ok (.invokevirtual 75, 3) := by decide +kernel
theorem dX6_row_52 : decode cX6_row 52 = .ok (.ireturn, 1) := by decide +kernel
theorem dX6_set_0 : decode cX6_set 0 = .ok (.aload_n 0, 1) := by decide +kernel
theorem dX6_set_1 : decode cX6_set 1 = .ok (.iload_n 1, 1) := by decide +kernel
theorem dX6_set_2 : decode cX6_set 2 = .ok (.invokevirtual 62, 3) := by decide +kernel
theorem dX6_set_5 : decode cX6_set 5 = .ok (.ifCond .eq 6, 3) := by decide +kernel
theorem dX6_set_8 : decode cX6_set 8 = .ok (.ldc 66, 2) := by decide +kernel
theorem dX6_set_10 : decode cX6_set 10 = .ok (.ireturn, 1) := by decide +kernel
theorem dX6_set_11 : decode cX6_set 11 = .ok (.aload_n 0, 1) := by decide +kernel
theorem dX6_set_12 : decode cX6_set 12 = .ok (.iload_n 1, 1) := by decide +kernel
theorem dX6_set_13 : decode cX6_set 13 = .ok (.iload_n 2, 1) := by decide +kernel
theorem dX6_set_14 : decode cX6_set 14 = .ok (.iconst 1, 1) := by decide +kernel
theorem dX6_set_15 : decode cX6_set 15 = .ok (.invokevirtual 78, 3) := by decide +kernel
theorem dX6_set_18 : decode cX6_set 18 = .ok (.istore 4, 2) := by decide +kernel
theorem dX6_set_20 : decode cX6_set 20 = .ok (.iload 4, 2) := by decide +kernel
theorem dX6_set_22 : decode cX6_set 22 = .ok (.ifCond .eq 10, 3) := by decide +kernel
theorem dX6_set_25 : decode cX6_set 25 = .ok (.aload_n 0, 1) := by decide +kernel
theorem dX6_set_26 : decode cX6_set 26 = .ok (.iload 4, 2) := by decide +kernel
theorem dX6_set_28 : decode cX6_set 28 = .ok (.invokevirtual 67, 3) := by decide +kernel
theorem dX6_set_31 : decode cX6_set 31 = .ok (.ireturn, 1) := by decide +kernel
theorem dX6_set_32 : decode cX6_set 32 = .ok (.aload_n 0, 1) := by decide +kernel
theorem dX6_set_33 : decode cX6_set 33 = .ok (.aload_n 0, 1) := by decide +kernel
theorem dX6_set_34 : decode cX6_set 34 = .ok (.getfield 11, 3) := by decide +kernel
theorem dX6_set_37 : decode cX6_set 37 = .ok (.iload_n 1, 1) := by decide +kernel
theorem dX6_set_38 : decode cX6_set 38 = .ok (.aaload, 1) := by decide +kernel
theorem dX6_set_39 : decode cX6_set 39 = .ok (.iload_n 2, 1) := by decide +kernel
theorem dX6_set_40 : decode cX6_set 40 = .ok (.iload_n 3, 1) := by decide +kernel
theorem dX6_set_41 : decode cX6_set 41 = .ok (.invokevirtual 82, 3) := by decide +kernel
theorem dX6_set_44 : decode cX6_set 44 = .ok (.invokevirtual 75, 3) := by decide +kernel
theorem dX6_set_47 : decode cX6_set 47 = .ok (.ireturn, 1) := by decide +kernel
theorem dX6_copy_0 : decode cX6_copy 0 = .ok (.aload_n 0, 1) := by decide +kernel
theorem dX6_copy_1 : decode cX6_copy 1 = .ok (.iload_n 1, 1) := by decide +kernel
theorem dX6_copy_2 : decode cX6_copy 2 = .ok (.invokevirtual 62, 3) := by decide +kernel
theorem dX6_copy_5 : decode cX6_copy 5 = .ok (.ifCond .ne 11, 3) := by decide +kernel
theorem dX6_copy_8 : decode cX6_copy 8 = .ok (.aload_n 0, 1) := by decide +kernel
theorem dX6_copy_9 : decode cX6_copy 9 = .ok (.iload_n 3, 1) := by decide +kernel
theorem dX6_copy_10 : decode cX6_copy 10 = .ok (.invokevirtual 62, 3) := by decide +kernel
theorem dX6_copy_13 : decode cX6_copy 13 = .ok (.ifCond .eq 6, 3) := by decide +kernel
theorem dX6_copy_16 : decode cX6_copy 16 = .ok (.ldc 66, 2) := by decide +kernel
theorem dX6_copy_18 : decode cX6_copy 18 = .ok (.ireturn, 1) := by decide +kernel
theorem dX6_copy_19 : decode cX6_copy 19 = .ok (.aload_n 0, 1) := by decide +kernel
theorem dX6_copy_20 : decode cX6_copy 20 = .ok (.getfield 11, 3) := by decide +kernel
theorem dX6_copy_23 : decode cX6_copy 23 = .ok (.iload_n 1, 1) := by decide +kernel
theorem dX6_copy_24 : decode cX6_copy 24 = .ok (.aaload, 1) := by decide +kernel
theorem dX6_copy_25 : decode cX6_copy 25 = .ok (.astore 6, 2) := by decide +kernel
theorem dX6_copy_27 : decode cX6_copy 27 = .ok (.aload_n 0, 1) := by decide +kernel
theorem dX6_copy_28 : decode cX6_copy 28 = .ok (.getfield 11, 3) := by decide +kernel
theorem dX6_copy_31 : decode cX6_copy 31 = .ok (.iload_n 3, 1) := by decide +kernel
theorem dX6_copy_32 : decode cX6_copy 32 = .ok (.aaload, 1) := by decide +kernel
theorem dX6_copy_33 : decode cX6_copy 33 = .ok (.astore 7, 2) := by decide +kernel
theorem dX6_copy_35 : decode cX6_copy 35 = .ok (.aload 6, 2) := by decide +kernel
theorem dX6_copy_37 : decode cX6_copy 37 = .ok (.getfield 86, 3) := by decide +kernel
theorem dX6_copy_40 : decode cX6_copy 40 = .ok (.ifCond .eq 11, 3) := by decide +kernel
theorem dX6_copy_43 : decode cX6_copy 43 = .ok (.aload 7, 2) := by decide +kernel
theorem dX6_copy_45 : decode cX6_copy 45 = .ok (.getfield 86, 3) := by decide +kernel
theorem dX6_copy_48 : decode cX6_copy 48 = .ok (.ifCond .ne 9, 3) := by decide +kernel
theorem dX6_copy_51 : decode cX6_copy 51 = .ok (.aload_n 0, 1) := by decide +kernel
theorem dX6_copy_52 : decode cX6_copy 52 = .ok (.iconst 1, 1) := by decide +kernel
theorem dX6_copy_53 : decode cX6_copy 53 = .ok (.invokevirtual 67, 3) := by decide +kernel
theorem dX6_copy_56 : decode cX6_copy 56 = .ok (.ireturn, 1) := by decide +kernel
theorem dX6_copy_57 : decode cX6_copy 57 = .ok (.aload 6, 2) := by decide +kernel
theorem dX6_copy_59 : decode cX6_copy 59 = .ok (.getfield 90, 3) := by decide +kernel
theorem dX6_copy_62 : decode cX6_copy 62 = .ok (.aload 7, 2) := by decide +kernel
theorem dX6_copy_64 : decode cX6_copy 64 = .ok (.getfield 90, 3) := by decide +kernel
theorem dX6_copy_67 : decode cX6_copy 67 = .ok (.if_icmp .eq 9, 3) := by decide +kernel
theorem dX6_copy_70 : decode cX6_copy 70 = .ok (.aload_n 0, 1) := by decide +kernel
theorem dX6_copy_71 : decode cX6_copy 71 = .ok (.iconst 5, 1) := by decide +kernel
theorem dX6_copy_72 : decode cX6_copy 72 = .ok (.invokevirtual 67, 3) := by decide +kernel
theorem dX6_copy_75 : decode cX6_copy 75 = .ok (.ireturn, 1) := by decide +kernel
theorem dX6_copy_76 : decode cX6_copy 76 = .ok (.aload 6, 2) := by decide +kernel
theorem dX6_copy_78 : decode cX6_copy 78 = .ok (.iload_n 2, 1) := by decide +kernel
theorem dX6_copy_79 : decode cX6_copy 79 = .ok (.iload 5, 2) := by decide +kernel
theorem dX6_copy_81 : decode cX6_copy 81 = .ok (.invokevirtual 94, 3) := by decide +kernel
theorem dX6_copy_84 : decode cX6_copy 84 = .ok (.ifCond .eq 15, 3) := by decide +kernel
theorem dX6_copy_87 : decode cX6_copy 87 = .ok (.aload 7, 2) := by decide +kernel
theorem dX6_copy_89 : decode cX6_copy 89 = .ok (.iload 4, 2) := by decide +kernel
theorem dX6_copy_91 : decode cX6_copy 91 = .ok (.iload 5, 2) := by decide +kernel
theorem dX6_copy_93 : decode cX6_copy 93 = .ok (.invokevirtual 94, 3) := by decide +kernel
theorem dX6_copy_96 : decode cX6_copy 96 = .ok (.ifCond .ne 9, 3) := by decide +kernel
theorem dX6_copy_99 : decode cX6_copy 99 = .ok (.aload_n 0, 1) := by decide +kernel
theorem dX6_copy_100 : decode cX6_copy 100 = .ok (.iconst 2, 1) := by decide +kernel
theorem dX6_copy_101 : decode cX6_copy 101 = .ok (.invokevirtual 67, 3) := by decide +kernel
theorem dX6_copy_104 : decode cX6_copy 104 = .ok (.ireturn, 1) := by decide +kernel
theorem dX6_copy_105 : decode cX6_copy 105 = .ok (.aload 6, 2) := by decide +kernel
theorem dX6_copy_107 : decode cX6_copy 107 = .ok (.getfield 98, 3) := by decide +kernel
theorem dX6_copy_110 : decode cX6_copy 110 = .ok (.iload_n 2, 1) := by decide +kernel
theorem dX6_copy_111 : decode cX6_copy 111 = .ok (.aload 7, 2) := by decide +kernel
theorem dX6_copy_113 : decode cX6_copy 113 = .ok (.getfield 98, 3) := by decide +kernel
theorem dX6_copy_116 : decode cX6_copy 116 = .ok (.iload 4, 2) := by decide +kernel
theorem dX6_copy_118 : decode cX6_copy 118 = .ok (.iload 5, 2) := by decide +kernel
theorem dX6_copy_120 : decode cX6_copy 120 = .ok (.invokestatic 101, 3) := by decide +kernel
theorem dX6_copy_123 : decode cX6_copy 123 = .ok (.aload_n 0, 1) := by decide +kernel
theorem dX6_copy_124 : decode cX6_copy 124 = .ok (.iload 5, 2) := by decide +kernel
theorem dX6_copy_126 : decode cX6_copy 126 = .ok (.invokevirtual 75, 3) := by decide +kernel
theorem dX6_copy_129 : decode cX6_copy 129 = .ok (.ireturn, 1) := by decide +kernel
theorem dX6_drop_0 : decode cX6_drop 0 = .ok (.aload_n 0, 1) := by decide +kernel
theorem dX6_drop_1 : decode cX6_drop 1 = .ok (.iload_n 1, 1) := by decide +kernel
theorem dX6_drop_2 : decode cX6_drop 2 = .ok (.invokevirtual 62, 3) := by decide +kernel
theorem dX6_drop_5 : decode cX6_drop 5 = .ok (.ifCond .eq 6, 3) := by decide +kernel
theorem dX6_drop_8 : decode cX6_drop 8 = .ok (.ldc 66, 2) := by decide +kernel
theorem dX6_drop_10 : decode cX6_drop 10 = .ok (.ireturn, 1) := by decide +kernel
theorem dX6_drop_11 : decode cX6_drop 11 = .ok (.aload_n 0, 1) := by decide +kernel
theorem dX6_drop_12 : decode cX6_drop 12 = .ok (.getfield 11, 3) := by decide +kernel
theorem dX6_drop_15 : decode cX6_drop 15 = .ok (.iload_n 1, 1) := by decide +kernel
theorem dX6_drop_16 : decode cX6_drop 16 = .ok (.aaload, 1) := by decide +kernel
theorem dX6_drop_17 : decode cX6_drop 17 = .ok (.getfield 86, 3) := by decide +kernel
theorem dX6_drop_20 : decode cX6_drop 20 = .ok (.ifCond .ne 9, 3) := by decide +kernel
theorem dX6_drop_23 : decode cX6_drop 23 = .ok (.aload_n 0, 1) := by decide +kernel
theorem dX6_drop_24 : decode cX6_drop 24 = .ok (.iconst 1, 1) := by decide +kernel
theorem dX6_drop_25 : decode cX6_drop 25 = .ok (.invokevirtual 67, 3) := by decide +kernel
theorem dX6_drop_28 : decode cX6_drop 28 = .ok (.ireturn, 1) := by decide +kernel
theorem dX6_drop_29 : decode cX6_drop 29 = .ok (.aload_n 0, 1) := by decide +kernel
theorem dX6_drop_30 : decode cX6_drop 30 = .ok (.getfield 11, 3) := by decide +kernel
theorem dX6_drop_33 : decode cX6_drop 33 = .ok (.iload_n 1, 1) := by decide +kernel
theorem dX6_drop_34 : decode cX6_drop 34 = .ok (.aaload, 1) := by decide +kernel
theorem dX6_drop_35 : decode cX6_drop 35 = .ok (.iconst 0, 1) := by decide +kernel
theorem dX6_drop_36 : decode cX6_drop 36 = .ok (.putfield 86, 3) := by decide +kernel
theorem dX6_drop_39 : decode cX6_drop 39 = .ok (.aload_n 0, 1) := by decide +kernel
theorem dX6_drop_40 : decode cX6_drop 40 = .ok (.aload_n 0, 1) := by decide +kernel
theorem dX6_drop_41 : decode cX6_drop 41 = .ok (.getfield 11, 3) := by decide +kernel
theorem dX6_drop_44 : decode cX6_drop 44 = .ok (.iload_n 1, 1) := by decide +kernel
theorem dX6_drop_45 : decode cX6_drop 45 = .ok (.aaload, 1) := by decide +kernel
theorem dX6_drop_46 : decode cX6_drop 46 = .ok (.getfield 107, 3) := by decide +kernel
theorem dX6_drop_49 : decode cX6_drop 49 = .ok (.invokevirtual 75, 3) := by decide +kernel
theorem dX6_drop_52 : decode cX6_drop 52 = .ok (.ireturn, 1) := by decide +kernel
theorem dX6_feed_0 : decode cX6_feed 0 = .ok (.iload_n 3, 1) := by decide +kernel
theorem dX6_feed_1 : decode cX6_feed 1 = .ok (.iconst 1, 1) := by decide +kernel
theorem dX6_feed_2 : decode cX6_feed 2 = .ok (.if_icmp .lt 9, 3) := by decide +kernel
theorem dX6_feed_5 : decode cX6_feed 5 = .ok (.iload_n 3, 1) := by decide +kernel
theorem dX6_feed_6 : decode cX6_feed 6 = .ok (.bipush 8, 2) := by decide +kernel
theorem dX6_feed_8 : decode cX6_feed 8 = .ok (.if_icmp .le 6, 3) := by decide +kernel
theorem dX6_feed_11 : decode cX6_feed 11 = .ok (.ldc 66, 2) := by decide +kernel
theorem dX6_feed_13 : decode cX6_feed 13 = .ok (.ireturn, 1) := by decide +kernel
theorem dX6_feed_14 : decode cX6_feed 14 = .ok (.aload_n 0, 1) := by decide +kernel
theorem dX6_feed_15 : decode cX6_feed 15 = .ok (.getfield 18, 3) := by decide +kernel
theorem dX6_feed_18 : decode cX6_feed 18 = .ok (.getfield 110, 3) := by decide +kernel
theorem dX6_feed_21 : decode cX6_feed 21 = .ok (.iload_n 3, 1) := by decide +kernel
theorem dX6_feed_22 : decode cX6_feed 22 = .ok (.iadd, 1) := by decide +kernel
theorem dX6_feed_23 : decode cX6_feed 23 = .ok (.sipush 400, 3) := by decide +kernel
theorem dX6_feed_26 : decode cX6_feed 26 = .ok (.if_icmp .le 6, 3) := by decide +kernel
theorem dX6_feed_29 : decode cX6_feed 29 = .ok (.ldc 113, 2) := by decide +kernel
theorem dX6_feed_31 : decode cX6_feed 31 = .ok (.ireturn, 1) := by decide +kernel
theorem dX6_feed_32 : decode cX6_feed 32 = .ok (.iload_n 3, 1) := by decide +kernel
theorem dX6_feed_33 : decode cX6_feed 33 = .ok (.iconst 1, 1) := by decide +kernel
theorem dX6_feed_34 : decode cX6_feed 34 = .ok (.isub, 1) := by decide +kernel
theorem dX6_feed_35 : decode cX6_feed 35 = .ok (.istore 4, 2) := by decide +kernel
theorem dX6_feed_37 : decode cX6_feed 37 = .ok (.iload 4, 2) := by decide +kernel
theorem dX6_feed_39 : decode cX6_feed 39 = .ok (.ifCond .lt 28, 3) := by decide +kernel
theorem dX6_feed_42 : decode cX6_feed 42 = .ok (.aload_n 0, 1) := by decide +kernel
theorem dX6_feed_43 : decode cX6_feed 43 = .ok (.getfield 18, 3) := by decide +kernel
theorem dX6_feed_46 : decode cX6_feed 46 = .ok (.lload_n 1, 1) := by decide +kernel
theorem dX6_feed_47 : decode cX6_feed 47 = .ok (.bipush 8, 2) := by decide +kernel
theorem dX6_feed_49 : decode cX6_feed 49 = .ok (.iload 4, 2) := by decide +kernel
theorem dX6_feed_51 : decode cX6_feed 51 = .ok (.imul, 1) := by decide +kernel
theorem dX6_feed_52 : decode cX6_feed 52 = .ok (.lshr, 1) := by decide +kernel
theorem dX6_feed_53 : decode cX6_feed 53 = .ok (.l2i, 1) := by decide +kernel
theorem dX6_feed_54 : decode cX6_feed 54 = .ok (.sipush 255, 3) := by decide +kernel
theorem dX6_feed_57 : decode cX6_feed 57 = .ok (.iand, 1) := by decide +kernel
theorem dX6_feed_58 : decode cX6_feed 58 = .ok (.invokevirtual 114, 3) := by decide +kernel
theorem dX6_feed_61 : decode cX6_feed 61 = .ok (.iinc 4 (-1), 3) := by decide +kernel
theorem dX6_feed_64 : decode cX6_feed 64 = .ok (.goto (-27), 3) := by decide +kernel
theorem dX6_feed_67 : decode cX6_feed 67 = .ok (.aload_n 0, 1) := by decide +kernel
theorem dX6_feed_68 : decode cX6_feed 68 = .ok (.getfield 18, 3) := by decide +kernel
theorem dX6_feed_71 : decode cX6_feed 71 = .ok (.getfield 110, 3) := by decide +kernel
theorem dX6_feed_74 : decode cX6_feed 74 = .ok (.ireturn, 1) := by decide +kernel
theorem dX6_market_0 : decode cX6_market 0 = .ok (.aload_n 0, 1) := by decide +kernel
theorem dX6_market_1 : decode cX6_market 1 = .ok (.getfield 18, 3) := by decide +kernel
theorem dX6_market_4 : decode cX6_market 4 = .ok (.aload_n 0, 1) := by decide +kernel
theorem dX6_market_5 : decode cX6_market 5 = .ok (.getfield 29, 3) := by decide +kernel
theorem dX6_market_8 : decode cX6_market 8 = .ok (.invokevirtual 118, 3) := by decide +kernel
theorem dX6_market_11 : decode cX6_market 11 = .ok (.ifCond .ne 25, 3) := by decide +kernel
theorem dX6_market_14 : decode cX6_market 14 = .ok (.aload_n 0, 1) := by decide +kernel
theorem dX6_market_15 : decode cX6_market 15 = .ok (.aload_n 0, 1) := by decide +kernel
theorem dX6_market_16 : decode cX6_market 16 = .ok (.getfield 18, 3) := by decide +kernel
theorem dX6_market_19 : decode cX6_market 19 = .ok (.getfield 122, 3) := by decide +kernel
theorem dX6_market_22 : decode cX6_market 22 = .ok (.putfield 125, 3) := by decide +kernel
theorem dX6_market_25 : decode cX6_market 25 = .ok (.ldc 128, 2) := by decide +kernel
theorem dX6_market_27 : decode cX6_market 27 = .ok (.aload_n 0, 1) := by decide +kernel
theorem dX6_market_28 : decode cX6_market 28 = .ok (.getfield 18, 3) := by decide +kernel
theorem dX6_market_31 : decode cX6_market 31 = .ok (.getfield 129, 3) := by decide +kernel
theorem dX6_market_34 : decode cX6_market 34 = .ok (.isub, 1) := by decide +kernel
theorem dX6_market_35 : decode cX6_market 35 = .ok (.ireturn, 1) := by decide +kernel
theorem dX6_market_36 : decode cX6_market 36 = .ok (.aload_n 0, 1) := by decide +kernel
theorem dX6_market_37 : decode cX6_market 37 = .ok (.getfield 25, 3) := by decide +kernel
theorem dX6_market_40 : decode cX6_market 40 = .ok (.aload_n 0, 1) := by decide +kernel
theorem dX6_market_41 : decode cX6_market 41 = .ok (.getfield 29, 3) := by decide +kernel
theorem dX6_market_44 : decode cX6_market 44 = .ok (.invokevirtual 132, 3) := by decide +kernel
theorem dX6_market_47 : decode cX6_market 47 = .ok (.aload_n 0, 1) := by decide +kernel
theorem dX6_market_48 : decode cX6_market 48 = .ok (.getfield 39, 3) := by decide +kernel
theorem dX6_market_51 : decode cX6_market 51 = .ok (.invokevirtual 136, 3) := by decide +kernel
theorem dX6_market_54 : decode cX6_market 54 = .ok (.aload_n 0, 1) := by decide +kernel
theorem dX6_market_55 : decode cX6_market 55 = .ok (.getfield 25, 3) := by decide +kernel
theorem dX6_market_58 : decode cX6_market 58 = .ok (.getfield 139, 3) := by decide +kernel
theorem dX6_market_61 : decode cX6_market 61 = .ok (.ireturn, 1) := by decide +kernel
theorem dX6_fault_0 : decode cX6_fault 0 = .ok (.aload_n 0, 1) := by decide +kernel
theorem dX6_fault_1 : decode cX6_fault 1 = .ok (.getfield 125, 3) := by decide +kernel
theorem dX6_fault_4 : decode cX6_fault 4 = .ok (.ireturn, 1) := by decide +kernel
theorem dX6_take_0 : decode cX6_take 0 = .ok (.aload_n 0, 1) := by decide +kernel
theorem dX6_take_1 : decode cX6_take 1 = .ok (.iload_n 1, 1) := by decide +kernel
theorem dX6_take_2 : decode cX6_take 2 = .ok (.invokevirtual 142, 3) := by decide +kernel
theorem dX6_take_5 : decode cX6_take 5 = .ok (.ifCond .ne 11, 3) := by decide +kernel
theorem dX6_take_8 : decode cX6_take 8 = .ok (.aload_n 0, 1) := by decide +kernel
theorem dX6_take_9 : decode cX6_take 9 = .ok (.iload_n 2, 1) := by decide +kernel
theorem dX6_take_10 : decode cX6_take 10 = .ok (.invokevirtual 145, 3) := by decide +kernel
theorem dX6_take_13 : decode cX6_take 13 = .ok (.ifCond .eq 6, 3) := by decide +kernel
theorem dX6_take_16 : decode cX6_take 16 = .ok (.ldc 66, 2) := by decide +kernel
theorem dX6_take_18 : decode cX6_take 18 = .ok (.ireturn, 1) := by decide +kernel
theorem dX6_take_19 : decode cX6_take 19 = .ok (.aload_n 0, 1) := by decide +kernel
theorem dX6_take_20 : decode cX6_take 20 = .ok (.getfield 25, 3) := by decide +kernel
theorem dX6_take_23 : decode cX6_take 23 = .ok (.getfield 148, 3) := by decide +kernel
theorem dX6_take_26 : decode cX6_take 26 = .ok (.ifCond .ne 6, 3) := by decide +kernel
theorem dX6_take_29 : decode cX6_take 29 = .ok (.ldc 151, 2) := by decide +kernel
theorem dX6_take_31 : decode cX6_take 31 = .ok (.ireturn, 1) := by decide +kernel
theorem dX6_take_32 : decode cX6_take 32 = .ok (.aload_n 0, 1) := by decide +kernel
theorem dX6_take_33 : decode cX6_take 33 = .ok (.getfield 25, 3) := by decide +kernel
theorem dX6_take_36 : decode cX6_take 36 = .ok (.iload_n 2, 1) := by decide +kernel
theorem dX6_take_37 : decode cX6_take 37 = .ok (.invokevirtual 152, 3) := by decide +kernel
theorem dX6_take_40 : decode cX6_take 40 = .ok (.istore_n 3, 1) := by decide +kernel
theorem dX6_take_41 : decode cX6_take 41 = .ok (.aload_n 0, 1) := by decide +kernel
theorem dX6_take_42 : decode cX6_take 42 = .ok (.getfield 25, 3) := by decide +kernel
theorem dX6_take_45 : decode cX6_take 45 = .ok (.getfield 155, 3) := by decide +kernel
theorem dX6_take_48 : decode cX6_take 48 = .ok (.iload_n 1, 1) := by decide +kernel
theorem dX6_take_49 : decode cX6_take 49 = .ok (.iaload, 1) := by decide +kernel
theorem dX6_take_50 : decode cX6_take 50 = .ok (.aload_n 0, 1) := by decide +kernel
theorem dX6_take_51 : decode cX6_take 51 = .ok (.getfield 25, 3) := by decide +kernel
theorem dX6_take_54 : decode cX6_take 54 = .ok (.iload_n 3, 1) := by decide +kernel
theorem dX6_take_55 : decode cX6_take 55 = .ok (.iconst 0, 1) := by decide +kernel
theorem dX6_take_56 : decode cX6_take 56 = .ok (.invokevirtual 158, 3) := by decide +kernel
theorem dX6_take_59 : decode cX6_take 59 = .ok (.if_icmp .ge 6, 3) := by decide +kernel
theorem dX6_take_62 : decode cX6_take 62 = .ok (.ldc 151, 2) := by decide +kernel
theorem dX6_take_64 : decode cX6_take 64 = .ok (.ireturn, 1) := by decide +kernel
theorem dX6_take_65 : decode cX6_take 65 = .ok (.aload_n 0, 1) := by decide +kernel
theorem dX6_take_66 : decode cX6_take 66 = .ok (.getfield 39, 3) := by decide +kernel
theorem dX6_take_69 : decode cX6_take 69 = .ok (.iconst 0, 1) := by decide +kernel
theorem dX6_take_70 : decode cX6_take 70 = .ok (.iload_n 2, 1) := by decide +kernel
theorem dX6_take_71 : decode cX6_take 71 = .ok (.iload_n 3, 1) := by decide +kernel
theorem dX6_take_72 : decode cX6_take 72 = .ok (.invokevirtual 161, 3) := by decide +kernel
theorem dX6_take_75 : decode cX6_take 75 = .ok (.aload_n 0, 1) := by decide +kernel
theorem dX6_take_76 : decode cX6_take 76 = .ok (.getfield 25, 3) := by decide +kernel
theorem dX6_take_79 : decode cX6_take 79 = .ok (.iload_n 1, 1) := by decide +kernel
theorem dX6_take_80 : decode cX6_take 80 = .ok (.iload_n 2, 1) := by decide +kernel
theorem dX6_take_81 : decode cX6_take 81 = .ok (.invokevirtual 165, 3) := by decide +kernel
theorem dX6_take_84 : decode cX6_take 84 = .ok (.ireturn, 1) := by decide +kernel
theorem dX6_lay_0 : decode cX6_lay 0 = .ok (.aload_n 0, 1) := by decide +kernel
theorem dX6_lay_1 : decode cX6_lay 1 = .ok (.getfield 25, 3) := by decide +kernel
theorem dX6_lay_4 : decode cX6_lay 4 = .ok (.getfield 168, 3) := by decide +kernel
theorem dX6_lay_7 : decode cX6_lay 7 = .ok (.ifCond .ne 6, 3) := by decide +kernel
theorem dX6_lay_10 : decode cX6_lay 10 = .ok (.ldc 151, 2) := by decide +kernel
theorem dX6_lay_12 : decode cX6_lay 12 = .ok (.ireturn, 1) := by decide +kernel
theorem dX6_lay_13 : decode cX6_lay 13 = .ok (.iload_n 1, 1) := by decide +kernel
theorem dX6_lay_14 : decode cX6_lay 14 = .ok (.iconst 1, 1) := by decide +kernel
theorem dX6_lay_15 : decode cX6_lay 15 = .ok (.if_icmp .lt 26, 3) := by decide +kernel
theorem dX6_lay_18 : decode cX6_lay 18 = .ok (.iload_n 1, 1) := by decide +kernel
theorem dX6_lay_19 : decode cX6_lay 19 = .ok (.iconst 5, 1) := by decide +kernel
theorem dX6_lay_20 : decode cX6_lay 20 = .ok (.if_icmp .gt 21, 3) := by decide +kernel
theorem dX6_lay_23 : decode cX6_lay 23 = .ok (.iload_n 2, 1) := by decide +kernel
theorem dX6_lay_24 : decode cX6_lay 24 = .ok (.ifCond .lt 17, 3) := by decide +kernel
theorem dX6_lay_27 : decode cX6_lay 27 = .ok (.iload_n 2, 1) := by decide +kernel
theorem dX6_lay_28 : decode cX6_lay 28 = .ok (.bipush 30, 2) := by decide +kernel
theorem dX6_lay_30 : decode cX6_lay 30 = .ok (.if_icmp .gt 11, 3) := by decide +kernel
theorem dX6_lay_33 : decode cX6_lay 33 = .ok (.aload_n 0, 1) := by decide +kernel
theorem dX6_lay_34 : decode cX6_lay 34 = .ok (.iload_n 3, 1) := by decide +kernel
theorem dX6_lay_35 : decode cX6_lay 35 = .ok (.invokevirtual 145, 3) := by decide +kernel
theorem dX6_lay_38 : decode cX6_lay 38 = .ok (.ifCond .eq 6, 3) := by decide +kernel
theorem dX6_lay_41 : decode cX6_lay 41 = .ok (.ldc 66, 2) := by decide +kernel
theorem dX6_lay_43 : decode cX6_lay 43 = .ok (.ireturn, 1) := by decide +kernel
theorem dX6_lay_44 : decode cX6_lay 44 = .ok (.aload_n 0, 1) := by decide +kernel
theorem dX6_lay_45 : decode cX6_lay 45 = .ok (.getfield 25, 3) := by decide +kernel
theorem dX6_lay_48 : decode cX6_lay 48 = .ok (.getfield 139, 3) := by decide +kernel
theorem dX6_lay_51 : decode cX6_lay 51 = .ok (.bipush 16, 2) := by decide +kernel
theorem dX6_lay_53 : decode cX6_lay 53 = .ok (.if_icmp .ne 6, 3) := by decide +kernel
theorem dX6_lay_56 : decode cX6_lay 56 = .ok (.ldc 113, 2) := by decide +kernel
theorem dX6_lay_58 : decode cX6_lay 58 = .ok (.ireturn, 1) := by decide +kernel
theorem dX6_lay_59 : decode cX6_lay 59 = .ok (.aload_n 0, 1) := by decide +kernel
theorem dX6_lay_60 : decode cX6_lay 60 = .ok (.getfield 25, 3) := by decide +kernel
theorem dX6_lay_63 : decode cX6_lay 63 = .ok (.iload_n 1, 1) := by decide +kernel
theorem dX6_lay_64 : decode cX6_lay 64 = .ok (.iload_n 2, 1) := by decide +kernel
theorem dX6_lay_65 : decode cX6_lay 65 = .ok (.iconst 0, 1) := by decide +kernel
theorem dX6_lay_66 : decode cX6_lay 66 = .ok (.iload_n 3, 1) := by decide +kernel
theorem dX6_lay_67 : decode cX6_lay 67 = .ok (.invokevirtual 171, 3) := by decide +kernel
theorem dX6_lay_70 : decode cX6_lay 70 = .ok (.istore 4, 2) := by decide +kernel
theorem dX6_lay_72 : decode cX6_lay 72 = .ok (.aload_n 0, 1) := by decide +kernel
theorem dX6_lay_73 : decode cX6_lay 73 = .ok (.getfield 39, 3) := by decide +kernel
theorem dX6_lay_76 : decode cX6_lay 76 = .ok (.iconst 1, 1) := by decide +kernel
theorem dX6_lay_77 : decode cX6_lay 77 = .ok (.iload_n 3, 1) := by decide +kernel
theorem dX6_lay_78 : decode cX6_lay 78 = .ok (.iload 4, 2) := by decide +kernel
theorem dX6_lay_80 : decode cX6_lay 80 = .ok (.invokevirtual 161, 3) := by decide +kernel
theorem dX6_lay_83 : decode cX6_lay 83 = .ok (.iload 4, 2) := by decide +kernel
theorem dX6_lay_85 : decode cX6_lay 85 = .ok (.ireturn, 1) := by decide +kernel
theorem dX6_day_0 : decode cX6_day 0 = .ok (.aload_n 0, 1) := by decide +kernel
theorem dX6_day_1 : decode cX6_day 1 = .ok (.getfield 25, 3) := by decide +kernel
theorem dX6_day_4 : decode cX6_day 4 = .ok (.getfield 168, 3) := by decide +kernel
theorem dX6_day_7 : decode cX6_day 7 = .ok (.ifCond .ne 6, 3) := by decide +kernel
theorem dX6_day_10 : decode cX6_day 10 = .ok (.ldc 151, 2) := by decide +kernel
theorem dX6_day_12 : decode cX6_day 12 = .ok (.ireturn, 1) := by decide +kernel
theorem dX6_day_13 : decode cX6_day 13 = .ok (.aload_n 0, 1) := by decide +kernel
theorem dX6_day_14 : decode cX6_day 14 = .ok (.getfield 25, 3) := by decide +kernel
theorem dX6_day_17 : decode cX6_day 17 = .ok (.getfield 175, 3) := by decide +kernel
theorem dX6_day_20 : decode cX6_day 20 = .ok (.sipush 999, 3) := by decide +kernel
theorem dX6_day_23 : decode cX6_day 23 = .ok (.if_icmp .lt 6, 3) := by decide +kernel
theorem dX6_day_26 : decode cX6_day 26 = .ok (.ldc 113, 2) := by decide +kernel
theorem dX6_day_28 : decode cX6_day 28 = .ok (.ireturn, 1) := by decide +kernel
theorem dX6_day_29 : decode cX6_day 29 = .ok (.aload_n 0, 1) := by decide +kernel
theorem dX6_day_30 : decode cX6_day 30 = .ok (.getfield 25, 3) := by decide +kernel
theorem dX6_day_33 : decode cX6_day 33 = .ok (.iconst 0, 1) := by decide +kernel
theorem dX6_day_34 : decode cX6_day 34 = .ok (.invokevirtual 178, 3) := by decide +kernel
theorem dX6_day_37 : decode cX6_day 37 = .ok (.istore_n 1, 1) := by decide +kernel
theorem dX6_day_38 : decode cX6_day 38 = .ok (.aload_n 0, 1) := by decide +kernel
theorem dX6_day_39 : decode cX6_day 39 = .ok (.getfield 39, 3) := by decide +kernel
theorem dX6_day_42 : decode cX6_day 42 = .ok (.iconst 2, 1) := by decide +kernel
theorem dX6_day_43 : decode cX6_day 43 = .ok (.ldc 181, 2) := by decide +kernel
theorem dX6_day_45 : decode cX6_day 45 = .ok (.ldc 181, 2) := by decide +kernel
theorem dX6_day_47 : decode cX6_day 47 = .ok (.invokevirtual 161, 3) := by decide +kernel
theorem dX6_day_50 : decode cX6_day 50 = .ok (.aload_n 0, 1) := by decide +kernel
theorem dX6_day_51 : decode cX6_day 51 = .ok (.getfield 25, 3) := by decide +kernel
theorem dX6_day_54 : decode cX6_day 54 = .ok (.iconst 1, 1) := by decide +kernel
theorem dX6_day_55 : decode cX6_day 55 = .ok (.invokevirtual 182, 3) := by decide +kernel
theorem dX6_day_58 : decode cX6_day 58 = .ok (.aload_n 0, 1) := by decide +kernel
theorem dX6_day_59 : decode cX6_day 59 = .ok (.getfield 25, 3) := by decide +kernel
theorem dX6_day_62 : decode cX6_day 62 = .ok (.iconst 0, 1) := by decide +kernel
theorem dX6_day_63 : decode cX6_day 63 = .ok (.invokevirtual 178, 3) := by decide +kernel
theorem dX6_day_66 : decode cX6_day 66 = .ok (.iload_n 1, 1) := by decide +kernel
theorem dX6_day_67 : decode cX6_day 67 = .ok (.iconst (-1), 1) := by decide +kernel
theorem dX6_day_68 : decode cX6_day 68 = .ok (.ixor, 1) := by decide +kernel
theorem dX6_day_69 : decode cX6_day 69 = .ok (.iand, 1) := by decide +kernel
theorem dX6_day_70 : decode cX6_day 70 = .ok (.ireturn, 1) := by decide +kernel
theorem dX6_undo_0 : decode cX6_undo 0 = .ok (.aload_n 0, 1) := by decide +kernel
theorem dX6_undo_1 : decode cX6_undo 1 = .ok (.getfield 39, 3) := by decide +kernel
theorem dX6_undo_4 : decode cX6_undo 4 = .ok (.getfield 185, 3) := by decide +kernel
theorem dX6_undo_7 : decode cX6_undo 7 = .ok (.ifCond .ne 6, 3) := by decide +kernel
theorem dX6_undo_10 : decode cX6_undo 10 = .ok (.ldc 151, 2) := by decide +kernel
theorem dX6_undo_12 : decode cX6_undo 12 = .ok (.ireturn, 1) := by decide +kernel
theorem dX6_undo_13 : decode cX6_undo 13 = .ok (.aload_n 0, 1) := by decide +kernel
theorem dX6_undo_14 : decode cX6_undo 14 = .ok (.getfield 39, 3) := by decide +kernel
theorem dX6_undo_17 : decode cX6_undo 17 = .ok (.invokevirtual 188, 3) := by decide +kernel
theorem dX6_undo_20 : decode cX6_undo 20 = .ok (.istore_n 1, 1) := by decide +kernel
theorem dX6_undo_21 : decode cX6_undo 21 = .ok (.aload_n 0, 1) := by decide +kernel
theorem dX6_undo_22 : decode cX6_undo 22 = .ok (.getfield 39, 3) := by decide +kernel
theorem dX6_undo_25 : decode cX6_undo 25 = .ok (.getfield 192, 3) := by decide +kernel
theorem dX6_undo_28 : decode cX6_undo 28 = .ok (.iload_n 1, 1) := by decide +kernel
theorem dX6_undo_29 : decode cX6_undo 29 = .ok (.iaload, 1) := by decide +kernel
theorem dX6_undo_30 : decode cX6_undo 30 = .ok (.lookupswitch 73 #[(0, 26), (1, 54)], 26) := by decide +kernel
theorem dX6_undo_56 : decode cX6_undo 56 = .ok (.aload_n 0, 1) := by decide +kernel
theorem dX6_undo_57 : decode cX6_undo 57 = .ok (.getfield 25, 3) := by decide +kernel
theorem dX6_undo_60 : decode cX6_undo 60 = .ok (.aload_n 0, 1) := by decide +kernel
theorem dX6_undo_61 : decode cX6_undo 61 = .ok (.getfield 39, 3) := by decide +kernel
theorem dX6_undo_64 : decode cX6_undo 64 = .ok (.getfield 195, 3) := by decide +kernel
theorem dX6_undo_67 : decode cX6_undo 67 = .ok (.iload_n 1, 1) := by decide +kernel
theorem dX6_undo_68 : decode cX6_undo 68 = .ok (.iaload, 1) := by decide +kernel
theorem dX6_undo_69 : decode cX6_undo 69 = .ok (.aload_n 0, 1) := by decide +kernel
theorem dX6_undo_70 : decode cX6_undo 70 = .ok (.getfield 39, 3) := by decide +kernel
theorem dX6_undo_73 : decode cX6_undo 73 = .ok (.getfield 197, 3) := by decide +kernel
theorem dX6_undo_76 : decode cX6_undo 76 = .ok (.iload_n 1, 1) := by decide +kernel
theorem dX6_undo_77 : decode cX6_undo 77 = .ok (.iaload, 1) := by decide +kernel
theorem dX6_undo_78 : decode cX6_undo 78 = .ok (.invokevirtual 200, 3) := by decide +kernel
theorem dX6_undo_81 : decode cX6_undo 81 = .ok (.goto 30, 3) := by decide +kernel
theorem dX6_undo_84 : decode cX6_undo 84 = .ok (.aload_n 0, 1) := by decide +kernel
theorem dX6_undo_85 : decode cX6_undo 85 = .ok (.getfield 25, 3) := by decide +kernel
theorem dX6_undo_88 : decode cX6_undo 88 = .ok (.aload_n 0, 1) := by decide +kernel
theorem dX6_undo_89 : decode cX6_undo 89 = .ok (.getfield 39, 3) := by decide +kernel
theorem dX6_undo_92 : decode cX6_undo 92 = .ok (.getfield 197, 3) := by decide +kernel
theorem dX6_undo_95 : decode cX6_undo 95 = .ok (.iload_n 1, 1) := by decide +kernel
theorem dX6_undo_96 : decode cX6_undo 96 = .ok (.iaload, 1) := by decide +kernel
theorem dX6_undo_97 : decode cX6_undo 97 = .ok (.invokevirtual 203, 3) := by decide +kernel
theorem dX6_undo_100 : decode cX6_undo 100 = .ok (.goto 11, 3) := by decide +kernel
theorem dX6_undo_103 : decode cX6_undo 103 = .ok (.aload_n 0, 1) := by decide +kernel
theorem dX6_undo_104 : decode cX6_undo 104 = .ok (.getfield 25, 3) := by decide +kernel
theorem dX6_undo_107 : decode cX6_undo 107 = .ok (.iconst (-1), 1) := by decide +kernel
theorem dX6_undo_108 : decode cX6_undo 108 = .ok (.invokevirtual 182, 3) := by decide +kernel
theorem dX6_undo_111 : decode cX6_undo 111 = .ok (.aload_n 0, 1) := by decide +kernel
theorem dX6_undo_112 : decode cX6_undo 112 = .ok (.getfield 39, 3) := by decide +kernel
theorem dX6_undo_115 : decode cX6_undo 115 = .ok (.getfield 185, 3) := by decide +kernel
theorem dX6_undo_118 : decode cX6_undo 118 = .ok (.ireturn, 1) := by decide +kernel
theorem dX6_ware_0 : decode cX6_ware 0 = .ok (.aload_n 0, 1) := by decide +kernel
theorem dX6_ware_1 : decode cX6_ware 1 = .ok (.iload_n 1, 1) := by decide +kernel
theorem dX6_ware_2 : decode cX6_ware 2 = .ok (.invokevirtual 206, 3) := by decide +kernel
theorem dX6_ware_5 : decode cX6_ware 5 = .ok (.ifCond .eq 6, 3) := by decide +kernel
theorem dX6_ware_8 : decode cX6_ware 8 = .ok (.ldc 66, 2) := by decide +kernel
theorem dX6_ware_10 : decode cX6_ware 10 = .ok (.ireturn, 1) := by decide +kernel
theorem dX6_ware_11 : decode cX6_ware 11 = .ok (.iload_n 2, 1) := by decide +kernel
theorem dX6_ware_12 : decode cX6_ware 12 = .ok (.tableswitch 107 0 5 #[40, 50, 60, 70, 79, 89], 40) := by decide +kernel
theorem dX6_ware_52 : decode cX6_ware 52 = .ok (.aload_n 0, 1) := by decide +kernel
theorem dX6_ware_53 : decode cX6_ware 53 = .ok (.getfield 25, 3) := by decide +kernel
theorem dX6_ware_56 : decode cX6_ware 56 = .ok (.getfield 209, 3) := by decide +kernel
theorem dX6_ware_59 : decode cX6_ware 59 = .ok (.iload_n 1, 1) := by decide +kernel
theorem dX6_ware_60 : decode cX6_ware 60 = .ok (.iaload, 1) := by decide +kernel
theorem dX6_ware_61 : decode cX6_ware 61 = .ok (.ireturn, 1) := by decide +kernel
theorem dX6_ware_62 : decode cX6_ware 62 = .ok (.aload_n 0, 1) := by decide +kernel
theorem dX6_ware_63 : decode cX6_ware 63 = .ok (.getfield 25, 3) := by decide +kernel
theorem dX6_ware_66 : decode cX6_ware 66 = .ok (.getfield 212, 3) := by decide +kernel
theorem dX6_ware_69 : decode cX6_ware 69 = .ok (.iload_n 1, 1) := by decide +kernel
theorem dX6_ware_70 : decode cX6_ware 70 = .ok (.iaload, 1) := by decide +kernel
theorem dX6_ware_71 : decode cX6_ware 71 = .ok (.ireturn, 1) := by decide +kernel
theorem dX6_ware_72 : decode cX6_ware 72 = .ok (.aload_n 0, 1) := by decide +kernel
theorem dX6_ware_73 : decode cX6_ware 73 = .ok (.getfield 25, 3) := by decide +kernel
theorem dX6_ware_76 : decode cX6_ware 76 = .ok (.iload_n 1, 1) := by decide +kernel
theorem dX6_ware_77 : decode cX6_ware 77 = .ok (.iconst 0, 1) := by decide +kernel
theorem dX6_ware_78 : decode cX6_ware 78 = .ok (.invokevirtual 158, 3) := by decide +kernel
theorem dX6_ware_81 : decode cX6_ware 81 = .ok (.ireturn, 1) := by decide +kernel
theorem dX6_ware_82 : decode cX6_ware 82 = .ok (.aload_n 0, 1) := by decide +kernel
theorem dX6_ware_83 : decode cX6_ware 83 = .ok (.getfield 25, 3) := by decide +kernel
theorem dX6_ware_86 : decode cX6_ware 86 = .ok (.iload_n 1, 1) := by decide +kernel
theorem dX6_ware_87 : decode cX6_ware 87 = .ok (.invokevirtual 215, 3) := by decide +kernel
theorem dX6_ware_90 : decode cX6_ware 90 = .ok (.ireturn, 1) := by decide +kernel
theorem dX6_ware_91 : decode cX6_ware 91 = .ok (.aload_n 0, 1) := by decide +kernel
theorem dX6_ware_92 : decode cX6_ware 92 = .ok (.getfield 25, 3) := by decide +kernel
theorem dX6_ware_95 : decode cX6_ware 95 = .ok (.getfield 218, 3) := by decide +kernel
theorem dX6_ware_98 : decode cX6_ware 98 = .ok (.iload_n 1, 1) := by decide +kernel
theorem dX6_ware_99 : decode cX6_ware 99 = .ok (.iaload, 1) := by decide +kernel
theorem dX6_ware_100 : decode cX6_ware 100 = .ok (.ireturn, 1) := by decide +kernel
theorem dX6_ware_101 : decode cX6_ware 101 = .ok (.aload_n 0, 1) := by decide +kernel
theorem dX6_ware_102 : decode cX6_ware 102 = .ok (.getfield 25, 3) := by decide +kernel
theorem dX6_ware_105 : decode cX6_ware 105 = .ok (.iload_n 1, 1) := by decide +kernel
theorem dX6_ware_106 : decode cX6_ware 106 = .ok (.iconst 0, 1) := by decide +kernel
theorem dX6_ware_107 : decode cX6_ware 107 = .ok (.invokevirtual 158, 3) := by decide +kernel
theorem dX6_ware_110 : decode cX6_ware 110 = .ok (.ifCond .ne 7, 3) := by decide +kernel
theorem dX6_ware_113 : decode cX6_ware 113 = .ok (.iconst 1, 1) := by decide +kernel
theorem dX6_ware_114 : decode cX6_ware 114 = .ok (.goto 4, 3) := by decide +kernel
theorem dX6_ware_117 : decode cX6_ware 117 = .ok (.iconst 0, 1) := by decide +kernel
theorem dX6_ware_118 : decode cX6_ware 118 = .ok (.ireturn, 1) := by decide +kernel
theorem dX6_ware_119 : decode cX6_ware 119 = .ok (.ldc 66, 2) := by decide +kernel
theorem dX6_ware_121 : decode cX6_ware 121 = .ok (.ireturn, 1) := by decide +kernel
theorem dX6_buyer_0 : decode cX6_buyer 0 = .ok (.aload_n 0, 1) := by decide +kernel
theorem dX6_buyer_1 : decode cX6_buyer 1 = .ok (.iload_n 1, 1) := by decide +kernel
theorem dX6_buyer_2 : decode cX6_buyer 2 = .ok (.invokevirtual 142, 3) := by decide +kernel
theorem dX6_buyer_5 : decode cX6_buyer 5 = .ok (.ifCond .eq 6, 3) := by decide +kernel
theorem dX6_buyer_8 : decode cX6_buyer 8 = .ok (.ldc 66, 2) := by decide +kernel
theorem dX6_buyer_10 : decode cX6_buyer 10 = .ok (.ireturn, 1) := by decide +kernel
theorem dX6_buyer_11 : decode cX6_buyer 11 = .ok (.iload_n 2, 1) := by decide +kernel
theorem dX6_buyer_12 : decode cX6_buyer 12 = .ok (.tableswitch 72 0 3 #[32, 42, 52, 62], 32) := by decide +kernel
theorem dX6_buyer_44 : decode cX6_buyer 44 = .ok (.aload_n 0, 1) := by decide +kernel
theorem dX6_buyer_45 : decode cX6_buyer 45 = .ok (.getfield 25, 3) := by decide +kernel
theorem dX6_buyer_48 : decode cX6_buyer 48 = .ok (.getfield 221, 3) := by decide +kernel
theorem dX6_buyer_51 : decode cX6_buyer 51 = .ok (.iload_n 1, 1) := by decide +kernel
theorem dX6_buyer_52 : decode cX6_buyer 52 = .ok (.iaload, 1) := by decide +kernel
theorem dX6_buyer_53 : decode cX6_buyer 53 = .ok (.ireturn, 1) := by decide +kernel
theorem dX6_buyer_54 : decode cX6_buyer 54 = .ok (.aload_n 0, 1) := by decide +kernel
theorem dX6_buyer_55 : decode cX6_buyer 55 = .ok (.getfield 25, 3) := by decide +kernel
theorem dX6_buyer_58 : decode cX6_buyer 58 = .ok (.getfield 155, 3) := by decide +kernel
theorem dX6_buyer_61 : decode cX6_buyer 61 = .ok (.iload_n 1, 1) := by decide +kernel
theorem dX6_buyer_62 : decode cX6_buyer 62 = .ok (.iaload, 1) := by decide +kernel
theorem dX6_buyer_63 : decode cX6_buyer 63 = .ok (.ireturn, 1) := by decide +kernel
theorem dX6_buyer_64 : decode cX6_buyer 64 = .ok (.aload_n 0, 1) := by decide +kernel
theorem dX6_buyer_65 : decode cX6_buyer 65 = .ok (.getfield 25, 3) := by decide +kernel
theorem dX6_buyer_68 : decode cX6_buyer 68 = .ok (.getfield 224, 3) := by decide +kernel
theorem dX6_buyer_71 : decode cX6_buyer 71 = .ok (.iload_n 1, 1) := by decide +kernel
theorem dX6_buyer_72 : decode cX6_buyer 72 = .ok (.iaload, 1) := by decide +kernel
theorem dX6_buyer_73 : decode cX6_buyer 73 = .ok (.ireturn, 1) := by decide +kernel
theorem dX6_buyer_74 : decode cX6_buyer 74 = .ok (.aload_n 0, 1) := by decide +kernel
theorem dX6_buyer_75 : decode cX6_buyer 75 = .ok (.getfield 25, 3) := by decide +kernel
theorem dX6_buyer_78 : decode cX6_buyer 78 = .ok (.getfield 227, 3) := by decide +kernel
theorem dX6_buyer_81 : decode cX6_buyer 81 = .ok (.iload_n 1, 1) := by decide +kernel
theorem dX6_buyer_82 : decode cX6_buyer 82 = .ok (.iaload, 1) := by decide +kernel
theorem dX6_buyer_83 : decode cX6_buyer 83 = .ok (.ireturn, 1) := by decide +kernel
theorem dX6_buyer_84 : decode cX6_buyer 84 = .ok (.ldc 66, 2) := by decide +kernel
theorem dX6_buyer_86 : decode cX6_buyer 86 = .ok (.ireturn, 1) := by decide +kernel
theorem dX6_worth_0 : decode cX6_worth 0 = .ok (.aload_n 0, 1) := by decide +kernel
theorem dX6_worth_1 : decode cX6_worth 1 = .ok (.iload_n 1, 1) := by decide +kernel
theorem dX6_worth_2 : decode cX6_worth 2 = .ok (.invokevirtual 206, 3) := by decide +kernel
theorem dX6_worth_5 : decode cX6_worth 5 = .ok (.ifCond .ne 11, 3) := by decide +kernel
theorem dX6_worth_8 : decode cX6_worth 8 = .ok (.aload_n 0, 1) := by decide +kernel
theorem dX6_worth_9 : decode cX6_worth 9 = .ok (.iload_n 2, 1) := by decide +kernel
theorem dX6_worth_10 : decode cX6_worth 10 = .ok (.invokevirtual 142, 3) := by decide +kernel
theorem dX6_worth_13 : decode cX6_worth 13 = .ok (.ifCond .eq 6, 3) := by decide +kernel
theorem dX6_worth_16 : decode cX6_worth 16 = .ok (.ldc 66, 2) := by decide +kernel
theorem dX6_worth_18 : decode cX6_worth 18 = .ok (.ireturn, 1) := by decide +kernel
theorem dX6_worth_19 : decode cX6_worth 19 = .ok (.aload_n 0, 1) := by decide +kernel
theorem dX6_worth_20 : decode cX6_worth 20 = .ok (.getfield 25, 3) := by decide +kernel
theorem dX6_worth_23 : decode cX6_worth 23 = .ok (.iload_n 2, 1) := by decide +kernel
theorem dX6_worth_24 : decode cX6_worth 24 = .ok (.iload_n 1, 1) := by decide +kernel
theorem dX6_worth_25 : decode cX6_worth 25 = .ok (.iconst 0, 1) := by decide +kernel
theorem dX6_worth_26 : decode cX6_worth 26 = .ok (.invokevirtual 230, 3) := by decide +kernel
theorem dX6_worth_29 : decode cX6_worth 29 = .ok (.ireturn, 1) := by decide +kernel
theorem dX6_best_0 : decode cX6_best 0 = .ok (.aload_n 0, 1) := by decide +kernel
theorem dX6_best_1 : decode cX6_best 1 = .ok (.iload_n 1, 1) := by decide +kernel
theorem dX6_best_2 : decode cX6_best 2 = .ok (.iload_n 2, 1) := by decide +kernel
theorem dX6_best_3 : decode cX6_best 3 = .ok (.invokevirtual 233, 3) := by decide +kernel
theorem dX6_best_6 : decode cX6_best 6 = .ok (.ifCond .ne 12, 3) := by decide +kernel
theorem dX6_best_9 : decode cX6_best 9 = .ok (.iload_n 3, 1) := by decide +kernel
theorem dX6_best_10 : decode cX6_best 10 = .ok (.ifCond .lt 8, 3) := by decide +kernel
theorem dX6_best_13 : decode cX6_best 13 = .ok (.iload_n 3, 1) := by decide +kernel
theorem dX6_best_14 : decode cX6_best 14 = .ok (.iconst 2, 1) := by decide +kernel
theorem dX6_best_15 : decode cX6_best 15 = .ok (.if_icmp .le 6, 3) := by decide +kernel
theorem dX6_best_18 : decode cX6_best 18 = .ok (.ldc 66, 2) := by decide +kernel
theorem dX6_best_20 : decode cX6_best 20 = .ok (.ireturn, 1) := by decide +kernel
theorem dX6_best_21 : decode cX6_best 21 = .ok (.aload_n 0, 1) := by decide +kernel
theorem dX6_best_22 : decode cX6_best 22 = .ok (.getfield 46, 3) := by decide +kernel
theorem dX6_best_25 : decode cX6_best 25 = .ok (.aload_n 0, 1) := by decide +kernel
theorem dX6_best_26 : decode cX6_best 26 = .ok (.getfield 25, 3) := by decide +kernel
theorem dX6_best_29 : decode cX6_best 29 = .ok (.iload_n 1, 1) := by decide +kernel
theorem dX6_best_30 : decode cX6_best 30 = .ok (.iload_n 2, 1) := by decide +kernel
theorem dX6_best_31 : decode cX6_best 31 = .ok (.invokevirtual 236, 3) := by decide +kernel
theorem dX6_best_34 : decode cX6_best 34 = .ok (.aload_n 0, 1) := by decide +kernel
theorem dX6_best_35 : decode cX6_best 35 = .ok (.getfield 46, 3) := by decide +kernel
theorem dX6_best_38 : decode cX6_best 38 = .ok (.iconst 0, 1) := by decide +kernel
theorem dX6_best_39 : decode cX6_best 39 = .ok (.invokevirtual 240, 3) := by decide +kernel
theorem dX6_best_42 : decode cX6_best 42 = .ok (.aload_n 0, 1) := by decide +kernel
theorem dX6_best_43 : decode cX6_best 43 = .ok (.getfield 46, 3) := by decide +kernel
theorem dX6_best_46 : decode cX6_best 46 = .ok (.invokevirtual 243, 3) := by decide +kernel
theorem dX6_best_49 : decode cX6_best 49 = .ok (.iload_n 3, 1) := by decide +kernel
theorem dX6_best_50 : decode cX6_best 50 = .ok (.lookupswitch 42 #[(0, 26), (1, 34)], 26) := by decide +kernel
theorem dX6_best_76 : decode cX6_best 76 = .ok (.aload_n 0, 1) := by decide +kernel
theorem dX6_best_77 : decode cX6_best 77 = .ok (.getfield 46, 3) := by decide +kernel
theorem dX6_best_80 : decode cX6_best 80 = .ok (.invokevirtual 246, 3) := by decide +kernel
theorem dX6_best_83 : decode cX6_best 83 = .ok (.ireturn, 1) := by decide +kernel
theorem dX6_best_84 : decode cX6_best 84 = .ok (.aload_n 0, 1) := by decide +kernel
theorem dX6_best_85 : decode cX6_best 85 = .ok (.getfield 46, 3) := by decide +kernel
theorem dX6_best_88 : decode cX6_best 88 = .ok (.invokevirtual 249, 3) := by decide +kernel
theorem dX6_best_91 : decode cX6_best 91 = .ok (.ireturn, 1) := by decide +kernel
theorem dX6_best_92 : decode cX6_best 92 = .ok (.aload_n 0, 1) := by decide +kernel
theorem dX6_best_93 : decode cX6_best 93 = .ok (.getfield 46, 3) := by decide +kernel
theorem dX6_best_96 : decode cX6_best 96 = .ok (.getfield 252, 3) := by decide +kernel
theorem dX6_best_99 : decode cX6_best 99 = .ok (.ireturn, 1) := by decide +kernel
theorem dX6_passBy_0 : decode cX6_passBy 0 = .ok (.aload_n 0, 1) := by decide +kernel
theorem dX6_passBy_1 : decode cX6_passBy 1 = .ok (.iload_n 1, 1) := by decide +kernel
theorem dX6_passBy_2 : decode cX6_passBy 2 = .ok (.iload_n 2, 1) := by decide +kernel
theorem dX6_passBy_3 : decode cX6_passBy 3 = .ok (.invokevirtual 233, 3) := by decide +kernel
theorem dX6_passBy_6 : decode cX6_passBy 6 = .ok (.ifCond .eq 6, 3) := by decide +kernel
theorem dX6_passBy_9 : decode cX6_passBy 9 = .ok (.ldc 66, 2) := by decide +kernel
theorem dX6_passBy_11 : decode cX6_passBy 11 = .ok (.ireturn, 1) := by decide +kernel
theorem dX6_passBy_12 : decode cX6_passBy 12 = .ok (.aload_n 0, 1) := by decide +kernel
theorem dX6_passBy_13 : decode cX6_passBy 13 = .ok (.getfield 46, 3) := by decide +kernel
theorem dX6_passBy_16 : decode cX6_passBy 16 = .ok (.aload_n 0, 1) := by decide +kernel
