theorem dX7_laysOrder_13 : decode cX7_laysOrder 13 = .ok (.iload_n 1, 1) := by decide +kernel
theorem dX7_laysOrder_14 : decode cX7_laysOrder 14 = .ok (.aload_n 0, 1) := by decide +kernel
theorem dX7_laysOrder_15 : decode cX7_laysOrder 15 = .ok (.getfield 197, 3) := by decide +kernel
theorem dX7_laysOrder_18 : decode cX7_laysOrder 18 = .ok (.if_icmp .eq 86, 3) := by decide +kernel
theorem dX7_laysOrder_21 : decode cX7_laysOrder 21 = .ok (.aload_n 0, 1) := by decide +kernel
theorem dX7_laysOrder_22 : decode cX7_laysOrder 22 = .ok (.getfield 68, 3) := by decide +kernel
theorem dX7_laysOrder_25 : decode cX7_laysOrder 25 = .ok (.iload_n 1, 1) := by decide +kernel
theorem dX7_laysOrder_26 : decode cX7_laysOrder 26 = .ok (.laload, 1) := by decide +kernel
theorem dX7_laysOrder_27 : decode cX7_laysOrder 27 = .ok (.lconst 0, 1) := by decide +kernel
theorem dX7_laysOrder_28 : decode cX7_laysOrder 28 = .ok (.lcmp, 1) := by decide +kernel
theorem dX7_laysOrder_29 : decode cX7_laysOrder 29 = .ok (.ifCond .ge 6, 3) := by decide +kernel
theorem dX7_laysOrder_32 : decode cX7_laysOrder 32 = .ok (.goto 72, 3) := by decide +kernel
theorem dX7_laysOrder_35 : decode cX7_laysOrder 35 = .ok (.aload_n 0, 1) := by decide +kernel
theorem dX7_laysOrder_36 : decode cX7_laysOrder 36 = .ok (.getfield 258, 3) := by decide +kernel
theorem dX7_laysOrder_39 : decode cX7_laysOrder 39 = .ok (.istore_n 2, 1) := by decide +kernel
theorem dX7_laysOrder_40 : decode cX7_laysOrder 40 = .ok (.iload_n 2, 1) := by decide +kernel
theorem dX7_laysOrder_41 : decode cX7_laysOrder 41 = .ok (.ifCond .le 46, 3) := by decide +kernel
theorem dX7_laysOrder_44 : decode cX7_laysOrder 44 = .ok (.aload_n 0, 1) := by decide +kernel
theorem dX7_laysOrder_45 : decode cX7_laysOrder 45 = .ok (.getfield 68, 3) := by decide +kernel
theorem dX7_laysOrder_48 : decode cX7_laysOrder 48 = .ok (.aload_n 0, 1) := by decide +kernel
theorem dX7_laysOrder_49 : decode cX7_laysOrder 49 = .ok (.getfield 95, 3) := by decide +kernel
theorem dX7_laysOrder_52 : decode cX7_laysOrder 52 = .ok (.iload_n 2, 1) := by decide +kernel
theorem dX7_laysOrder_53 : decode cX7_laysOrder 53 = .ok (.iconst 1, 1) := by decide +kernel
theorem dX7_laysOrder_54 : decode cX7_laysOrder 54 = .ok (.isub, 1) := by decide +kernel
theorem dX7_laysOrder_55 : decode cX7_laysOrder 55 = .ok (.iaload, 1) := by decide +kernel
theorem dX7_laysOrder_56 : decode cX7_laysOrder 56 = .ok (.laload, 1) := by decide +kernel
theorem dX7_laysOrder_57 : decode cX7_laysOrder 57 = .ok (.aload_n 0, 1) := by decide +kernel
theorem dX7_laysOrder_58 : decode cX7_laysOrder 58 = .ok (.getfield 68, 3) := by decide +kernel
theorem dX7_laysOrder_61 : decode cX7_laysOrder 61 = .ok (.iload_n 1, 1) := by decide +kernel
theorem dX7_laysOrder_62 : decode cX7_laysOrder 62 = .ok (.laload, 1) := by decide +kernel
theorem dX7_laysOrder_63 : decode cX7_laysOrder 63 = .ok (.lcmp, 1) := by decide +kernel
theorem dX7_laysOrder_64 : decode cX7_laysOrder 64 = .ok (.ifCond .ge 23, 3) := by decide +kernel
theorem dX7_laysOrder_67 : decode cX7_laysOrder 67 = .ok (.aload_n 0, 1) := by decide +kernel
theorem dX7_laysOrder_68 : decode cX7_laysOrder 68 = .ok (.getfield 95, 3) := by decide +kernel
theorem dX7_laysOrder_71 : decode cX7_laysOrder 71 = .ok (.iload_n 2, 1) := by decide +kernel
theorem dX7_laysOrder_72 : decode cX7_laysOrder 72 = .ok (.aload_n 0, 1) := by decide +kernel
theorem dX7_laysOrder_73 : decode cX7_laysOrder 73 = .ok (.getfield 95, 3) := by decide +kernel
theorem dX7_laysOrder_76 : decode cX7_laysOrder 76 = .ok (.iload_n 2, 1) := by decide +kernel
theorem dX7_laysOrder_77 : decode cX7_laysOrder 77 = .ok (.iconst 1, 1) := by decide +kernel
theorem dX7_laysOrder_78 : decode cX7_laysOrder 78 = .ok (.isub, 1) := by decide +kernel
theorem dX7_laysOrder_79 : decode cX7_laysOrder 79 = .ok (.iaload, 1) := by decide +kernel
theorem dX7_laysOrder_80 : decode cX7_laysOrder 80 = .ok (.iastore, 1) := by decide +kernel
theorem dX7_laysOrder_81 : decode cX7_laysOrder 81 = .ok (.iinc 2 (-1), 3) := by decide +kernel
theorem dX7_laysOrder_84 : decode cX7_laysOrder 84 = .ok (.goto (-44), 3) := by decide +kernel
theorem dX7_laysOrder_87 : decode cX7_laysOrder 87 = .ok (.aload_n 0, 1) := by decide +kernel
theorem dX7_laysOrder_88 : decode cX7_laysOrder 88 = .ok (.getfield 95, 3) := by decide +kernel
theorem dX7_laysOrder_91 : decode cX7_laysOrder 91 = .ok (.iload_n 2, 1) := by decide +kernel
theorem dX7_laysOrder_92 : decode cX7_laysOrder 92 = .ok (.iload_n 1, 1) := by decide +kernel
theorem dX7_laysOrder_93 : decode cX7_laysOrder 93 = .ok (.iastore, 1) := by decide +kernel
theorem dX7_laysOrder_94 : decode cX7_laysOrder 94 = .ok (.aload_n 0, 1) := by decide +kernel
theorem dX7_laysOrder_95 : decode cX7_laysOrder 95 = .ok (.dup, 1) := by decide +kernel
theorem dX7_laysOrder_96 : decode cX7_laysOrder 96 = .ok (.getfield 258, 3) := by decide +kernel
theorem dX7_laysOrder_99 : decode cX7_laysOrder 99 = .ok (.iconst 1, 1) := by decide +kernel
theorem dX7_laysOrder_100 : decode cX7_laysOrder 100 = .ok (.iadd, 1) := by decide +kernel
theorem dX7_laysOrder_101 : decode cX7_laysOrder 101 = .ok (.putfield 258, 3) := by decide +kernel
theorem dX7_laysOrder_104 : decode cX7_laysOrder 104 = .ok (.iinc 1 1, 3) := by decide +kernel
theorem dX7_laysOrder_107 : decode cX7_laysOrder 107 = .ok (.goto (-100), 3) := by decide +kernel
theorem dX7_laysOrder_110 : decode cX7_laysOrder 110 = .ok (.return_, 1) := by decide +kernel
theorem dX7_boards_0 : decode cX7_boards 0 = .ok (.aload_n 0, 1) := by decide +kernel
theorem dX7_boards_1 : decode cX7_boards 1 = .ok (.iconst 0, 1) := by decide +kernel
theorem dX7_boards_2 : decode cX7_boards 2 = .ok (.putfield 116, 3) := by decide +kernel
theorem dX7_boards_5 : decode cX7_boards 5 = .ok (.iload_n 1, 1) := by decide +kernel
theorem dX7_boards_6 : decode cX7_boards 6 = .ok (.invokestatic 162, 3) := by decide +kernel
theorem dX7_boards_9 : decode cX7_boards 9 = .ok (.ifCond .ne 5, 3) := by decide +kernel
theorem dX7_boards_12 : decode cX7_boards 12 = .ok (.iconst (-1), 1) := by decide +kernel
theorem dX7_boards_13 : decode cX7_boards 13 = .ok (.ireturn, 1) := by decide +kernel
theorem dX7_boards_14 : decode cX7_boards 14 = .ok (.aload_n 0, 1) := by decide +kernel
theorem dX7_boards_15 : decode cX7_boards 15 = .ok (.invokevirtual 246, 3) := by decide +kernel
theorem dX7_boards_18 : decode cX7_boards 18 = .ok (.aload_n 0, 1) := by decide +kernel
theorem dX7_boards_19 : decode cX7_boards 19 = .ok (.getfield 68, 3) := by decide +kernel
theorem dX7_boards_22 : decode cX7_boards 22 = .ok (.iload_n 1, 1) := by decide +kernel
theorem dX7_boards_23 : decode cX7_boards 23 = .ok (.laload, 1) := by decide +kernel
theorem dX7_boards_24 : decode cX7_boards 24 = .ok (.lconst 0, 1) := by decide +kernel
theorem dX7_boards_25 : decode cX7_boards 25 = .ok (.lcmp, 1) := by decide +kernel
theorem dX7_boards_26 : decode cX7_boards 26 = .ok (.ifCond .ge 6, 3) := by decide +kernel
theorem dX7_boards_29 : decode cX7_boards 29 = .ok (.bipush (-2), 2) := by decide +kernel
theorem dX7_boards_31 : decode cX7_boards 31 = .ok (.ireturn, 1) := by decide +kernel
theorem dX7_boards_32 : decode cX7_boards 32 = .ok (.aload_n 0, 1) := by decide +kernel
theorem dX7_boards_33 : decode cX7_boards 33 = .ok (.invokevirtual 261, 3) := by decide +kernel
theorem dX7_boards_36 : decode cX7_boards 36 = .ok (.aload_n 0, 1) := by decide +kernel
theorem dX7_boards_37 : decode cX7_boards 37 = .ok (.getfield 98, 3) := by decide +kernel
theorem dX7_boards_40 : decode cX7_boards 40 = .ok (.aload_n 0, 1) := by decide +kernel
theorem dX7_boards_41 : decode cX7_boards 41 = .ok (.getfield 197, 3) := by decide +kernel
theorem dX7_boards_44 : decode cX7_boards 44 = .ok (.lconst 0, 1) := by decide +kernel
theorem dX7_boards_45 : decode cX7_boards 45 = .ok (.lastore, 1) := by decide +kernel
theorem dX7_boards_46 : decode cX7_boards 46 = .ok (.aload_n 0, 1) := by decide +kernel
theorem dX7_boards_47 : decode cX7_boards 47 = .ok (.getfield 258, 3) := by decide +kernel
theorem dX7_boards_50 : decode cX7_boards 50 = .ok (.iconst 1, 1) := by decide +kernel
theorem dX7_boards_51 : decode cX7_boards 51 = .ok (.isub, 1) := by decide +kernel
theorem dX7_boards_52 : decode cX7_boards 52 = .ok (.istore_n 2, 1) := by decide +kernel
theorem dX7_boards_53 : decode cX7_boards 53 = .ok (.iload_n 2, 1) := by decide +kernel
theorem dX7_boards_54 : decode cX7_boards 54 = .ok (.ifCond .lt 115, 3) := by decide +kernel
theorem dX7_boards_57 : decode cX7_boards 57 = .ok (.aload_n 0, 1) := by decide +kernel
theorem dX7_boards_58 : decode cX7_boards 58 = .ok (.getfield 95, 3) := by decide +kernel
theorem dX7_boards_61 : decode cX7_boards 61 = .ok (.iload_n 2, 1) := by decide +kernel
theorem dX7_boards_62 : decode cX7_boards 62 = .ok (.iaload, 1) := by decide +kernel
theorem dX7_boards_63 : decode cX7_boards 63 = .ok (.istore_n 3, 1) := by decide +kernel
theorem dX7_boards_64 : decode cX7_boards 64 = .ok (.lconst 0, 1) := by decide +kernel
theorem dX7_boards_65 : decode cX7_boards 65 = .ok (.lstore 4, 2) := by decide +kernel
theorem dX7_boards_67 : decode cX7_boards 67 = .ok (.iconst 0, 1) := by decide +kernel
theorem dX7_boards_68 : decode cX7_boards 68 = .ok (.istore 6, 2) := by decide +kernel
theorem dX7_boards_70 : decode cX7_boards 70 = .ok (.iload 6, 2) := by decide +kernel
theorem dX7_boards_72 : decode cX7_boards 72 = .ok (.aload_n 0, 1) := by decide +kernel
theorem dX7_boards_73 : decode cX7_boards 73 = .ok (.getfield 86, 3) := by decide +kernel
theorem dX7_boards_76 : decode cX7_boards 76 = .ok (.iload_n 3, 1) := by decide +kernel
theorem dX7_boards_77 : decode cX7_boards 77 = .ok (.iaload, 1) := by decide +kernel
theorem dX7_boards_78 : decode cX7_boards 78 = .ok (.if_icmp .ge 69, 3) := by decide +kernel
theorem dX7_boards_81 : decode cX7_boards 81 = .ok (.aload_n 0, 1) := by decide +kernel
theorem dX7_boards_82 : decode cX7_boards 82 = .ok (.getfield 83, 3) := by decide +kernel
theorem dX7_boards_85 : decode cX7_boards 85 = .ok (.bipush 12, 2) := by decide +kernel
theorem dX7_boards_87 : decode cX7_boards 87 = .ok (.iload_n 3, 1) := by decide +kernel
theorem dX7_boards_88 : decode cX7_boards 88 = .ok (.imul, 1) := by decide +kernel
theorem dX7_boards_89 : decode cX7_boards 89 = .ok (.iload 6, 2) := by decide +kernel
theorem dX7_boards_91 : decode cX7_boards 91 = .ok (.iadd, 1) := by decide +kernel
theorem dX7_boards_92 : decode cX7_boards 92 = .ok (.iaload, 1) := by decide +kernel
theorem dX7_boards_93 : decode cX7_boards 93 = .ok (.istore 7, 2) := by decide +kernel
theorem dX7_boards_95 : decode cX7_boards 95 = .ok (.lload 4, 2) := by decide +kernel
theorem dX7_boards_97 : decode cX7_boards 97 = .ok (.aload_n 0, 1) := by decide +kernel
theorem dX7_boards_98 : decode cX7_boards 98 = .ok (.getfield 9, 3) := by decide +kernel
theorem dX7_boards_101 : decode cX7_boards 101 = .ok (.iload 7, 2) := by decide +kernel
theorem dX7_boards_103 : decode cX7_boards 103 = .ok (.iaload, 1) := by decide +kernel
theorem dX7_boards_104 : decode cX7_boards 104 = .ok (.i2l, 1) := by decide +kernel
theorem dX7_boards_105 : decode cX7_boards 105 = .ok (.ldc2_w 264, 3) := by decide +kernel
theorem dX7_boards_108 : decode cX7_boards 108 = .ok (.aload_n 0, 1) := by decide +kernel
theorem dX7_boards_109 : decode cX7_boards 109 = .ok (.getfield 98, 3) := by decide +kernel
theorem dX7_boards_112 : decode cX7_boards 112 = .ok (.aload_n 0, 1) := by decide +kernel
theorem dX7_boards_113 : decode cX7_boards 113 = .ok (.getfield 16, 3) := by decide +kernel
theorem dX7_boards_116 : decode cX7_boards 116 = .ok (.iload 7, 2) := by decide +kernel
theorem dX7_boards_118 : decode cX7_boards 118 = .ok (.aload_n 0, 1) := by decide +kernel
theorem dX7_boards_119 : decode cX7_boards 119 = .ok (.iload 7, 2) := by decide +kernel
theorem dX7_boards_121 : decode cX7_boards 121 = .ok (.aload_n 0, 1) := by decide +kernel
theorem dX7_boards_122 : decode cX7_boards 122 = .ok (.iload 7, 2) := by decide +kernel
theorem dX7_boards_124 : decode cX7_boards 124 = .ok (.iload_n 3, 1) := by decide +kernel
theorem dX7_boards_125 : decode cX7_boards 125 = .ok (.invokevirtual 224, 3) := by decide +kernel
theorem dX7_boards_128 : decode cX7_boards 128 = .ok (.invokevirtual 266, 3) := by decide +kernel
theorem dX7_boards_131 : decode cX7_boards 131 = .ok (.invokestatic 165, 3) := by decide +kernel
theorem dX7_boards_134 : decode cX7_boards 134 = .ok (.iaload, 1) := by decide +kernel
theorem dX7_boards_135 : decode cX7_boards 135 = .ok (.laload, 1) := by decide +kernel
theorem dX7_boards_136 : decode cX7_boards 136 = .ok (.ladd, 1) := by decide +kernel
theorem dX7_boards_137 : decode cX7_boards 137 = .ok (.lmul, 1) := by decide +kernel
theorem dX7_boards_138 : decode cX7_boards 138 = .ok (.ladd, 1) := by decide +kernel
theorem dX7_boards_139 : decode cX7_boards 139 = .ok (.lstore 4, 2) := by decide +kernel
theorem dX7_boards_141 : decode cX7_boards 141 = .ok (.iinc 6 1, 3) := by decide +kernel
theorem dX7_boards_144 : decode cX7_boards 144 = .ok (.goto (-74), 3) := by decide +kernel
theorem dX7_boards_147 : decode cX7_boards 147 = .ok (.aload_n 0, 1) := by decide +kernel
theorem dX7_boards_148 : decode cX7_boards 148 = .ok (.getfield 98, 3) := by decide +kernel
theorem dX7_boards_151 : decode cX7_boards 151 = .ok (.iload_n 3, 1) := by decide +kernel
theorem dX7_boards_152 : decode cX7_boards 152 = .ok (.lload 4, 2) := by decide +kernel
theorem dX7_boards_154 : decode cX7_boards 154 = .ok (.aload_n 0, 1) := by decide +kernel
theorem dX7_boards_155 : decode cX7_boards 155 = .ok (.getfield 80, 3) := by decide +kernel
theorem dX7_boards_158 : decode cX7_boards 158 = .ok (.iload_n 3, 1) := by decide +kernel
theorem dX7_boards_159 : decode cX7_boards 159 = .ok (.iaload, 1) := by decide +kernel
theorem dX7_boards_160 : decode cX7_boards 160 = .ok (.i2l, 1) := by decide +kernel
theorem dX7_boards_161 : decode cX7_boards 161 = .ok (.ldiv, 1) := by decide +kernel
theorem dX7_boards_162 : decode cX7_boards 162 = .ok (.lastore, 1) := by decide +kernel
theorem dX7_boards_163 : decode cX7_boards 163 = .ok (.iinc 2 (-1), 3) := by decide +kernel
theorem dX7_boards_166 : decode cX7_boards 166 = .ok (.goto (-113), 3) := by decide +kernel
theorem dX7_boards_169 : decode cX7_boards 169 = .ok (.aload_n 0, 1) := by decide +kernel
theorem dX7_boards_170 : decode cX7_boards 170 = .ok (.getfield 98, 3) := by decide +kernel
theorem dX7_boards_173 : decode cX7_boards 173 = .ok (.iload_n 1, 1) := by decide +kernel
theorem dX7_boards_174 : decode cX7_boards 174 = .ok (.laload, 1) := by decide +kernel
theorem dX7_boards_175 : decode cX7_boards 175 = .ok (.l2i, 1) := by decide +kernel
theorem dX7_boards_176 : decode cX7_boards 176 = .ok (.ireturn, 1) := by decide +kernel
theorem dX7_slack_0 : decode cX7_slack 0 = .ok (.aload_n 0, 1) := by decide +kernel
theorem dX7_slack_1 : decode cX7_slack 1 = .ok (.iconst 0, 1) := by decide +kernel
theorem dX7_slack_2 : decode cX7_slack 2 = .ok (.putfield 116, 3) := by decide +kernel
theorem dX7_slack_5 : decode cX7_slack 5 = .ok (.aload_n 0, 1) := by decide +kernel
theorem dX7_slack_6 : decode cX7_slack 6 = .ok (.iload_n 1, 1) := by decide +kernel
theorem dX7_slack_7 : decode cX7_slack 7 = .ok (.iload_n 2, 1) := by decide +kernel
theorem dX7_slack_8 : decode cX7_slack 8 = .ok (.invokevirtual 252, 3) := by decide +kernel
theorem dX7_slack_11 : decode cX7_slack 11 = .ok (.ifCond .ne 5, 3) := by decide +kernel
theorem dX7_slack_14 : decode cX7_slack 14 = .ok (.iconst (-1), 1) := by decide +kernel
theorem dX7_slack_15 : decode cX7_slack 15 = .ok (.ireturn, 1) := by decide +kernel
theorem dX7_slack_16 : decode cX7_slack 16 = .ok (.aload_n 0, 1) := by decide +kernel
theorem dX7_slack_17 : decode cX7_slack 17 = .ok (.invokevirtual 246, 3) := by decide +kernel
theorem dX7_slack_20 : decode cX7_slack 20 = .ok (.aload_n 0, 1) := by decide +kernel
theorem dX7_slack_21 : decode cX7_slack 21 = .ok (.getfield 16, 3) := by decide +kernel
theorem dX7_slack_24 : decode cX7_slack 24 = .ok (.iload_n 1, 1) := by decide +kernel
theorem dX7_slack_25 : decode cX7_slack 25 = .ok (.iload_n 2, 1) := by decide +kernel
theorem dX7_slack_26 : decode cX7_slack 26 = .ok (.invokestatic 165, 3) := by decide +kernel
theorem dX7_slack_29 : decode cX7_slack 29 = .ok (.iaload, 1) := by decide +kernel
theorem dX7_slack_30 : decode cX7_slack 30 = .ok (.istore_n 3, 1) := by decide +kernel
theorem dX7_slack_31 : decode cX7_slack 31 = .ok (.aload_n 0, 1) := by decide +kernel
theorem dX7_slack_32 : decode cX7_slack 32 = .ok (.iload_n 1, 1) := by decide +kernel
theorem dX7_slack_33 : decode cX7_slack 33 = .ok (.iload_n 2, 1) := by decide +kernel
theorem dX7_slack_34 : decode cX7_slack 34 = .ok (.invokevirtual 221, 3) := by decide +kernel
theorem dX7_slack_37 : decode cX7_slack 37 = .ok (.lconst 0, 1) := by decide +kernel
theorem dX7_slack_38 : decode cX7_slack 38 = .ok (.lcmp, 1) := by decide +kernel
theorem dX7_slack_39 : decode cX7_slack 39 = .ok (.ifCond .lt 31, 3) := by decide +kernel
theorem dX7_slack_42 : decode cX7_slack 42 = .ok (.aload_n 0, 1) := by decide +kernel
theorem dX7_slack_43 : decode cX7_slack 43 = .ok (.getfield 68, 3) := by decide +kernel
theorem dX7_slack_46 : decode cX7_slack 46 = .ok (.iload_n 3, 1) := by decide +kernel
theorem dX7_slack_47 : decode cX7_slack 47 = .ok (.laload, 1) := by decide +kernel
theorem dX7_slack_48 : decode cX7_slack 48 = .ok (.lconst 0, 1) := by decide +kernel
theorem dX7_slack_49 : decode cX7_slack 49 = .ok (.lcmp, 1) := by decide +kernel
theorem dX7_slack_50 : decode cX7_slack 50 = .ok (.ifCond .lt 20, 3) := by decide +kernel
theorem dX7_slack_53 : decode cX7_slack 53 = .ok (.iload_n 3, 1) := by decide +kernel
theorem dX7_slack_54 : decode cX7_slack 54 = .ok (.aload_n 0, 1) := by decide +kernel
theorem dX7_slack_55 : decode cX7_slack 55 = .ok (.getfield 197, 3) := by decide +kernel
theorem dX7_slack_58 : decode cX7_slack 58 = .ok (.if_icmp .eq 12, 3) := by decide +kernel
theorem dX7_slack_61 : decode cX7_slack 61 = .ok (.aload_n 0, 1) := by decide +kernel
theorem dX7_slack_62 : decode cX7_slack 62 = .ok (.getfield 35, 3) := by decide +kernel
theorem dX7_slack_65 : decode cX7_slack 65 = .ok (.iload_n 1, 1) := by decide +kernel
theorem dX7_slack_66 : decode cX7_slack 66 = .ok (.baload, 1) := by decide +kernel
theorem dX7_slack_67 : decode cX7_slack 67 = .ok (.ifCond .eq 6, 3) := by decide +kernel
theorem dX7_slack_70 : decode cX7_slack 70 = .ok (.bipush (-2), 2) := by decide +kernel
theorem dX7_slack_72 : decode cX7_slack 72 = .ok (.ireturn, 1) := by decide +kernel
theorem dX7_slack_73 : decode cX7_slack 73 = .ok (.aload_n 0, 1) := by decide +kernel
theorem dX7_slack_74 : decode cX7_slack 74 = .ok (.iload_n 1, 1) := by decide +kernel
theorem dX7_slack_75 : decode cX7_slack 75 = .ok (.iload_n 3, 1) := by decide +kernel
theorem dX7_slack_76 : decode cX7_slack 76 = .ok (.invokevirtual 255, 3) := by decide +kernel
theorem dX7_slack_79 : decode cX7_slack 79 = .ok (.ifCond .eq 7, 3) := by decide +kernel
theorem dX7_slack_82 : decode cX7_slack 82 = .ok (.iconst 0, 1) := by decide +kernel
theorem dX7_slack_83 : decode cX7_slack 83 = .ok (.goto 19, 3) := by decide +kernel
theorem dX7_slack_86 : decode cX7_slack 86 = .ok (.aload_n 0, 1) := by decide +kernel
theorem dX7_slack_87 : decode cX7_slack 87 = .ok (.iload_n 1, 1) := by decide +kernel
theorem dX7_slack_88 : decode cX7_slack 88 = .ok (.iload_n 2, 1) := by decide +kernel
theorem dX7_slack_89 : decode cX7_slack 89 = .ok (.invokevirtual 221, 3) := by decide +kernel
theorem dX7_slack_92 : decode cX7_slack 92 = .ok (.lconst 1, 1) := by decide +kernel
theorem dX7_slack_93 : decode cX7_slack 93 = .ok (.ladd, 1) := by decide +kernel
theorem dX7_slack_94 : decode cX7_slack 94 = .ok (.aload_n 0, 1) := by decide +kernel
theorem dX7_slack_95 : decode cX7_slack 95 = .ok (.getfield 68, 3) := by decide +kernel
theorem dX7_slack_98 : decode cX7_slack 98 = .ok (.iload_n 3, 1) := by decide +kernel
theorem dX7_slack_99 : decode cX7_slack 99 = .ok (.laload, 1) := by decide +kernel
theorem dX7_slack_100 : decode cX7_slack 100 = .ok (.lsub, 1) := by decide +kernel
theorem dX7_slack_101 : decode cX7_slack 101 = .ok (.l2i, 1) := by decide +kernel
theorem dX7_slack_102 : decode cX7_slack 102 = .ok (.ireturn, 1) := by decide +kernel
theorem dX7_reach_0 : decode cX7_reach 0 = .ok (.aload_n 0, 1) := by decide +kernel
theorem dX7_reach_1 : decode cX7_reach 1 = .ok (.iconst 0, 1) := by decide +kernel
theorem dX7_reach_2 : decode cX7_reach 2 = .ok (.putfield 116, 3) := by decide +kernel
theorem dX7_reach_5 : decode cX7_reach 5 = .ok (.iload_n 1, 1) := by decide +kernel
theorem dX7_reach_6 : decode cX7_reach 6 = .ok (.ifCond .ge 5, 3) := by decide +kernel
theorem dX7_reach_9 : decode cX7_reach 9 = .ok (.iconst (-1), 1) := by decide +kernel
theorem dX7_reach_10 : decode cX7_reach 10 = .ok (.ireturn, 1) := by decide +kernel
theorem dX7_reach_11 : decode cX7_reach 11 = .ok (.aload_n 0, 1) := by decide +kernel
theorem dX7_reach_12 : decode cX7_reach 12 = .ok (.invokevirtual 246, 3) := by decide +kernel
theorem dX7_reach_15 : decode cX7_reach 15 = .ok (.iconst 0, 1) := by decide +kernel
theorem dX7_reach_16 : decode cX7_reach 16 = .ok (.istore_n 2, 1) := by decide +kernel
theorem dX7_reach_17 : decode cX7_reach 17 = .ok (.iconst 0, 1) := by decide +kernel
theorem dX7_reach_18 : decode cX7_reach 18 = .ok (.istore_n 3, 1) := by decide +kernel
theorem dX7_reach_19 : decode cX7_reach 19 = .ok (.iconst 0, 1) := by decide +kernel
theorem dX7_reach_20 : decode cX7_reach 20 = .ok (.istore 4, 2) := by decide +kernel
theorem dX7_reach_22 : decode cX7_reach 22 = .ok (.iload 4, 2) := by decide +kernel
theorem dX7_reach_24 : decode cX7_reach 24 = .ok (.bipush 10, 2) := by decide +kernel
theorem dX7_reach_26 : decode cX7_reach 26 = .ok (.if_icmp .ge 47, 3) := by decide +kernel
theorem dX7_reach_29 : decode cX7_reach 29 = .ok (.aload_n 0, 1) := by decide +kernel
theorem dX7_reach_30 : decode cX7_reach 30 = .ok (.getfield 68, 3) := by decide +kernel
theorem dX7_reach_33 : decode cX7_reach 33 = .ok (.iload 4, 2) := by decide +kernel
theorem dX7_reach_35 : decode cX7_reach 35 = .ok (.laload, 1) := by decide +kernel
theorem dX7_reach_36 : decode cX7_reach 36 = .ok (.lconst 0, 1) := by decide +kernel
theorem dX7_reach_37 : decode cX7_reach 37 = .ok (.lcmp, 1) := by decide +kernel
theorem dX7_reach_38 : decode cX7_reach 38 = .ok (.ifCond .lt 29, 3) := by decide +kernel
theorem dX7_reach_41 : decode cX7_reach 41 = .ok (.aload_n 0, 1) := by decide +kernel
theorem dX7_reach_42 : decode cX7_reach 42 = .ok (.getfield 68, 3) := by decide +kernel
theorem dX7_reach_45 : decode cX7_reach 45 = .ok (.iload 4, 2) := by decide +kernel
theorem dX7_reach_47 : decode cX7_reach 47 = .ok (.laload, 1) := by decide +kernel
theorem dX7_reach_48 : decode cX7_reach 48 = .ok (.iload_n 1, 1) := by decide +kernel
theorem dX7_reach_49 : decode cX7_reach 49 = .ok (.i2l, 1) := by decide +kernel
theorem dX7_reach_50 : decode cX7_reach 50 = .ok (.lcmp, 1) := by decide +kernel
theorem dX7_reach_51 : decode cX7_reach 51 = .ok (.ifCond .le 6, 3) := by decide +kernel
theorem dX7_reach_54 : decode cX7_reach 54 = .ok (.goto 13, 3) := by decide +kernel
theorem dX7_reach_57 : decode cX7_reach 57 = .ok (.iload_n 2, 1) := by decide +kernel
theorem dX7_reach_58 : decode cX7_reach 58 = .ok (.iconst 1, 1) := by decide +kernel
theorem dX7_reach_59 : decode cX7_reach 59 = .ok (.iload 4, 2) := by decide +kernel
theorem dX7_reach_61 : decode cX7_reach 61 = .ok (.ishl, 1) := by decide +kernel
theorem dX7_reach_62 : decode cX7_reach 62 = .ok (.ior, 1) := by decide +kernel
theorem dX7_reach_63 : decode cX7_reach 63 = .ok (.istore_n 2, 1) := by decide +kernel
theorem dX7_reach_64 : decode cX7_reach 64 = .ok (.iinc 3 1, 3) := by decide +kernel
theorem dX7_reach_67 : decode cX7_reach 67 = .ok (.iinc 4 1, 3) := by decide +kernel
theorem dX7_reach_70 : decode cX7_reach 70 = .ok (.goto (-48), 3) := by decide +kernel
theorem dX7_reach_73 : decode cX7_reach 73 = .ok (.aload_n 0, 1) := by decide +kernel
theorem dX7_reach_74 : decode cX7_reach 74 = .ok (.iconst 0, 1) := by decide +kernel
theorem dX7_reach_75 : decode cX7_reach 75 = .ok (.putfield 119, 3) := by decide +kernel
theorem dX7_reach_78 : decode cX7_reach 78 = .ok (.aload_n 0, 1) := by decide +kernel
theorem dX7_reach_79 : decode cX7_reach 79 = .ok (.iload_n 2, 1) := by decide +kernel
theorem dX7_reach_80 : decode cX7_reach 80 = .ok (.i2l, 1) := by decide +kernel
theorem dX7_reach_81 : decode cX7_reach 81 = .ok (.invokevirtual 211, 3) := by decide +kernel
theorem dX7_reach_84 : decode cX7_reach 84 = .ok (.iload_n 3, 1) := by decide +kernel
theorem dX7_reach_85 : decode cX7_reach 85 = .ok (.ireturn, 1) := by decide +kernel
theorem dX7_between_0 : decode cX7_between 0 = .ok (.aload_n 0, 1) := by decide +kernel
theorem dX7_between_1 : decode cX7_between 1 = .ok (.iconst 0, 1) := by decide +kernel
theorem dX7_between_2 : decode cX7_between 2 = .ok (.putfield 116, 3) := by decide +kernel
theorem dX7_between_5 : decode cX7_between 5 = .ok (.iload_n 1, 1) := by decide +kernel
theorem dX7_between_6 : decode cX7_between 6 = .ok (.invokestatic 162, 3) := by decide +kernel
theorem dX7_between_9 : decode cX7_between 9 = .ok (.ifCond .eq 10, 3) := by decide +kernel
theorem dX7_between_12 : decode cX7_between 12 = .ok (.iload_n 2, 1) := by decide +kernel
theorem dX7_between_13 : decode cX7_between 13 = .ok (.invokestatic 162, 3) := by decide +kernel
theorem dX7_between_16 : decode cX7_between 16 = .ok (.ifCond .ne 5, 3) := by decide +kernel
theorem dX7_between_19 : decode cX7_between 19 = .ok (.iconst (-1), 1) := by decide +kernel
theorem dX7_between_20 : decode cX7_between 20 = .ok (.ireturn, 1) := by decide +kernel
theorem dX7_between_21 : decode cX7_between 21 = .ok (.aload_n 0, 1) := by decide +kernel
theorem dX7_between_22 : decode cX7_between 22 = .ok (.getfield 197, 3) := by decide +kernel
theorem dX7_between_25 : decode cX7_between 25 = .ok (.istore_n 3, 1) := by decide +kernel
theorem dX7_between_26 : decode cX7_between 26 = .ok (.aload_n 0, 1) := by decide +kernel
theorem dX7_between_27 : decode cX7_between 27 = .ok (.iload_n 2, 1) := by decide +kernel
theorem dX7_between_28 : decode cX7_between 28 = .ok (.putfield 197, 3) := by decide +kernel
theorem dX7_between_31 : decode cX7_between 31 = .ok (.aload_n 0, 1) := by decide +kernel
theorem dX7_between_32 : decode cX7_between 32 = .ok (.invokevirtual 246, 3) := by decide +kernel
theorem dX7_between_35 : decode cX7_between 35 = .ok (.aload_n 0, 1) := by decide +kernel
theorem dX7_between_36 : decode cX7_between 36 = .ok (.iload_n 3, 1) := by decide +kernel
theorem dX7_between_37 : decode cX7_between 37 = .ok (.putfield 197, 3) := by decide +kernel
theorem dX7_between_40 : decode cX7_between 40 = .ok (.aload_n 0, 1) := by decide +kernel
theorem dX7_between_41 : decode cX7_between 41 = .ok (.getfield 68, 3) := by decide +kernel
theorem dX7_between_44 : decode cX7_between 44 = .ok (.iload_n 1, 1) := by decide +kernel
theorem dX7_between_45 : decode cX7_between 45 = .ok (.laload, 1) := by decide +kernel
theorem dX7_between_46 : decode cX7_between 46 = .ok (.lconst 0, 1) := by decide +kernel
theorem dX7_between_47 : decode cX7_between 47 = .ok (.lcmp, 1) := by decide +kernel
theorem dX7_between_48 : decode cX7_between 48 = .ok (.ifCond .ge 6, 3) := by decide +kernel
theorem dX7_between_51 : decode cX7_between 51 = .ok (.bipush (-2), 2) := by decide +kernel
theorem dX7_between_53 : decode cX7_between 53 = .ok (.ireturn, 1) := by decide +kernel
theorem dX7_between_54 : decode cX7_between 54 = .ok (.aload_n 0, 1) := by decide +kernel
theorem dX7_between_55 : decode cX7_between 55 = .ok (.iconst 0, 1) := by decide +kernel
theorem dX7_between_56 : decode cX7_between 56 = .ok (.putfield 119, 3) := by decide +kernel
theorem dX7_between_59 : decode cX7_between 59 = .ok (.aload_n 0, 1) := by decide +kernel
theorem dX7_between_60 : decode cX7_between 60 = .ok (.aload_n 0, 1) := by decide +kernel
theorem dX7_between_61 : decode cX7_between 61 = .ok (.getfield 239, 3) := by decide +kernel
theorem dX7_between_64 : decode cX7_between 64 = .ok (.i2l, 1) := by decide +kernel
theorem dX7_between_65 : decode cX7_between 65 = .ok (.invokevirtual 211, 3) := by decide +kernel
theorem dX7_between_68 : decode cX7_between 68 = .ok (.aload_n 0, 1) := by decide +kernel
theorem dX7_between_69 : decode cX7_between 69 = .ok (.getfield 68, 3) := by decide +kernel
theorem dX7_between_72 : decode cX7_between 72 = .ok (.iload_n 1, 1) := by decide +kernel
theorem dX7_between_73 : decode cX7_between 73 = .ok (.laload, 1) := by decide +kernel
theorem dX7_between_74 : decode cX7_between 74 = .ok (.l2i, 1) := by decide +kernel
theorem dX7_between_75 : decode cX7_between 75 = .ok (.ireturn, 1) := by decide +kernel
theorem dX7_laysLoads_0 : decode cX7_laysLoads 0 = .ok (.aload_n 0, 1) := by decide +kernel
theorem dX7_laysLoads_1 : decode cX7_laysLoads 1 = .ok (.invokevirtual 246, 3) := by decide +kernel
theorem dX7_laysLoads_4 : decode cX7_laysLoads 4 = .ok (.aload_n 0, 1) := by decide +kernel
theorem dX7_laysLoads_5 : decode cX7_laysLoads 5 = .ok (.invokevirtual 261, 3) := by decide +kernel
theorem dX7_laysLoads_8 : decode cX7_laysLoads 8 = .ok (.iconst 0, 1) := by decide +kernel
theorem dX7_laysLoads_9 : decode cX7_laysLoads 9 = .ok (.istore_n 1, 1) := by decide +kernel
theorem dX7_laysLoads_10 : decode cX7_laysLoads 10 = .ok (.iload_n 1, 1) := by decide +kernel
theorem dX7_laysLoads_11 : decode cX7_laysLoads 11 = .ok (.bipush 96, 2) := by decide +kernel
theorem dX7_laysLoads_13 : decode cX7_laysLoads 13 = .ok (.if_icmp .ge 30, 3) := by decide +kernel
theorem dX7_laysLoads_16 : decode cX7_laysLoads 16 = .ok (.aload_n 0, 1) := by decide +kernel
theorem dX7_laysLoads_17 : decode cX7_laysLoads 17 = .ok (.getfield 101, 3) := by decide +kernel
theorem dX7_laysLoads_20 : decode cX7_laysLoads 20 = .ok (.iload_n 1, 1) := by decide +kernel
theorem dX7_laysLoads_21 : decode cX7_laysLoads 21 = .ok (.lconst 0, 1) := by decide +kernel
theorem dX7_laysLoads_22 : decode cX7_laysLoads 22 = .ok (.lastore, 1) := by decide +kernel
theorem dX7_laysLoads_23 : decode cX7_laysLoads 23 = .ok (.aload_n 0, 1) := by decide +kernel
theorem dX7_laysLoads_24 : decode cX7_laysLoads 24 = .ok (.getfield 104, 3) := by decide +kernel
theorem dX7_laysLoads_27 : decode cX7_laysLoads 27 = .ok (.iload_n 1, 1) := by decide +kernel
theorem dX7_laysLoads_28 : decode cX7_laysLoads 28 = .ok (.lconst 0, 1) := by decide +kernel
theorem dX7_laysLoads_29 : decode cX7_laysLoads 29 = .ok (.lastore, 1) := by decide +kernel
theorem dX7_laysLoads_30 : decode cX7_laysLoads 30 = .ok (.aload_n 0, 1) := by decide +kernel
theorem dX7_laysLoads_31 : decode cX7_laysLoads 31 = .ok (.getfield 107, 3) := by decide +kernel
theorem dX7_laysLoads_34 : decode cX7_laysLoads 34 = .ok (.iload_n 1, 1) := by decide +kernel
theorem dX7_laysLoads_35 : decode cX7_laysLoads 35 = .ok (.lconst 0, 1) := by decide +kernel
theorem dX7_laysLoads_36 : decode cX7_laysLoads 36 = .ok (.lastore, 1) := by decide +kernel
theorem dX7_laysLoads_37 : decode cX7_laysLoads 37 = .ok (.iinc 1 1, 3) := by decide +kernel
theorem dX7_laysLoads_40 : decode cX7_laysLoads 40 = .ok (.goto (-30), 3) := by decide +kernel
theorem dX7_laysLoads_43 : decode cX7_laysLoads 43 = .ok (.iconst 0, 1) := by decide +kernel
theorem dX7_laysLoads_44 : decode cX7_laysLoads 44 = .ok (.istore_n 1, 1) := by decide +kernel
theorem dX7_laysLoads_45 : decode cX7_laysLoads 45 = .ok (.iload_n 1, 1) := by decide +kernel
theorem dX7_laysLoads_46 : decode cX7_laysLoads 46 = .ok (.bipush 10, 2) := by decide +kernel
theorem dX7_laysLoads_48 : decode cX7_laysLoads 48 = .ok (.if_icmp .ge 16, 3) := by decide +kernel
theorem dX7_laysLoads_51 : decode cX7_laysLoads 51 = .ok (.aload_n 0, 1) := by decide +kernel
theorem dX7_laysLoads_52 : decode cX7_laysLoads 52 = .ok (.getfield 110, 3) := by decide +kernel
theorem dX7_laysLoads_55 : decode cX7_laysLoads 55 = .ok (.iload_n 1, 1) := by decide +kernel
theorem dX7_laysLoads_56 : decode cX7_laysLoads 56 = .ok (.lconst 0, 1) := by decide +kernel
theorem dX7_laysLoads_57 : decode cX7_laysLoads 57 = .ok (.lastore, 1) := by decide +kernel
theorem dX7_laysLoads_58 : decode cX7_laysLoads 58 = .ok (.iinc 1 1, 3) := by decide +kernel
theorem dX7_laysLoads_61 : decode cX7_laysLoads 61 = .ok (.goto (-16), 3) := by decide +kernel
theorem dX7_laysLoads_64 : decode cX7_laysLoads 64 = .ok (.iconst 0, 1) := by decide +kernel
theorem dX7_laysLoads_65 : decode cX7_laysLoads 65 = .ok (.istore_n 1, 1) := by decide +kernel
theorem dX7_laysLoads_66 : decode cX7_laysLoads 66 = .ok (.iload_n 1, 1) := by decide +kernel
theorem dX7_laysLoads_67 : decode cX7_laysLoads 67 = .ok (.aload_n 0, 1) := by decide +kernel
theorem dX7_laysLoads_68 : decode cX7_laysLoads 68 = .ok (.getfield 258, 3) := by decide +kernel
theorem dX7_laysLoads_71 : decode cX7_laysLoads 71 = .ok (.if_icmp .ge 19, 3) := by decide +kernel
theorem dX7_laysLoads_74 : decode cX7_laysLoads 74 = .ok (.aload_n 0, 1) := by decide +kernel
theorem dX7_laysLoads_75 : decode cX7_laysLoads 75 = .ok (.aload_n 0, 1) := by decide +kernel
theorem dX7_laysLoads_76 : decode cX7_laysLoads 76 = .ok (.getfield 95, 3) := by decide +kernel
theorem dX7_laysLoads_79 : decode cX7_laysLoads 79 = .ok (.iload_n 1, 1) := by decide +kernel
theorem dX7_laysLoads_80 : decode cX7_laysLoads 80 = .ok (.iaload, 1) := by decide +kernel
theorem dX7_laysLoads_81 : decode cX7_laysLoads 81 = .ok (.invokevirtual 269, 3) := by decide +kernel
theorem dX7_laysLoads_84 : decode cX7_laysLoads 84 = .ok (.iinc 1 1, 3) := by decide +kernel
theorem dX7_laysLoads_87 : decode cX7_laysLoads 87 = .ok (.goto (-21), 3) := by decide +kernel
theorem dX7_laysLoads_90 : decode cX7_laysLoads 90 = .ok (.return_, 1) := by decide +kernel
theorem dX7_passesOn_0 : decode cX7_passesOn 0 = .ok (.aload_n 0, 1) := by decide +kernel
theorem dX7_passesOn_1 : decode cX7_passesOn 1 = .ok (.getfield 43, 3) := by decide +kernel
theorem dX7_passesOn_4 : decode cX7_passesOn 4 = .ok (.iload_n 1, 1) := by decide +kernel
theorem dX7_passesOn_5 : decode cX7_passesOn 5 = .ok (.iaload, 1) := by decide +kernel
theorem dX7_passesOn_6 : decode cX7_passesOn 6 = .ok (.i2l, 1) := by decide +kernel
theorem dX7_passesOn_7 : decode cX7_passesOn 7 = .ok (.aload_n 0, 1) := by decide +kernel
theorem dX7_passesOn_8 : decode cX7_passesOn 8 = .ok (.getfield 110, 3) := by decide +kernel
theorem dX7_passesOn_11 : decode cX7_passesOn 11 = .ok (.iload_n 1, 1) := by decide +kernel
theorem dX7_passesOn_12 : decode cX7_passesOn 12 = .ok (.laload, 1) := by decide +kernel
theorem dX7_passesOn_13 : decode cX7_passesOn 13 = .ok (.ladd, 1) := by decide +kernel
theorem dX7_passesOn_14 : decode cX7_passesOn 14 = .ok (.lstore_n 2, 1) := by decide +kernel
theorem dX7_passesOn_15 : decode cX7_passesOn 15 = .ok (.lload_n 2, 1) := by decide +kernel
theorem dX7_passesOn_16 : decode cX7_passesOn 16 = .ok (.lstore 4, 2) := by decide +kernel
theorem dX7_passesOn_18 : decode cX7_passesOn 18 = .ok (.iconst 0, 1) := by decide +kernel
theorem dX7_passesOn_19 : decode cX7_passesOn 19 = .ok (.istore 6, 2) := by decide +kernel
theorem dX7_passesOn_21 : decode cX7_passesOn 21 = .ok (.iload 6, 2) := by decide +kernel
theorem dX7_passesOn_23 : decode cX7_passesOn 23 = .ok (.aload_n 0, 1) := by decide +kernel
theorem dX7_passesOn_24 : decode cX7_passesOn 24 = .ok (.getfield 86, 3) := by decide +kernel
theorem dX7_passesOn_27 : decode cX7_passesOn 27 = .ok (.iload_n 1, 1) := by decide +kernel
theorem dX7_passesOn_28 : decode cX7_passesOn 28 = .ok (.iaload, 1) := by decide +kernel
theorem dX7_passesOn_29 : decode cX7_passesOn 29 = .ok (.if_icmp .ge 42, 3) := by decide +kernel
theorem dX7_passesOn_32 : decode cX7_passesOn 32 = .ok (.lload 4, 2) := by decide +kernel
theorem dX7_passesOn_34 : decode cX7_passesOn 34 = .ok (.lload_n 2, 1) := by decide +kernel
theorem dX7_passesOn_35 : decode cX7_passesOn 35 = .ok (.aload_n 0, 1) := by decide +kernel
theorem dX7_passesOn_36 : decode cX7_passesOn 36 = .ok (.getfield 9, 3) := by decide +kernel
theorem dX7_passesOn_39 : decode cX7_passesOn 39 = .ok (.aload_n 0, 1) := by decide +kernel
theorem dX7_passesOn_40 : decode cX7_passesOn 40 = .ok (.getfield 83, 3) := by decide +kernel
theorem dX7_passesOn_43 : decode cX7_passesOn 43 = .ok (.bipush 12, 2) := by decide +kernel
theorem dX7_passesOn_45 : decode cX7_passesOn 45 = .ok (.iload_n 1, 1) := by decide +kernel
theorem dX7_passesOn_46 : decode cX7_passesOn 46 = .ok (.imul, 1) := by decide +kernel
theorem dX7_passesOn_47 : decode cX7_passesOn 47 = .ok (.iload 6, 2) := by decide +kernel
theorem dX7_passesOn_49 : decode cX7_passesOn 49 = .ok (.iadd, 1) := by decide +kernel
theorem dX7_passesOn_50 : decode cX7_passesOn 50 = .ok (.iaload, 1) := by decide +kernel
theorem dX7_passesOn_51 : decode cX7_passesOn 51 = .ok (.iaload, 1) := by decide +kernel
theorem dX7_passesOn_52 : decode cX7_passesOn 52 = .ok (.i2l, 1) := by decide +kernel
theorem dX7_passesOn_53 : decode cX7_passesOn 53 = .ok (.lmul, 1) := by decide +kernel
theorem dX7_passesOn_54 : decode cX7_passesOn 54 = .ok (.aload_n 0, 1) := by decide +kernel
theorem dX7_passesOn_55 : decode cX7_passesOn 55 = .ok (.getfield 80, 3) := by decide +kernel
theorem dX7_passesOn_58 : decode cX7_passesOn 58 = .ok (.iload_n 1, 1) := by decide +kernel
theorem dX7_passesOn_59 : decode cX7_passesOn 59 = .ok (.iaload, 1) := by decide +kernel
theorem dX7_passesOn_60 : decode cX7_passesOn 60 = .ok (.i2l, 1) := by decide +kernel
theorem dX7_passesOn_61 : decode cX7_passesOn 61 = .ok (.ldiv, 1) := by decide +kernel
theorem dX7_passesOn_62 : decode cX7_passesOn 62 = .ok (.lsub, 1) := by decide +kernel
theorem dX7_passesOn_63 : decode cX7_passesOn 63 = .ok (.lstore 4, 2) := by decide +kernel
theorem dX7_passesOn_65 : decode cX7_passesOn 65 = .ok (.iinc 6 1, 3) := by decide +kernel
theorem dX7_passesOn_68 : decode cX7_passesOn 68 = .ok (.goto (-47), 3) := by decide +kernel
theorem dX7_passesOn_71 : decode cX7_passesOn 71 = .ok (.iconst 0, 1) := by decide +kernel
theorem dX7_passesOn_72 : decode cX7_passesOn 72 = .ok (.istore 6, 2) := by decide +kernel
theorem dX7_passesOn_74 : decode cX7_passesOn 74 = .ok (.iload 6, 2) := by decide +kernel
theorem dX7_passesOn_76 : decode cX7_passesOn 76 = .ok (.aload_n 0, 1) := by decide +kernel
theorem dX7_passesOn_77 : decode cX7_passesOn 77 = .ok (.getfield 86, 3) := by decide +kernel
theorem dX7_passesOn_80 : decode cX7_passesOn 80 = .ok (.iload_n 1, 1) := by decide +kernel
theorem dX7_passesOn_81 : decode cX7_passesOn 81 = .ok (.iaload, 1) := by decide +kernel
theorem dX7_passesOn_82 : decode cX7_passesOn 82 = .ok (.if_icmp .ge 164, 3) := by decide +kernel
theorem dX7_passesOn_85 : decode cX7_passesOn 85 = .ok (.aload_n 0, 1) := by decide +kernel
theorem dX7_passesOn_86 : decode cX7_passesOn 86 = .ok (.getfield 83, 3) := by decide +kernel
theorem dX7_passesOn_89 : decode cX7_passesOn 89 = .ok (.bipush 12, 2) := by decide +kernel
theorem dX7_passesOn_91 : decode cX7_passesOn 91 = .ok (.iload_n 1, 1) := by decide +kernel
theorem dX7_passesOn_92 : decode cX7_passesOn 92 = .ok (.imul, 1) := by decide +kernel
theorem dX7_passesOn_93 : decode cX7_passesOn 93 = .ok (.iload 6, 2) := by decide +kernel
theorem dX7_passesOn_95 : decode cX7_passesOn 95 = .ok (.iadd, 1) := by decide +kernel
theorem dX7_passesOn_96 : decode cX7_passesOn 96 = .ok (.iaload, 1) := by decide +kernel
theorem dX7_passesOn_97 : decode cX7_passesOn 97 = .ok (.istore 7, 2) := by decide +kernel
theorem dX7_passesOn_99 : decode cX7_passesOn 99 = .ok (.aload_n 0, 1) := by decide +kernel
theorem dX7_passesOn_100 : decode cX7_passesOn 100 = .ok (.iload 7, 2) := by decide +kernel
theorem dX7_passesOn_102 : decode cX7_passesOn 102 = .ok (.iload_n 1, 1) := by decide +kernel
theorem dX7_passesOn_103 : decode cX7_passesOn 103 = .ok (.invokevirtual 224, 3) := by decide +kernel
theorem dX7_passesOn_106 : decode cX7_passesOn 106 = .ok (.istore 8, 2) := by decide +kernel
theorem dX7_passesOn_108 : decode cX7_passesOn 108 = .ok (.aload_n 0, 1) := by decide +kernel
theorem dX7_passesOn_109 : decode cX7_passesOn 109 = .ok (.iload 7, 2) := by decide +kernel
theorem dX7_passesOn_111 : decode cX7_passesOn 111 = .ok (.iload 8, 2) := by decide +kernel
theorem dX7_passesOn_113 : decode cX7_passesOn 113 = .ok (.invokevirtual 266, 3) := by decide +kernel
theorem dX7_passesOn_116 : decode cX7_passesOn 116 = .ok (.istore 9, 2) := by decide +kernel
theorem dX7_passesOn_118 : decode cX7_passesOn 118 = .ok (.lload_n 2, 1) := by decide +kernel
theorem dX7_passesOn_119 : decode cX7_passesOn 119 = .ok (.aload_n 0, 1) := by decide +kernel
theorem dX7_passesOn_120 : decode cX7_passesOn 120 = .ok (.getfield 9, 3) := by decide +kernel
theorem dX7_passesOn_123 : decode cX7_passesOn 123 = .ok (.iload 7, 2) := by decide +kernel
theorem dX7_passesOn_125 : decode cX7_passesOn 125 = .ok (.iaload, 1) := by decide +kernel
theorem dX7_passesOn_126 : decode cX7_passesOn 126 = .ok (.i2l, 1) := by decide +kernel
theorem dX7_passesOn_127 : decode cX7_passesOn 127 = .ok (.lmul, 1) := by decide +kernel
theorem dX7_passesOn_128 : decode cX7_passesOn 128 = .ok (.aload_n 0, 1) := by decide +kernel
theorem dX7_passesOn_129 : decode cX7_passesOn 129 = .ok (.getfield 80, 3) := by decide +kernel
theorem dX7_passesOn_132 : decode cX7_passesOn 132 = .ok (.iload_n 1, 1) := by decide +kernel
theorem dX7_passesOn_133 : decode cX7_passesOn 133 = .ok (.iaload, 1) := by decide +kernel
theorem dX7_passesOn_134 : decode cX7_passesOn 134 = .ok (.i2l, 1) := by decide +kernel
theorem dX7_passesOn_135 : decode cX7_passesOn 135 = .ok (.ldiv, 1) := by decide +kernel
theorem dX7_passesOn_136 : decode cX7_passesOn 136 = .ok (.iload 6, 2) := by decide +kernel
theorem dX7_passesOn_138 : decode cX7_passesOn 138 = .ok (.ifCond .ne 8, 3) := by decide +kernel
theorem dX7_passesOn_141 : decode cX7_passesOn 141 = .ok (.lload 4, 2) := by decide +kernel
theorem dX7_passesOn_143 : decode cX7_passesOn 143 = .ok (.goto 4, 3) := by decide +kernel
theorem dX7_passesOn_146 : decode cX7_passesOn 146 = .ok (.lconst 0, 1) := by decide +kernel
theorem dX7_passesOn_147 : decode cX7_passesOn 147 = .ok (.ladd, 1) := by decide +kernel
theorem dX7_passesOn_148 : decode cX7_passesOn 148 = .ok (.lstore 10, 2) := by decide +kernel
theorem dX7_passesOn_150 : decode cX7_passesOn 150 = .ok (.aload_n 0, 1) := by decide +kernel
theorem dX7_passesOn_151 : decode cX7_passesOn 151 = .ok (.getfield 104, 3) := by decide +kernel
theorem dX7_passesOn_154 : decode cX7_passesOn 154 = .ok (.iload 7, 2) := by decide +kernel
theorem dX7_passesOn_156 : decode cX7_passesOn 156 = .ok (.iload 8, 2) := by decide +kernel
theorem dX7_passesOn_158 : decode cX7_passesOn 158 = .ok (.invokestatic 165, 3) := by decide +kernel
theorem dX7_passesOn_161 : decode cX7_passesOn 161 = .ok (.dup2, 1) := by decide +kernel
theorem dX7_passesOn_162 : decode cX7_passesOn 162 = .ok (.laload, 1) := by decide +kernel
theorem dX7_passesOn_163 : decode cX7_passesOn 163 = .ok (.lload 10, 2) := by decide +kernel
theorem dX7_passesOn_165 : decode cX7_passesOn 165 = .ok (.ladd, 1) := by decide +kernel
theorem dX7_passesOn_166 : decode cX7_passesOn 166 = .ok (.lastore, 1) := by decide +kernel
theorem dX7_passesOn_167 : decode cX7_passesOn 167 = .ok (.aload_n 0, 1) := by decide +kernel
theorem dX7_passesOn_168 : decode cX7_passesOn 168 = .ok (.getfield 107, 3) := by decide +kernel
theorem dX7_passesOn_171 : decode cX7_passesOn 171 = .ok (.iload 7, 2) := by decide +kernel
theorem dX7_passesOn_173 : decode cX7_passesOn 173 = .ok (.iload 9, 2) := by decide +kernel
theorem dX7_passesOn_175 : decode cX7_passesOn 175 = .ok (.invokestatic 165, 3) := by decide +kernel
theorem dX7_passesOn_178 : decode cX7_passesOn 178 = .ok (.dup2, 1) := by decide +kernel
theorem dX7_passesOn_179 : decode cX7_passesOn 179 = .ok (.laload, 1) := by decide +kernel
theorem dX7_passesOn_180 : decode cX7_passesOn 180 = .ok (.lload 10, 2) := by decide +kernel
theorem dX7_passesOn_182 : decode cX7_passesOn 182 = .ok (.ladd, 1) := by decide +kernel
theorem dX7_passesOn_183 : decode cX7_passesOn 183 = .ok (.lastore, 1) := by decide +kernel
theorem dX7_passesOn_184 : decode cX7_passesOn 184 = .ok (.aload_n 0, 1) := by decide +kernel
theorem dX7_passesOn_185 : decode cX7_passesOn 185 = .ok (.getfield 110, 3) := by decide +kernel
theorem dX7_passesOn_188 : decode cX7_passesOn 188 = .ok (.aload_n 0, 1) := by decide +kernel
theorem dX7_passesOn_189 : decode cX7_passesOn 189 = .ok (.getfield 16, 3) := by decide +kernel
theorem dX7_passesOn_192 : decode cX7_passesOn 192 = .ok (.iload 7, 2) := by decide +kernel
theorem dX7_passesOn_194 : decode cX7_passesOn 194 = .ok (.iload 9, 2) := by decide +kernel
theorem dX7_passesOn_196 : decode cX7_passesOn 196 = .ok (.invokestatic 165, 3) := by decide +kernel
theorem dX7_passesOn_199 : decode cX7_passesOn 199 = .ok (.iaload, 1) := by decide +kernel
theorem dX7_passesOn_200 : decode cX7_passesOn 200 = .ok (.dup2, 1) := by decide +kernel
theorem dX7_passesOn_201 : decode cX7_passesOn 201 = .ok (.laload, 1) := by decide +kernel
theorem dX7_passesOn_202 : decode cX7_passesOn 202 = .ok (.lload 10, 2) := by decide +kernel
theorem dX7_passesOn_204 : decode cX7_passesOn 204 = .ok (.ladd, 1) := by decide +kernel
theorem dX7_passesOn_205 : decode cX7_passesOn 205 = .ok (.lastore, 1) := by decide +kernel
theorem dX7_passesOn_206 : decode cX7_passesOn 206 = .ok (.iload 8, 2) := by decide +kernel
theorem dX7_passesOn_208 : decode cX7_passesOn 208 = .ok (.istore 12, 2) := by decide +kernel
theorem dX7_passesOn_210 : decode cX7_passesOn 210 = .ok (.iload 12, 2) := by decide +kernel
theorem dX7_passesOn_212 : decode cX7_passesOn 212 = .ok (.iload 9, 2) := by decide +kernel
theorem dX7_passesOn_214 : decode cX7_passesOn 214 = .ok (.if_icmp .ge 26, 3) := by decide +kernel
theorem dX7_passesOn_217 : decode cX7_passesOn 217 = .ok (.aload_n 0, 1) := by decide +kernel
theorem dX7_passesOn_218 : decode cX7_passesOn 218 = .ok (.getfield 101, 3) := by decide +kernel
theorem dX7_passesOn_221 : decode cX7_passesOn 221 = .ok (.iload 7, 2) := by decide +kernel
theorem dX7_passesOn_223 : decode cX7_passesOn 223 = .ok (.iload 12, 2) := by decide +kernel
theorem dX7_passesOn_225 : decode cX7_passesOn 225 = .ok (.invokestatic 165, 3) := by decide +kernel
theorem dX7_passesOn_228 : decode cX7_passesOn 228 = .ok (.dup2, 1) := by decide +kernel
theorem dX7_passesOn_229 : decode cX7_passesOn 229 = .ok (.laload, 1) := by decide +kernel
theorem dX7_passesOn_230 : decode cX7_passesOn 230 = .ok (.lload 10, 2) := by decide +kernel
theorem dX7_passesOn_232 : decode cX7_passesOn 232 = .ok (.ladd, 1) := by decide +kernel
theorem dX7_passesOn_233 : decode cX7_passesOn 233 = .ok (.lastore, 1) := by decide +kernel
theorem dX7_passesOn_234 : decode cX7_passesOn 234 = .ok (.iinc 12 1, 3) := by decide +kernel
theorem dX7_passesOn_237 : decode cX7_passesOn 237 = .ok (.goto (-27), 3) := by decide +kernel
theorem dX7_passesOn_240 : decode cX7_passesOn 240 = .ok (.iinc 6 1, 3) := by decide +kernel
theorem dX7_passesOn_243 : decode cX7_passesOn 243 = .ok (.goto (-169), 3) := by decide +kernel
theorem dX7_passesOn_246 : decode cX7_passesOn 246 = .ok (.return_, 1) := by decide +kernel
theorem dX7_totalNow_0 : decode cX7_totalNow 0 = .ok (.lconst 0, 1) := by decide +kernel
theorem dX7_totalNow_1 : decode cX7_totalNow 1 = .ok (.lstore_n 1, 1) := by decide +kernel
theorem dX7_totalNow_2 : decode cX7_totalNow 2 = .ok (.iconst 0, 1) := by decide +kernel
theorem dX7_totalNow_3 : decode cX7_totalNow 3 = .ok (.istore_n 3, 1) := by decide +kernel
theorem dX7_totalNow_4 : decode cX7_totalNow 4 = .ok (.iload_n 3, 1) := by decide +kernel
theorem dX7_totalNow_5 : decode cX7_totalNow 5 = .ok (.bipush 10, 2) := by decide +kernel
theorem dX7_totalNow_7 : decode cX7_totalNow 7 = .ok (.if_icmp .ge 41, 3) := by decide +kernel
theorem dX7_totalNow_10 : decode cX7_totalNow 10 = .ok (.lload_n 1, 1) := by decide +kernel
theorem dX7_totalNow_11 : decode cX7_totalNow 11 = .ok (.aload_n 0, 1) := by decide +kernel
theorem dX7_totalNow_12 : decode cX7_totalNow 12 = .ok (.getfield 68, 3) := by decide +kernel
theorem dX7_totalNow_15 : decode cX7_totalNow 15 = .ok (.iload_n 3, 1) := by decide +kernel
theorem dX7_totalNow_16 : decode cX7_totalNow 16 = .ok (.laload, 1) := by decide +kernel
theorem dX7_totalNow_17 : decode cX7_totalNow 17 = .ok (.lconst 0, 1) := by decide +kernel
theorem dX7_totalNow_18 : decode cX7_totalNow 18 = .ok (.lcmp, 1) := by decide +kernel
theorem dX7_totalNow_19 : decode cX7_totalNow 19 = .ok (.ifCond .lt 20, 3) := by decide +kernel
theorem dX7_totalNow_22 : decode cX7_totalNow 22 = .ok (.aload_n 0, 1) := by decide +kernel
theorem dX7_totalNow_23 : decode cX7_totalNow 23 = .ok (.getfield 43, 3) := by decide +kernel
theorem dX7_totalNow_26 : decode cX7_totalNow 26 = .ok (.iload_n 3, 1) := by decide +kernel
theorem dX7_totalNow_27 : decode cX7_totalNow 27 = .ok (.iaload, 1) := by decide +kernel
theorem dX7_totalNow_28 : decode cX7_totalNow 28 = .ok (.i2l, 1) := by decide +kernel
theorem dX7_totalNow_29 : decode cX7_totalNow 29 = .ok (.aload_n 0, 1) := by decide +kernel
theorem dX7_totalNow_30 : decode cX7_totalNow 30 = .ok (.getfield 68, 3) := by decide +kernel
theorem dX7_totalNow_33 : decode cX7_totalNow 33 = .ok (.iload_n 3, 1) := by decide +kernel
theorem dX7_totalNow_34 : decode cX7_totalNow 34 = .ok (.laload, 1) := by decide +kernel
theorem dX7_totalNow_35 : decode cX7_totalNow 35 = .ok (.lmul, 1) := by decide +kernel
theorem dX7_totalNow_36 : decode cX7_totalNow 36 = .ok (.goto 4, 3) := by decide +kernel
theorem dX7_totalNow_39 : decode cX7_totalNow 39 = .ok (.lconst 0, 1) := by decide +kernel
theorem dX7_totalNow_40 : decode cX7_totalNow 40 = .ok (.ladd, 1) := by decide +kernel
theorem dX7_totalNow_41 : decode cX7_totalNow 41 = .ok (.lstore_n 1, 1) := by decide +kernel
theorem dX7_totalNow_42 : decode cX7_totalNow 42 = .ok (.iinc 3 1, 3) := by decide +kernel
theorem dX7_totalNow_45 : decode cX7_totalNow 45 = .ok (.goto (-41), 3) := by decide +kernel
theorem dX7_totalNow_48 : decode cX7_totalNow 48 = .ok (.lload_n 1, 1) := by decide +kernel
theorem dX7_totalNow_49 : decode cX7_totalNow 49 = .ok (.lreturn, 1) := by decide +kernel
theorem dX7_strandedNow_0 : decode cX7_strandedNow 0 = .ok (.lconst 0, 1) := by decide +kernel
theorem dX7_strandedNow_1 : decode cX7_strandedNow 1 = .ok (.lstore_n 1, 1) := by decide +kernel
theorem dX7_strandedNow_2 : decode cX7_strandedNow 2 = .ok (.iconst 0, 1) := by decide +kernel
theorem dX7_strandedNow_3 : decode cX7_strandedNow 3 = .ok (.istore_n 3, 1) := by decide +kernel
theorem dX7_strandedNow_4 : decode cX7_strandedNow 4 = .ok (.iload_n 3, 1) := by decide +kernel
theorem dX7_strandedNow_5 : decode cX7_strandedNow 5 = .ok (.bipush 10, 2) := by decide +kernel
theorem dX7_strandedNow_7 : decode cX7_strandedNow 7 = .ok (.if_icmp .ge 42, 3) := by decide +kernel
theorem dX7_strandedNow_10 : decode cX7_strandedNow 10 = .ok (.lload_n 1, 1) := by decide +kernel
theorem dX7_strandedNow_11 : decode cX7_strandedNow 11 = .ok (.iload_n 3, 1) := by decide +kernel
theorem dX7_strandedNow_12 : decode cX7_strandedNow 12 = .ok (.aload_n 0, 1) := by decide +kernel
theorem dX7_strandedNow_13 : decode cX7_strandedNow 13 = .ok (.getfield 197, 3) := by decide +kernel
theorem dX7_strandedNow_16 : decode cX7_strandedNow 16 = .ok (.if_icmp .eq 24, 3) := by decide +kernel
theorem dX7_strandedNow_19 : decode cX7_strandedNow 19 = .ok (.aload_n 0, 1) := by decide +kernel
theorem dX7_strandedNow_20 : decode cX7_strandedNow 20 = .ok (.getfield 68, 3) := by decide +kernel
theorem dX7_strandedNow_23 : decode cX7_strandedNow 23 = .ok (.iload_n 3, 1) := by decide +kernel
theorem dX7_strandedNow_24 : decode cX7_strandedNow 24 = .ok (.laload, 1) := by decide +kernel
theorem dX7_strandedNow_25 : decode cX7_strandedNow 25 = .ok (.lconst 0, 1) := by decide +kernel
theorem dX7_strandedNow_26 : decode cX7_strandedNow 26 = .ok (.lcmp, 1) := by decide +kernel
theorem dX7_strandedNow_27 : decode cX7_strandedNow 27 = .ok (.ifCond .ge 13, 3) := by decide +kernel
theorem dX7_strandedNow_30 : decode cX7_strandedNow 30 = .ok (.aload_n 0, 1) := by decide +kernel
theorem dX7_strandedNow_31 : decode cX7_strandedNow 31 = .ok (.getfield 43, 3) := by decide +kernel
theorem dX7_strandedNow_34 : decode cX7_strandedNow 34 = .ok (.iload_n 3, 1) := by decide +kernel
theorem dX7_strandedNow_35 : decode cX7_strandedNow 35 = .ok (.iaload, 1) := by decide +kernel
theorem dX7_strandedNow_36 : decode cX7_strandedNow 36 = .ok (.i2l, 1) := by decide +kernel
theorem dX7_strandedNow_37 : decode cX7_strandedNow 37 = .ok (.goto 4, 3) := by decide +kernel
theorem dX7_strandedNow_40 : decode cX7_strandedNow 40 = .ok (.lconst 0, 1) := by decide +kernel
theorem dX7_strandedNow_41 : decode cX7_strandedNow 41 = .ok (.ladd, 1) := by decide +kernel
theorem dX7_strandedNow_42 : decode cX7_strandedNow 42 = .ok (.lstore_n 1, 1) := by decide +kernel
theorem dX7_strandedNow_43 : decode cX7_strandedNow 43 = .ok (.iinc 3 1, 3) := by decide +kernel
theorem dX7_strandedNow_46 : decode cX7_strandedNow 46 = .ok (.goto (-42), 3) := by decide +kernel
theorem dX7_strandedNow_49 : decode cX7_strandedNow 49 = .ok (.lload_n 1, 1) := by decide +kernel
theorem dX7_strandedNow_50 : decode cX7_strandedNow 50 = .ok (.lreturn, 1) := by decide +kernel
theorem dX7_load_0 : decode cX7_load 0 = .ok (.aload_n 0, 1) := by decide +kernel
theorem dX7_load_1 : decode cX7_load 1 = .ok (.iconst 0, 1) := by decide +kernel
theorem dX7_load_2 : decode cX7_load 2 = .ok (.putfield 116, 3) := by decide +kernel
theorem dX7_load_5 : decode cX7_load 5 = .ok (.aload_n 0, 1) := by decide +kernel
theorem dX7_load_6 : decode cX7_load 6 = .ok (.iload_n 1, 1) := by decide +kernel
theorem dX7_load_7 : decode cX7_load 7 = .ok (.iload_n 2, 1) := by decide +kernel
theorem dX7_load_8 : decode cX7_load 8 = .ok (.invokevirtual 252, 3) := by decide +kernel
theorem dX7_load_11 : decode cX7_load 11 = .ok (.ifCond .ne 5, 3) := by decide +kernel
theorem dX7_load_14 : decode cX7_load 14 = .ok (.iconst (-1), 1) := by decide +kernel
theorem dX7_load_15 : decode cX7_load 15 = .ok (.ireturn, 1) := by decide +kernel
theorem dX7_load_16 : decode cX7_load 16 = .ok (.aload_n 0, 1) := by decide +kernel
theorem dX7_load_17 : decode cX7_load 17 = .ok (.invokevirtual 272, 3) := by decide +kernel
theorem dX7_load_20 : decode cX7_load 20 = .ok (.aload_n 0, 1) := by decide +kernel
theorem dX7_load_21 : decode cX7_load 21 = .ok (.getfield 101, 3) := by decide +kernel
theorem dX7_load_24 : decode cX7_load 24 = .ok (.iload_n 1, 1) := by decide +kernel
theorem dX7_load_25 : decode cX7_load 25 = .ok (.iload_n 2, 1) := by decide +kernel
theorem dX7_load_26 : decode cX7_load 26 = .ok (.invokestatic 165, 3) := by decide +kernel
theorem dX7_load_29 : decode cX7_load 29 = .ok (.laload, 1) := by decide +kernel
theorem dX7_load_30 : decode cX7_load 30 = .ok (.l2i, 1) := by decide +kernel
theorem dX7_load_31 : decode cX7_load 31 = .ok (.ireturn, 1) := by decide +kernel
theorem dX7_passes_0 : decode cX7_passes 0 = .ok (.aload_n 0, 1) := by decide +kernel
theorem dX7_passes_1 : decode cX7_passes 1 = .ok (.iconst 0, 1) := by decide +kernel
theorem dX7_passes_2 : decode cX7_passes 2 = .ok (.putfield 116, 3) := by decide +kernel
theorem dX7_passes_5 : decode cX7_passes 5 = .ok (.iload_n 1, 1) := by decide +kernel
theorem dX7_passes_6 : decode cX7_passes 6 = .ok (.invokestatic 162, 3) := by decide +kernel
theorem dX7_passes_9 : decode cX7_passes 9 = .ok (.ifCond .ne 5, 3) := by decide +kernel
theorem dX7_passes_12 : decode cX7_passes 12 = .ok (.iconst (-1), 1) := by decide +kernel
theorem dX7_passes_13 : decode cX7_passes 13 = .ok (.ireturn, 1) := by decide +kernel
theorem dX7_passes_14 : decode cX7_passes 14 = .ok (.aload_n 0, 1) := by decide +kernel
theorem dX7_passes_15 : decode cX7_passes 15 = .ok (.invokevirtual 272, 3) := by decide +kernel
theorem dX7_passes_18 : decode cX7_passes 18 = .ok (.aload_n 0, 1) := by decide +kernel
theorem dX7_passes_19 : decode cX7_passes 19 = .ok (.iconst 0, 1) := by decide +kernel
theorem dX7_passes_20 : decode cX7_passes 20 = .ok (.putfield 119, 3) := by decide +kernel
theorem dX7_passes_23 : decode cX7_passes 23 = .ok (.aload_n 0, 1) := by decide +kernel
theorem dX7_passes_24 : decode cX7_passes 24 = .ok (.aload_n 0, 1) := by decide +kernel
theorem dX7_passes_25 : decode cX7_passes 25 = .ok (.getfield 110, 3) := by decide +kernel
theorem dX7_passes_28 : decode cX7_passes 28 = .ok (.iload_n 1, 1) := by decide +kernel
theorem dX7_passes_29 : decode cX7_passes 29 = .ok (.laload, 1) := by decide +kernel
theorem dX7_passes_30 : decode cX7_passes 30 = .ok (.invokevirtual 211, 3) := by decide +kernel
theorem dX7_passes_33 : decode cX7_passes 33 = .ok (.aload_n 0, 1) := by decide +kernel
theorem dX7_passes_34 : decode cX7_passes 34 = .ok (.getfield 43, 3) := by decide +kernel
theorem dX7_passes_37 : decode cX7_passes 37 = .ok (.iload_n 1, 1) := by decide +kernel
theorem dX7_passes_38 : decode cX7_passes 38 = .ok (.iaload, 1) := by decide +kernel
theorem dX7_passes_39 : decode cX7_passes 39 = .ok (.i2l, 1) := by decide +kernel
theorem dX7_passes_40 : decode cX7_passes 40 = .ok (.aload_n 0, 1) := by decide +kernel
theorem dX7_passes_41 : decode cX7_passes 41 = .ok (.getfield 110, 3) := by decide +kernel
theorem dX7_passes_44 : decode cX7_passes 44 = .ok (.iload_n 1, 1) := by decide +kernel
theorem dX7_passes_45 : decode cX7_passes 45 = .ok (.laload, 1) := by decide +kernel
theorem dX7_passes_46 : decode cX7_passes 46 = .ok (.ladd, 1) := by decide +kernel
theorem dX7_passes_47 : decode cX7_passes 47 = .ok (.l2i, 1) := by decide +kernel
theorem dX7_passes_48 : decode cX7_passes 48 = .ok (.ireturn, 1) := by decide +kernel
theorem dX7_ridden_0 : decode cX7_ridden 0 = .ok (.aload_n 0, 1) := by decide +kernel
theorem dX7_ridden_1 : decode cX7_ridden 1 = .ok (.iconst 0, 1) := by decide +kernel
theorem dX7_ridden_2 : decode cX7_ridden 2 = .ok (.putfield 116, 3) := by decide +kernel
theorem dX7_ridden_5 : decode cX7_ridden 5 = .ok (.aload_n 0, 1) := by decide +kernel
theorem dX7_ridden_6 : decode cX7_ridden 6 = .ok (.iload_n 1, 1) := by decide +kernel
theorem dX7_ridden_7 : decode cX7_ridden 7 = .ok (.invokevirtual 134, 3) := by decide +kernel
theorem dX7_ridden_10 : decode cX7_ridden 10 = .ok (.ifCond .ne 5, 3) := by decide +kernel
theorem dX7_ridden_13 : decode cX7_ridden 13 = .ok (.iconst (-1), 1) := by decide +kernel
theorem dX7_ridden_14 : decode cX7_ridden 14 = .ok (.ireturn, 1) := by decide +kernel
theorem dX7_ridden_15 : decode cX7_ridden 15 = .ok (.aload_n 0, 1) := by decide +kernel
theorem dX7_ridden_16 : decode cX7_ridden 16 = .ok (.invokevirtual 272, 3) := by decide +kernel
theorem dX7_ridden_19 : decode cX7_ridden 19 = .ok (.lconst 0, 1) := by decide +kernel
theorem dX7_ridden_20 : decode cX7_ridden 20 = .ok (.lstore_n 2, 1) := by decide +kernel
theorem dX7_ridden_21 : decode cX7_ridden 21 = .ok (.iconst 0, 1) := by decide +kernel
theorem dX7_ridden_22 : decode cX7_ridden 22 = .ok (.istore 4, 2) := by decide +kernel
theorem dX7_ridden_24 : decode cX7_ridden 24 = .ok (.iconst 0, 1) := by decide +kernel
theorem dX7_ridden_25 : decode cX7_ridden 25 = .ok (.istore 5, 2) := by decide +kernel
theorem dX7_ridden_27 : decode cX7_ridden 27 = .ok (.iload 5, 2) := by decide +kernel
theorem dX7_ridden_29 : decode cX7_ridden 29 = .ok (.aload_n 0, 1) := by decide +kernel
theorem dX7_ridden_30 : decode cX7_ridden 30 = .ok (.getfield 13, 3) := by decide +kernel
theorem dX7_ridden_33 : decode cX7_ridden 33 = .ok (.iload_n 1, 1) := by decide +kernel
theorem dX7_ridden_34 : decode cX7_ridden 34 = .ok (.iaload, 1) := by decide +kernel
theorem dX7_ridden_35 : decode cX7_ridden 35 = .ok (.iconst 1, 1) := by decide +kernel
theorem dX7_ridden_36 : decode cX7_ridden 36 = .ok (.isub, 1) := by decide +kernel
theorem dX7_ridden_37 : decode cX7_ridden 37 = .ok (.if_icmp .ge 58, 3) := by decide +kernel
theorem dX7_ridden_40 : decode cX7_ridden 40 = .ok (.lload_n 2, 1) := by decide +kernel
theorem dX7_ridden_41 : decode cX7_ridden 41 = .ok (.aload_n 0, 1) := by decide +kernel
theorem dX7_ridden_42 : decode cX7_ridden 42 = .ok (.getfield 104, 3) := by decide +kernel
theorem dX7_ridden_45 : decode cX7_ridden 45 = .ok (.iload_n 1, 1) := by decide +kernel
theorem dX7_ridden_46 : decode cX7_ridden 46 = .ok (.iload 5, 2) := by decide +kernel
theorem dX7_ridden_48 : decode cX7_ridden 48 = .ok (.invokestatic 165, 3) := by decide +kernel
theorem dX7_ridden_51 : decode cX7_ridden 51 = .ok (.laload, 1) := by decide +kernel
theorem dX7_ridden_52 : decode cX7_ridden 52 = .ok (.ladd, 1) := by decide +kernel
theorem dX7_ridden_53 : decode cX7_ridden 53 = .ok (.lstore_n 2, 1) := by decide +kernel
theorem dX7_ridden_54 : decode cX7_ridden 54 = .ok (.aload_n 0, 1) := by decide +kernel
theorem dX7_ridden_55 : decode cX7_ridden 55 = .ok (.getfield 101, 3) := by decide +kernel
theorem dX7_ridden_58 : decode cX7_ridden 58 = .ok (.iload_n 1, 1) := by decide +kernel
theorem dX7_ridden_59 : decode cX7_ridden 59 = .ok (.iload 5, 2) := by decide +kernel
theorem dX7_ridden_61 : decode cX7_ridden 61 = .ok (.invokestatic 165, 3) := by decide +kernel
theorem dX7_ridden_64 : decode cX7_ridden 64 = .ok (.laload, 1) := by decide +kernel
theorem dX7_ridden_65 : decode cX7_ridden 65 = .ok (.aload_n 0, 1) := by decide +kernel
theorem dX7_ridden_66 : decode cX7_ridden 66 = .ok (.getfield 101, 3) := by decide +kernel
theorem dX7_ridden_69 : decode cX7_ridden 69 = .ok (.iload_n 1, 1) := by decide +kernel
theorem dX7_ridden_70 : decode cX7_ridden 70 = .ok (.iload 4, 2) := by decide +kernel
theorem dX7_ridden_72 : decode cX7_ridden 72 = .ok (.invokestatic 165, 3) := by decide +kernel
theorem dX7_ridden_75 : decode cX7_ridden 75 = .ok (.laload, 1) := by decide +kernel
theorem dX7_ridden_76 : decode cX7_ridden 76 = .ok (.lcmp, 1) := by decide +kernel
theorem dX7_ridden_77 : decode cX7_ridden 77 = .ok (.ifCond .le 8, 3) := by decide +kernel
theorem dX7_ridden_80 : decode cX7_ridden 80 = .ok (.iload 5, 2) := by decide +kernel
theorem dX7_ridden_82 : decode cX7_ridden 82 = .ok (.goto 5, 3) := by decide +kernel
theorem dX7_ridden_85 : decode cX7_ridden 85 = .ok (.iload 4, 2) := by decide +kernel
theorem dX7_ridden_87 : decode cX7_ridden 87 = .ok (.istore 4, 2) := by decide +kernel
theorem dX7_ridden_89 : decode cX7_ridden 89 = .ok (.iinc 5 1, 3) := by decide +kernel
theorem dX7_ridden_92 : decode cX7_ridden 92 = .ok (.goto (-65), 3) := by decide +kernel
theorem dX7_ridden_95 : decode cX7_ridden 95 = .ok (.aload_n 0, 1) := by decide +kernel
theorem dX7_ridden_96 : decode cX7_ridden 96 = .ok (.iconst 0, 1) := by decide +kernel
theorem dX7_ridden_97 : decode cX7_ridden 97 = .ok (.putfield 119, 3) := by decide +kernel
theorem dX7_ridden_100 : decode cX7_ridden 100 = .ok (.aload_n 0, 1) := by decide +kernel
theorem dX7_ridden_101 : decode cX7_ridden 101 = .ok (.aload_n 0, 1) := by decide +kernel
theorem dX7_ridden_102 : decode cX7_ridden 102 = .ok (.getfield 101, 3) := by decide +kernel
theorem dX7_ridden_105 : decode cX7_ridden 105 = .ok (.iload_n 1, 1) := by decide +kernel
theorem dX7_ridden_106 : decode cX7_ridden 106 = .ok (.iload 4, 2) := by decide +kernel
theorem dX7_ridden_108 : decode cX7_ridden 108 = .ok (.invokestatic 165, 3) := by decide +kernel
theorem dX7_ridden_111 : decode cX7_ridden 111 = .ok (.laload, 1) := by decide +kernel
theorem dX7_ridden_112 : decode cX7_ridden 112 = .ok (.invokevirtual 211, 3) := by decide +kernel
theorem dX7_ridden_115 : decode cX7_ridden 115 = .ok (.aload_n 0, 1) := by decide +kernel
theorem dX7_ridden_116 : decode cX7_ridden 116 = .ok (.iload 4, 2) := by decide +kernel
theorem dX7_ridden_118 : decode cX7_ridden 118 = .ok (.i2l, 1) := by decide +kernel
theorem dX7_ridden_119 : decode cX7_ridden 119 = .ok (.invokevirtual 211, 3) := by decide +kernel
theorem dX7_ridden_122 : decode cX7_ridden 122 = .ok (.lload_n 2, 1) := by decide +kernel
theorem dX7_ridden_123 : decode cX7_ridden 123 = .ok (.l2i, 1) := by decide +kernel
theorem dX7_ridden_124 : decode cX7_ridden 124 = .ok (.ireturn, 1) := by decide +kernel
theorem dX7_boardings_0 : decode cX7_boardings 0 = .ok (.aload_n 0, 1) := by decide +kernel
theorem dX7_boardings_1 : decode cX7_boardings 1 = .ok (.iconst 0, 1) := by decide +kernel
theorem dX7_boardings_2 : decode cX7_boardings 2 = .ok (.putfield 116, 3) := by decide +kernel
theorem dX7_boardings_5 : decode cX7_boardings 5 = .ok (.aload_n 0, 1) := by decide +kernel
theorem dX7_boardings_6 : decode cX7_boardings 6 = .ok (.iload_n 1, 1) := by decide +kernel
theorem dX7_boardings_7 : decode cX7_boardings 7 = .ok (.iload_n 2, 1) := by decide +kernel
theorem dX7_boardings_8 : decode cX7_boardings 8 = .ok (.invokevirtual 207, 3) := by decide +kernel
theorem dX7_boardings_11 : decode cX7_boardings 11 = .ok (.ifCond .ne 5, 3) := by decide +kernel
theorem dX7_boardings_14 : decode cX7_boardings 14 = .ok (.iconst (-1), 1) := by decide +kernel
theorem dX7_boardings_15 : decode cX7_boardings 15 = .ok (.ireturn, 1) := by decide +kernel
theorem dX7_boardings_16 : decode cX7_boardings 16 = .ok (.aload_n 0, 1) := by decide +kernel
theorem dX7_boardings_17 : decode cX7_boardings 17 = .ok (.invokevirtual 272, 3) := by decide +kernel
theorem dX7_boardings_20 : decode cX7_boardings 20 = .ok (.aload_n 0, 1) := by decide +kernel
theorem dX7_boardings_21 : decode cX7_boardings 21 = .ok (.iconst 0, 1) := by decide +kernel
theorem dX7_boardings_22 : decode cX7_boardings 22 = .ok (.putfield 119, 3) := by decide +kernel
theorem dX7_boardings_25 : decode cX7_boardings 25 = .ok (.aload_n 0, 1) := by decide +kernel
theorem dX7_boardings_26 : decode cX7_boardings 26 = .ok (.aload_n 0, 1) := by decide +kernel
theorem dX7_boardings_27 : decode cX7_boardings 27 = .ok (.getfield 107, 3) := by decide +kernel
theorem dX7_boardings_30 : decode cX7_boardings 30 = .ok (.iload_n 1, 1) := by decide +kernel
theorem dX7_boardings_31 : decode cX7_boardings 31 = .ok (.iload_n 2, 1) := by decide +kernel
theorem dX7_boardings_32 : decode cX7_boardings 32 = .ok (.invokestatic 165, 3) := by decide +kernel
theorem dX7_boardings_35 : decode cX7_boardings 35 = .ok (.laload, 1) := by decide +kernel
theorem dX7_boardings_36 : decode cX7_boardings 36 = .ok (.invokevirtual 211, 3) := by decide +kernel
theorem dX7_boardings_39 : decode cX7_boardings 39 = .ok (.aload_n 0, 1) := by decide +kernel
theorem dX7_boardings_40 : decode cX7_boardings 40 = .ok (.getfield 104, 3) := by decide +kernel
theorem dX7_boardings_43 : decode cX7_boardings 43 = .ok (.iload_n 1, 1) := by decide +kernel
theorem dX7_boardings_44 : decode cX7_boardings 44 = .ok (.iload_n 2, 1) := by decide +kernel
theorem dX7_boardings_45 : decode cX7_boardings 45 = .ok (.invokestatic 165, 3) := by decide +kernel
theorem dX7_boardings_48 : decode cX7_boardings 48 = .ok (.laload, 1) := by decide +kernel
theorem dX7_boardings_49 : decode cX7_boardings 49 = .ok (.l2i, 1) := by decide +kernel
theorem dX7_boardings_50 : decode cX7_boardings 50 = .ok (.ireturn, 1) := by decide +kernel
theorem dX7_total_0 : decode cX7_total 0 = .ok (.aload_n 0, 1) := by decide +kernel
theorem dX7_total_1 : decode cX7_total 1 = .ok (.iconst 0, 1) := by decide +kernel
theorem dX7_total_2 : decode cX7_total 2 = .ok (.putfield 116, 3) := by decide +kernel
theorem dX7_total_5 : decode cX7_total 5 = .ok (.aload_n 0, 1) := by decide +kernel
theorem dX7_total_6 : decode cX7_total 6 = .ok (.invokevirtual 272, 3) := by decide +kernel
theorem dX7_total_9 : decode cX7_total 9 = .ok (.lconst 0, 1) := by decide +kernel
theorem dX7_total_10 : decode cX7_total 10 = .ok (.lstore_n 1, 1) := by decide +kernel
theorem dX7_total_11 : decode cX7_total 11 = .ok (.iconst 0, 1) := by decide +kernel
theorem dX7_total_12 : decode cX7_total 12 = .ok (.istore_n 3, 1) := by decide +kernel
theorem dX7_total_13 : decode cX7_total 13 = .ok (.iload_n 3, 1) := by decide +kernel
theorem dX7_total_14 : decode cX7_total 14 = .ok (.aload_n 0, 1) := by decide +kernel
theorem dX7_total_15 : decode cX7_total 15 = .ok (.getfield 129, 3) := by decide +kernel
theorem dX7_total_18 : decode cX7_total 18 = .ok (.if_icmp .ge 53, 3) := by decide +kernel
theorem dX7_total_21 : decode cX7_total 21 = .ok (.iconst 0, 1) := by decide +kernel
theorem dX7_total_22 : decode cX7_total 22 = .ok (.istore 4, 2) := by decide +kernel
theorem dX7_total_24 : decode cX7_total 24 = .ok (.iload 4, 2) := by decide +kernel
theorem dX7_total_26 : decode cX7_total 26 = .ok (.aload_n 0, 1) := by decide +kernel
theorem dX7_total_27 : decode cX7_total 27 = .ok (.getfield 13, 3) := by decide +kernel
theorem dX7_total_30 : decode cX7_total 30 = .ok (.iload_n 3, 1) := by decide +kernel
theorem dX7_total_31 : decode cX7_total 31 = .ok (.iaload, 1) := by decide +kernel
theorem dX7_total_32 : decode cX7_total 32 = .ok (.iconst 1, 1) := by decide +kernel
theorem dX7_total_33 : decode cX7_total 33 = .ok (.isub, 1) := by decide +kernel
theorem dX7_total_34 : decode cX7_total 34 = .ok (.if_icmp .ge 31, 3) := by decide +kernel
theorem dX7_total_37 : decode cX7_total 37 = .ok (.lload_n 1, 1) := by decide +kernel
theorem dX7_total_38 : decode cX7_total 38 = .ok (.aload_n 0, 1) := by decide +kernel
theorem dX7_total_39 : decode cX7_total 39 = .ok (.getfield 101, 3) := by decide +kernel
theorem dX7_total_42 : decode cX7_total 42 = .ok (.iload_n 3, 1) := by decide +kernel
theorem dX7_total_43 : decode cX7_total 43 = .ok (.iload 4, 2) := by decide +kernel
theorem dX7_total_45 : decode cX7_total 45 = .ok (.invokestatic 165, 3) := by decide +kernel
theorem dX7_total_48 : decode cX7_total 48 = .ok (.laload, 1) := by decide +kernel
theorem dX7_total_49 : decode cX7_total 49 = .ok (.aload_n 0, 1) := by decide +kernel
theorem dX7_total_50 : decode cX7_total 50 = .ok (.iload_n 3, 1) := by decide +kernel
theorem dX7_total_51 : decode cX7_total 51 = .ok (.iload 4, 2) := by decide +kernel
theorem dX7_total_53 : decode cX7_total 53 = .ok (.invokevirtual 217, 3) := by decide +kernel
theorem dX7_total_56 : decode cX7_total 56 = .ok (.lmul, 1) := by decide +kernel
theorem dX7_total_57 : decode cX7_total 57 = .ok (.ladd, 1) := by decide +kernel
theorem dX7_total_58 : decode cX7_total 58 = .ok (.lstore_n 1, 1) := by decide +kernel
theorem dX7_total_59 : decode cX7_total 59 = .ok (.iinc 4 1, 3) := by decide +kernel
theorem dX7_total_62 : decode cX7_total 62 = .ok (.goto (-38), 3) := by decide +kernel
theorem dX7_total_65 : decode cX7_total 65 = .ok (.iinc 3 1, 3) := by decide +kernel
theorem dX7_total_68 : decode cX7_total 68 = .ok (.goto (-55), 3) := by decide +kernel
theorem dX7_total_71 : decode cX7_total 71 = .ok (.aload_n 0, 1) := by decide +kernel
theorem dX7_total_72 : decode cX7_total 72 = .ok (.iconst 0, 1) := by decide +kernel
theorem dX7_total_73 : decode cX7_total 73 = .ok (.putfield 119, 3) := by decide +kernel
theorem dX7_total_76 : decode cX7_total 76 = .ok (.aload_n 0, 1) := by decide +kernel
theorem dX7_total_77 : decode cX7_total 77 = .ok (.aload_n 0, 1) := by decide +kernel
theorem dX7_total_78 : decode cX7_total 78 = .ok (.invokevirtual 275, 3) := by decide +kernel
theorem dX7_total_81 : decode cX7_total 81 = .ok (.invokevirtual 211, 3) := by decide +kernel
theorem dX7_total_84 : decode cX7_total 84 = .ok (.aload_n 0, 1) := by decide +kernel
theorem dX7_total_85 : decode cX7_total 85 = .ok (.lload_n 1, 1) := by decide +kernel
theorem dX7_total_86 : decode cX7_total 86 = .ok (.invokevirtual 211, 3) := by decide +kernel
theorem dX7_total_89 : decode cX7_total 89 = .ok (.aload_n 0, 1) := by decide +kernel
theorem dX7_total_90 : decode cX7_total 90 = .ok (.invokevirtual 279, 3) := by decide +kernel
theorem dX7_total_93 : decode cX7_total 93 = .ok (.lreturn, 1) := by decide +kernel
theorem dX7_fullest_0 : decode cX7_fullest 0 = .ok (.aload_n 0, 1) := by decide +kernel
theorem dX7_fullest_1 : decode cX7_fullest 1 = .ok (.iconst 0, 1) := by decide +kernel
theorem dX7_fullest_2 : decode cX7_fullest 2 = .ok (.putfield 116, 3) := by decide +kernel
theorem dX7_fullest_5 : decode cX7_fullest 5 = .ok (.aload_n 0, 1) := by decide +kernel
theorem dX7_fullest_6 : decode cX7_fullest 6 = .ok (.getfield 129, 3) := by decide +kernel
theorem dX7_fullest_9 : decode cX7_fullest 9 = .ok (.ifCond .ne 6, 3) := by decide +kernel
theorem dX7_fullest_12 : decode cX7_fullest 12 = .ok (.bipush (-2), 2) := by decide +kernel
theorem dX7_fullest_14 : decode cX7_fullest 14 = .ok (.ireturn, 1) := by decide +kernel
theorem dX7_fullest_15 : decode cX7_fullest 15 = .ok (.aload_n 0, 1) := by decide +kernel
theorem dX7_fullest_16 : decode cX7_fullest 16 = .ok (.invokevirtual 272, 3) := by decide +kernel
theorem dX7_fullest_19 : decode cX7_fullest 19 = .ok (.iconst 0, 1) := by decide +kernel
theorem dX7_fullest_20 : decode cX7_fullest 20 = .ok (.istore_n 1, 1) := by decide +kernel
theorem dX7_fullest_21 : decode cX7_fullest 21 = .ok (.iconst 0, 1) := by decide +kernel
theorem dX7_fullest_22 : decode cX7_fullest 22 = .ok (.istore_n 2, 1) := by decide +kernel
theorem dX7_fullest_23 : decode cX7_fullest 23 = .ok (.iload_n 2, 1) := by decide +kernel
theorem dX7_fullest_24 : decode cX7_fullest 24 = .ok (.aload_n 0, 1) := by decide +kernel
theorem dX7_fullest_25 : decode cX7_fullest 25 = .ok (.getfield 129, 3) := by decide +kernel
theorem dX7_fullest_28 : decode cX7_fullest 28 = .ok (.if_icmp .ge 55, 3) := by decide +kernel
theorem dX7_fullest_31 : decode cX7_fullest 31 = .ok (.iconst 0, 1) := by decide +kernel
theorem dX7_fullest_32 : decode cX7_fullest 32 = .ok (.istore_n 3, 1) := by decide +kernel
theorem dX7_fullest_33 : decode cX7_fullest 33 = .ok (.iload_n 3, 1) := by decide +kernel
theorem dX7_fullest_34 : decode cX7_fullest 34 = .ok (.aload_n 0, 1) := by decide +kernel
theorem dX7_fullest_35 : decode cX7_fullest 35 = .ok (.getfield 13, 3) := by decide +kernel
theorem dX7_fullest_38 : decode cX7_fullest 38 = .ok (.iload_n 2, 1) := by decide +kernel
theorem dX7_fullest_39 : decode cX7_fullest 39 = .ok (.iaload, 1) := by decide +kernel
theorem dX7_fullest_40 : decode cX7_fullest 40 = .ok (.iconst 1, 1) := by decide +kernel
theorem dX7_fullest_41 : decode cX7_fullest 41 = .ok (.isub, 1) := by decide +kernel
theorem dX7_fullest_42 : decode cX7_fullest 42 = .ok (.if_icmp .ge 35, 3) := by decide +kernel
theorem dX7_fullest_45 : decode cX7_fullest 45 = .ok (.aload_n 0, 1) := by decide +kernel
theorem dX7_fullest_46 : decode cX7_fullest 46 = .ok (.getfield 101, 3) := by decide +kernel
theorem dX7_fullest_49 : decode cX7_fullest 49 = .ok (.iload_n 2, 1) := by decide +kernel
theorem dX7_fullest_50 : decode cX7_fullest 50 = .ok (.iload_n 3, 1) := by decide +kernel
theorem dX7_fullest_51 : decode cX7_fullest 51 = .ok (.invokestatic 165, 3) := by decide +kernel
theorem dX7_fullest_54 : decode cX7_fullest 54 = .ok (.laload, 1) := by decide +kernel
theorem dX7_fullest_55 : decode cX7_fullest 55 = .ok (.aload_n 0, 1) := by decide +kernel
theorem dX7_fullest_56 : decode cX7_fullest 56 = .ok (.getfield 101, 3) := by decide +kernel
theorem dX7_fullest_59 : decode cX7_fullest 59 = .ok (.iload_n 1, 1) := by decide +kernel
theorem dX7_fullest_60 : decode cX7_fullest 60 = .ok (.laload, 1) := by decide +kernel
theorem dX7_fullest_61 : decode cX7_fullest 61 = .ok (.lcmp, 1) := by decide +kernel
theorem dX7_fullest_62 : decode cX7_fullest 62 = .ok (.ifCond .le 9, 3) := by decide +kernel
theorem dX7_fullest_65 : decode cX7_fullest 65 = .ok (.iload_n 2, 1) := by decide +kernel
theorem dX7_fullest_66 : decode cX7_fullest 66 = .ok (.iload_n 3, 1) := by decide +kernel
theorem dX7_fullest_67 : decode cX7_fullest 67 = .ok (.invokestatic 165, 3) := by decide +kernel
theorem dX7_fullest_70 : decode cX7_fullest 70 = .ok (.istore_n 1, 1) := by decide +kernel
theorem dX7_fullest_71 : decode cX7_fullest 71 = .ok (.iinc 3 1, 3) := by decide +kernel
theorem dX7_fullest_74 : decode cX7_fullest 74 = .ok (.goto (-41), 3) := by decide +kernel
theorem dX7_fullest_77 : decode cX7_fullest 77 = .ok (.iinc 2 1, 3) := by decide +kernel
theorem dX7_fullest_80 : decode cX7_fullest 80 = .ok (.goto (-57), 3) := by decide +kernel
theorem dX7_fullest_83 : decode cX7_fullest 83 = .ok (.aload_n 0, 1) := by decide +kernel
theorem dX7_fullest_84 : decode cX7_fullest 84 = .ok (.iconst 0, 1) := by decide +kernel
theorem dX7_fullest_85 : decode cX7_fullest 85 = .ok (.putfield 119, 3) := by decide +kernel
theorem dX7_fullest_88 : decode cX7_fullest 88 = .ok (.aload_n 0, 1) := by decide +kernel
theorem dX7_fullest_89 : decode cX7_fullest 89 = .ok (.aload_n 0, 1) := by decide +kernel
theorem dX7_fullest_90 : decode cX7_fullest 90 = .ok (.getfield 101, 3) := by decide +kernel
theorem dX7_fullest_93 : decode cX7_fullest 93 = .ok (.iload_n 1, 1) := by decide +kernel
theorem dX7_fullest_94 : decode cX7_fullest 94 = .ok (.laload, 1) := by decide +kernel
theorem dX7_fullest_95 : decode cX7_fullest 95 = .ok (.invokevirtual 211, 3) := by decide +kernel
theorem dX7_fullest_98 : decode cX7_fullest 98 = .ok (.bipush 100, 2) := by decide +kernel
theorem dX7_fullest_100 : decode cX7_fullest 100 = .ok (.iload_n 1, 1) := by decide +kernel
theorem dX7_fullest_101 : decode cX7_fullest 101 = .ok (.bipush 8, 2) := by decide +kernel
theorem dX7_fullest_103 : decode cX7_fullest 103 = .ok (.idiv, 1) := by decide +kernel
theorem dX7_fullest_104 : decode cX7_fullest 104 = .ok (.imul, 1) := by decide +kernel
theorem dX7_fullest_105 : decode cX7_fullest 105 = .ok (.iload_n 1, 1) := by decide +kernel
theorem dX7_fullest_106 : decode cX7_fullest 106 = .ok (.bipush 8, 2) := by decide +kernel
theorem dX7_fullest_108 : decode cX7_fullest 108 = .ok (.irem, 1) := by decide +kernel
theorem dX7_fullest_109 : decode cX7_fullest 109 = .ok (.iadd, 1) := by decide +kernel
theorem dX7_fullest_110 : decode cX7_fullest 110 = .ok (.ireturn, 1) := by decide +kernel
theorem dX7_changes_0 : decode cX7_changes 0 = .ok (.aload_n 0, 1) := by decide +kernel
theorem dX7_changes_1 : decode cX7_changes 1 = .ok (.iconst 0, 1) := by decide +kernel
theorem dX7_changes_2 : decode cX7_changes 2 = .ok (.putfield 116, 3) := by decide +kernel
theorem dX7_changes_5 : decode cX7_changes 5 = .ok (.aload_n 0, 1) := by decide +kernel
theorem dX7_changes_6 : decode cX7_changes 6 = .ok (.invokevirtual 272, 3) := by decide +kernel
theorem dX7_changes_9 : decode cX7_changes 9 = .ok (.lconst 0, 1) := by decide +kernel
theorem dX7_changes_10 : decode cX7_changes 10 = .ok (.lstore_n 1, 1) := by decide +kernel
theorem dX7_changes_11 : decode cX7_changes 11 = .ok (.iconst 0, 1) := by decide +kernel
theorem dX7_changes_12 : decode cX7_changes 12 = .ok (.istore_n 3, 1) := by decide +kernel
theorem dX7_changes_13 : decode cX7_changes 13 = .ok (.iload_n 3, 1) := by decide +kernel
theorem dX7_changes_14 : decode cX7_changes 14 = .ok (.bipush 10, 2) := by decide +kernel
theorem dX7_changes_16 : decode cX7_changes 16 = .ok (.if_icmp .ge 30, 3) := by decide +kernel
theorem dX7_changes_19 : decode cX7_changes 19 = .ok (.lload_n 1, 1) := by decide +kernel
theorem dX7_changes_20 : decode cX7_changes 20 = .ok (.iload_n 3, 1) := by decide +kernel
theorem dX7_changes_21 : decode cX7_changes 21 = .ok (.aload_n 0, 1) := by decide +kernel
theorem dX7_changes_22 : decode cX7_changes 22 = .ok (.getfield 197, 3) := by decide +kernel
theorem dX7_changes_25 : decode cX7_changes 25 = .ok (.if_icmp .ne 7, 3) := by decide +kernel
theorem dX7_changes_28 : decode cX7_changes 28 = .ok (.lconst 0, 1) := by decide +kernel
theorem dX7_changes_29 : decode cX7_changes 29 = .ok (.goto 9, 3) := by decide +kernel
theorem dX7_changes_32 : decode cX7_changes 32 = .ok (.aload_n 0, 1) := by decide +kernel
theorem dX7_changes_33 : decode cX7_changes 33 = .ok (.getfield 110, 3) := by decide +kernel
theorem dX7_changes_36 : decode cX7_changes 36 = .ok (.iload_n 3, 1) := by decide +kernel
theorem dX7_changes_37 : decode cX7_changes 37 = .ok (.laload, 1) := by decide +kernel
theorem dX7_changes_38 : decode cX7_changes 38 = .ok (.ladd, 1) := by decide +kernel
theorem dX7_changes_39 : decode cX7_changes 39 = .ok (.lstore_n 1, 1) := by decide +kernel
theorem dX7_changes_40 : decode cX7_changes 40 = .ok (.iinc 3 1, 3) := by decide +kernel
theorem dX7_changes_43 : decode cX7_changes 43 = .ok (.goto (-30), 3) := by decide +kernel
theorem dX7_changes_46 : decode cX7_changes 46 = .ok (.lload_n 1, 1) := by decide +kernel
theorem dX7_changes_47 : decode cX7_changes 47 = .ok (.l2i, 1) := by decide +kernel
theorem dX7_changes_48 : decode cX7_changes 48 = .ok (.ireturn, 1) := by decide +kernel
theorem dX7_crowd_0 : decode cX7_crowd 0 = .ok (.aload_n 0, 1) := by decide +kernel
theorem dX7_crowd_1 : decode cX7_crowd 1 = .ok (.iconst 0, 1) := by decide +kernel
theorem dX7_crowd_2 : decode cX7_crowd 2 = .ok (.putfield 116, 3) := by decide +kernel
theorem dX7_crowd_5 : decode cX7_crowd 5 = .ok (.iload_n 1, 1) := by decide +kernel
theorem dX7_crowd_6 : decode cX7_crowd 6 = .ok (.i2l, 1) := by decide +kernel
theorem dX7_crowd_7 : decode cX7_crowd 7 = .ok (.lconst 0, 1) := by decide +kernel
theorem dX7_crowd_8 : decode cX7_crowd 8 = .ok (.ldc2_w 200, 3) := by decide +kernel
theorem dX7_crowd_11 : decode cX7_crowd 11 = .ok (.invokestatic 125, 3) := by decide +kernel
theorem dX7_crowd_14 : decode cX7_crowd 14 = .ok (.ifCond .ne 5, 3) := by decide +kernel
theorem dX7_crowd_17 : decode cX7_crowd 17 = .ok (.iconst (-1), 1) := by decide +kernel
theorem dX7_crowd_18 : decode cX7_crowd 18 = .ok (.ireturn, 1) := by decide +kernel
theorem dX7_crowd_19 : decode cX7_crowd 19 = .ok (.aload_n 0, 1) := by decide +kernel
theorem dX7_crowd_20 : decode cX7_crowd 20 = .ok (.getfield 282, 3) := by decide +kernel
theorem dX7_crowd_23 : decode cX7_crowd 23 = .ok (.istore_n 2, 1) := by decide +kernel
theorem dX7_crowd_24 : decode cX7_crowd 24 = .ok (.aload_n 0, 1) := by decide +kernel
theorem dX7_crowd_25 : decode cX7_crowd 25 = .ok (.iload_n 1, 1) := by decide +kernel
theorem dX7_crowd_26 : decode cX7_crowd 26 = .ok (.putfield 282, 3) := by decide +kernel
theorem dX7_crowd_29 : decode cX7_crowd 29 = .ok (.iload_n 2, 1) := by decide +kernel
theorem dX7_crowd_30 : decode cX7_crowd 30 = .ok (.ireturn, 1) := by decide +kernel
theorem dX7_seats_0 : decode cX7_seats 0 = .ok (.aload_n 0, 1) := by decide +kernel
theorem dX7_seats_1 : decode cX7_seats 1 = .ok (.iconst 0, 1) := by decide +kernel
theorem dX7_seats_2 : decode cX7_seats 2 = .ok (.putfield 116, 3) := by decide +kernel
theorem dX7_seats_5 : decode cX7_seats 5 = .ok (.aload_n 0, 1) := by decide +kernel
theorem dX7_seats_6 : decode cX7_seats 6 = .ok (.iload_n 1, 1) := by decide +kernel
theorem dX7_seats_7 : decode cX7_seats 7 = .ok (.invokevirtual 134, 3) := by decide +kernel
theorem dX7_seats_10 : decode cX7_seats 10 = .ok (.ifCond .eq 15, 3) := by decide +kernel
theorem dX7_seats_13 : decode cX7_seats 13 = .ok (.iload_n 2, 1) := by decide +kernel
theorem dX7_seats_14 : decode cX7_seats 14 = .ok (.i2l, 1) := by decide +kernel
theorem dX7_seats_15 : decode cX7_seats 15 = .ok (.lconst 1, 1) := by decide +kernel
theorem dX7_seats_16 : decode cX7_seats 16 = .ok (.ldc2_w 285, 3) := by decide +kernel
theorem dX7_seats_19 : decode cX7_seats 19 = .ok (.invokestatic 125, 3) := by decide +kernel
theorem dX7_seats_22 : decode cX7_seats 22 = .ok (.ifCond .ne 5, 3) := by decide +kernel
theorem dX7_seats_25 : decode cX7_seats 25 = .ok (.iconst (-1), 1) := by decide +kernel
theorem dX7_seats_26 : decode cX7_seats 26 = .ok (.ireturn, 1) := by decide +kernel
theorem dX7_seats_27 : decode cX7_seats 27 = .ok (.aload_n 0, 1) := by decide +kernel
theorem dX7_seats_28 : decode cX7_seats 28 = .ok (.getfield 29, 3) := by decide +kernel
theorem dX7_seats_31 : decode cX7_seats 31 = .ok (.iload_n 1, 1) := by decide +kernel
theorem dX7_seats_32 : decode cX7_seats 32 = .ok (.iaload, 1) := by decide +kernel
theorem dX7_seats_33 : decode cX7_seats 33 = .ok (.istore_n 3, 1) := by decide +kernel
theorem dX7_seats_34 : decode cX7_seats 34 = .ok (.aload_n 0, 1) := by decide +kernel
theorem dX7_seats_35 : decode cX7_seats 35 = .ok (.getfield 29, 3) := by decide +kernel
theorem dX7_seats_38 : decode cX7_seats 38 = .ok (.iload_n 1, 1) := by decide +kernel
theorem dX7_seats_39 : decode cX7_seats 39 = .ok (.iload_n 2, 1) := by decide +kernel
theorem dX7_seats_40 : decode cX7_seats 40 = .ok (.iastore, 1) := by decide +kernel
theorem dX7_seats_41 : decode cX7_seats 41 = .ok (.iload_n 3, 1) := by decide +kernel
theorem dX7_seats_42 : decode cX7_seats 42 = .ok (.ireturn, 1) := by decide +kernel
theorem dX7_settlesOnce_0 : decode cX7_settlesOnce 0 = .ok (.aload_n 0, 1) := by decide +kernel
theorem dX7_settlesOnce_1 : decode cX7_settlesOnce 1 = .ok (.invokevirtual 272, 3) := by decide +kernel
theorem dX7_settlesOnce_4 : decode cX7_settlesOnce 4 = .ok (.aload_n 0, 1) := by decide +kernel
theorem dX7_settlesOnce_5 : decode cX7_settlesOnce 5 = .ok (.dup, 1) := by decide +kernel
theorem dX7_settlesOnce_6 : decode cX7_settlesOnce 6 = .ok (.getfield 192, 3) := by decide +kernel
theorem dX7_settlesOnce_9 : decode cX7_settlesOnce 9 = .ok (.iconst 1, 1) := by decide +kernel
theorem dX7_settlesOnce_10 : decode cX7_settlesOnce 10 = .ok (.iadd, 1) := by decide +kernel
theorem dX7_settlesOnce_11 : decode cX7_settlesOnce 11 = .ok (.putfield 192, 3) := by decide +kernel
theorem dX7_settlesOnce_14 : decode cX7_settlesOnce 14 = .ok (.aload_n 0, 1) := by decide +kernel
theorem dX7_settlesOnce_15 : decode cX7_settlesOnce 15 = .ok (.lconst 0, 1) := by decide +kernel
theorem dX7_settlesOnce_16 : decode cX7_settlesOnce 16 = .ok (.putfield 287, 3) := by decide +kernel
theorem dX7_settlesOnce_19 : decode cX7_settlesOnce 19 = .ok (.iconst 0, 1) := by decide +kernel
theorem dX7_settlesOnce_20 : decode cX7_settlesOnce 20 = .ok (.istore_n 1, 1) := by decide +kernel
theorem dX7_settlesOnce_21 : decode cX7_settlesOnce 21 = .ok (.iload_n 1, 1) := by decide +kernel
theorem dX7_settlesOnce_22 : decode cX7_settlesOnce 22 = .ok (.aload_n 0, 1) := by decide +kernel
theorem dX7_settlesOnce_23 : decode cX7_settlesOnce 23 = .ok (.getfield 129, 3) := by decide +kernel
theorem dX7_settlesOnce_26 : decode cX7_settlesOnce 26 = .ok (.if_icmp .ge 120, 3) := by decide +kernel
theorem dX7_settlesOnce_29 : decode cX7_settlesOnce 29 = .ok (.iconst 0, 1) := by decide +kernel
theorem dX7_settlesOnce_30 : decode cX7_settlesOnce 30 = .ok (.istore_n 2, 1) := by decide +kernel
theorem dX7_settlesOnce_31 : decode cX7_settlesOnce 31 = .ok (.iload_n 2, 1) := by decide +kernel
theorem dX7_settlesOnce_32 : decode cX7_settlesOnce 32 = .ok (.aload_n 0, 1) := by decide +kernel
theorem dX7_settlesOnce_33 : decode cX7_settlesOnce 33 = .ok (.getfield 13, 3) := by decide +kernel
theorem dX7_settlesOnce_36 : decode cX7_settlesOnce 36 = .ok (.iload_n 1, 1) := by decide +kernel
theorem dX7_settlesOnce_37 : decode cX7_settlesOnce 37 = .ok (.iaload, 1) := by decide +kernel
theorem dX7_settlesOnce_38 : decode cX7_settlesOnce 38 = .ok (.iconst 1, 1) := by decide +kernel
theorem dX7_settlesOnce_39 : decode cX7_settlesOnce 39 = .ok (.isub, 1) := by decide +kernel
theorem dX7_settlesOnce_40 : decode cX7_settlesOnce 40 = .ok (.if_icmp .ge 100, 3) := by decide +kernel
theorem dX7_settlesOnce_43 : decode cX7_settlesOnce 43 = .ok (.iload_n 1, 1) := by decide +kernel
theorem dX7_settlesOnce_44 : decode cX7_settlesOnce 44 = .ok (.iload_n 2, 1) := by decide +kernel
theorem dX7_settlesOnce_45 : decode cX7_settlesOnce 45 = .ok (.invokestatic 165, 3) := by decide +kernel
theorem dX7_settlesOnce_48 : decode cX7_settlesOnce 48 = .ok (.istore_n 3, 1) := by decide +kernel
theorem dX7_settlesOnce_49 : decode cX7_settlesOnce 49 = .ok (.aload_n 0, 1) := by decide +kernel
theorem dX7_settlesOnce_50 : decode cX7_settlesOnce 50 = .ok (.getfield 101, 3) := by decide +kernel
theorem dX7_settlesOnce_53 : decode cX7_settlesOnce 53 = .ok (.iload_n 3, 1) := by decide +kernel
theorem dX7_settlesOnce_54 : decode cX7_settlesOnce 54 = .ok (.laload, 1) := by decide +kernel
theorem dX7_settlesOnce_55 : decode cX7_settlesOnce 55 = .ok (.aload_n 0, 1) := by decide +kernel
theorem dX7_settlesOnce_56 : decode cX7_settlesOnce 56 = .ok (.getfield 26, 3) := by decide +kernel
theorem dX7_settlesOnce_59 : decode cX7_settlesOnce 59 = .ok (.iload_n 3, 1) := by decide +kernel
theorem dX7_settlesOnce_60 : decode cX7_settlesOnce 60 = .ok (.laload, 1) := by decide +kernel
theorem dX7_settlesOnce_61 : decode cX7_settlesOnce 61 = .ok (.lsub, 1) := by decide +kernel
theorem dX7_settlesOnce_62 : decode cX7_settlesOnce 62 = .ok (.lstore 4, 2) := by decide +kernel
theorem dX7_settlesOnce_64 : decode cX7_settlesOnce 64 = .ok (.aload_n 0, 1) := by decide +kernel
theorem dX7_settlesOnce_65 : decode cX7_settlesOnce 65 = .ok (.dup, 1) := by decide +kernel
theorem dX7_settlesOnce_66 : decode cX7_settlesOnce 66 = .ok (.getfield 287, 3) := by decide +kernel
theorem dX7_settlesOnce_69 : decode cX7_settlesOnce 69 = .ok (.lload 4, 2) := by decide +kernel
theorem dX7_settlesOnce_71 : decode cX7_settlesOnce 71 = .ok (.invokestatic 291, 3) := by decide +kernel
theorem dX7_settlesOnce_74 : decode cX7_settlesOnce 74 = .ok (.ladd, 1) := by decide +kernel
theorem dX7_settlesOnce_75 : decode cX7_settlesOnce 75 = .ok (.putfield 287, 3) := by decide +kernel
theorem dX7_settlesOnce_78 : decode cX7_settlesOnce 78 = .ok (.aload_n 0, 1) := by decide +kernel
theorem dX7_settlesOnce_79 : decode cX7_settlesOnce 79 = .ok (.getfield 26, 3) := by decide +kernel
theorem dX7_settlesOnce_82 : decode cX7_settlesOnce 82 = .ok (.iload_n 3, 1) := by decide +kernel
theorem dX7_settlesOnce_83 : decode cX7_settlesOnce 83 = .ok (.dup2, 1) := by decide +kernel
theorem dX7_settlesOnce_84 : decode cX7_settlesOnce 84 = .ok (.laload, 1) := by decide +kernel
theorem dX7_settlesOnce_85 : decode cX7_settlesOnce 85 = .ok (.lload 4, 2) := by decide +kernel
theorem dX7_settlesOnce_87 : decode cX7_settlesOnce 87 = .ok (.aload_n 0, 1) := by decide +kernel
theorem dX7_settlesOnce_88 : decode cX7_settlesOnce 88 = .ok (.getfield 192, 3) := by decide +kernel
theorem dX7_settlesOnce_91 : decode cX7_settlesOnce 91 = .ok (.i2l, 1) := by decide +kernel
theorem dX7_settlesOnce_92 : decode cX7_settlesOnce 92 = .ok (.ldiv, 1) := by decide +kernel
theorem dX7_settlesOnce_93 : decode cX7_settlesOnce 93 = .ok (.ladd, 1) := by decide +kernel
theorem dX7_settlesOnce_94 : decode cX7_settlesOnce 94 = .ok (.lastore, 1) := by decide +kernel
theorem dX7_settlesOnce_95 : decode cX7_settlesOnce 95 = .ok (.aload_n 0, 1) := by decide +kernel
theorem dX7_settlesOnce_96 : decode cX7_settlesOnce 96 = .ok (.getfield 22, 3) := by decide +kernel
theorem dX7_settlesOnce_99 : decode cX7_settlesOnce 99 = .ok (.iload_n 3, 1) := by decide +kernel
theorem dX7_settlesOnce_100 : decode cX7_settlesOnce 100 = .ok (.ldc2_w 297, 3) := by decide +kernel
theorem dX7_settlesOnce_103 : decode cX7_settlesOnce 103 = .ok (.aload_n 0, 1) := by decide +kernel
theorem dX7_settlesOnce_104 : decode cX7_settlesOnce 104 = .ok (.getfield 282, 3) := by decide +kernel
theorem dX7_settlesOnce_107 : decode cX7_settlesOnce 107 = .ok (.i2l, 1) := by decide +kernel
theorem dX7_settlesOnce_108 : decode cX7_settlesOnce 108 = .ok (.aload_n 0, 1) := by decide +kernel
theorem dX7_settlesOnce_109 : decode cX7_settlesOnce 109 = .ok (.getfield 26, 3) := by decide +kernel
theorem dX7_settlesOnce_112 : decode cX7_settlesOnce 112 = .ok (.iload_n 3, 1) := by decide +kernel
theorem dX7_settlesOnce_113 : decode cX7_settlesOnce 113 = .ok (.laload, 1) := by decide +kernel
theorem dX7_settlesOnce_114 : decode cX7_settlesOnce 114 = .ok (.lmul, 1) := by decide +kernel
theorem dX7_settlesOnce_115 : decode cX7_settlesOnce 115 = .ok (.aload_n 0, 1) := by decide +kernel
theorem dX7_settlesOnce_116 : decode cX7_settlesOnce 116 = .ok (.getfield 29, 3) := by decide +kernel
theorem dX7_settlesOnce_119 : decode cX7_settlesOnce 119 = .ok (.iload_n 1, 1) := by decide +kernel
theorem dX7_settlesOnce_120 : decode cX7_settlesOnce 120 = .ok (.iaload, 1) := by decide +kernel
theorem dX7_settlesOnce_121 : decode cX7_settlesOnce 121 = .ok (.aload_n 0, 1) := by decide +kernel
theorem dX7_settlesOnce_122 : decode cX7_settlesOnce 122 = .ok (.getfield 9, 3) := by decide +kernel
theorem dX7_settlesOnce_125 : decode cX7_settlesOnce 125 = .ok (.iload_n 1, 1) := by decide +kernel
theorem dX7_settlesOnce_126 : decode cX7_settlesOnce 126 = .ok (.iaload, 1) := by decide +kernel
theorem dX7_settlesOnce_127 : decode cX7_settlesOnce 127 = .ok (.imul, 1) := by decide +kernel
theorem dX7_settlesOnce_128 : decode cX7_settlesOnce 128 = .ok (.i2l, 1) := by decide +kernel
theorem dX7_settlesOnce_129 : decode cX7_settlesOnce 129 = .ok (.ldiv, 1) := by decide +kernel
theorem dX7_settlesOnce_130 : decode cX7_settlesOnce 130 = .ok (.invokestatic 299, 3) := by decide +kernel
theorem dX7_settlesOnce_133 : decode cX7_settlesOnce 133 = .ok (.lastore, 1) := by decide +kernel
theorem dX7_settlesOnce_134 : decode cX7_settlesOnce 134 = .ok (.iinc 2 1, 3) := by decide +kernel
theorem dX7_settlesOnce_137 : decode cX7_settlesOnce 137 = .ok (.goto (-106), 3) := by decide +kernel
theorem dX7_settlesOnce_140 : decode cX7_settlesOnce 140 = .ok (.iinc 1 1, 3) := by decide +kernel
theorem dX7_settlesOnce_143 : decode cX7_settlesOnce 143 = .ok (.goto (-122), 3) := by decide +kernel
theorem dX7_settlesOnce_146 : decode cX7_settlesOnce 146 = .ok (.return_, 1) := by decide +kernel
theorem dX7_settles_0 : decode cX7_settles 0 = .ok (.aload_n 0, 1) := by decide +kernel
theorem dX7_settles_1 : decode cX7_settles 1 = .ok (.iconst 0, 1) := by decide +kernel
theorem dX7_settles_2 : decode cX7_settles 2 = .ok (.putfield 116, 3) := by decide +kernel
theorem dX7_settles_5 : decode cX7_settles 5 = .ok (.iload_n 1, 1) := by decide +kernel
theorem dX7_settles_6 : decode cX7_settles 6 = .ok (.i2l, 1) := by decide +kernel
theorem dX7_settles_7 : decode cX7_settles 7 = .ok (.lconst 1, 1) := by decide +kernel
theorem dX7_settles_8 : decode cX7_settles 8 = .ok (.ldc2_w 303, 3) := by decide +kernel
theorem dX7_settles_11 : decode cX7_settles 11 = .ok (.invokestatic 125, 3) := by decide +kernel
theorem dX7_settles_14 : decode cX7_settles 14 = .ok (.ifCond .ne 5, 3) := by decide +kernel
theorem dX7_settles_17 : decode cX7_settles 17 = .ok (.iconst (-1), 1) := by decide +kernel
theorem dX7_settles_18 : decode cX7_settles 18 = .ok (.ireturn, 1) := by decide +kernel
theorem dX7_settles_19 : decode cX7_settles 19 = .ok (.iconst 0, 1) := by decide +kernel
theorem dX7_settles_20 : decode cX7_settles 20 = .ok (.istore_n 2, 1) := by decide +kernel
theorem dX7_settles_21 : decode cX7_settles 21 = .ok (.iload_n 2, 1) := by decide +kernel
theorem dX7_settles_22 : decode cX7_settles 22 = .ok (.iload_n 1, 1) := by decide +kernel
theorem dX7_settles_23 : decode cX7_settles 23 = .ok (.if_icmp .ge 13, 3) := by decide +kernel
theorem dX7_settles_26 : decode cX7_settles 26 = .ok (.aload_n 0, 1) := by decide +kernel
theorem dX7_settles_27 : decode cX7_settles 27 = .ok (.invokevirtual 305, 3) := by decide +kernel
theorem dX7_settles_30 : decode cX7_settles 30 = .ok (.iinc 2 1, 3) := by decide +kernel
theorem dX7_settles_33 : decode cX7_settles 33 = .ok (.goto (-12), 3) := by decide +kernel
theorem dX7_settles_36 : decode cX7_settles 36 = .ok (.aload_n 0, 1) := by decide +kernel
theorem dX7_settles_37 : decode cX7_settles 37 = .ok (.invokevirtual 246, 3) := by decide +kernel
theorem dX7_settles_40 : decode cX7_settles 40 = .ok (.aload_n 0, 1) := by decide +kernel
theorem dX7_settles_41 : decode cX7_settles 41 = .ok (.iconst 0, 1) := by decide +kernel
theorem dX7_settles_42 : decode cX7_settles 42 = .ok (.putfield 119, 3) := by decide +kernel
theorem dX7_settles_45 : decode cX7_settles 45 = .ok (.aload_n 0, 1) := by decide +kernel
theorem dX7_settles_46 : decode cX7_settles 46 = .ok (.aload_n 0, 1) := by decide +kernel
theorem dX7_settles_47 : decode cX7_settles 47 = .ok (.getfield 192, 3) := by decide +kernel
theorem dX7_settles_50 : decode cX7_settles 50 = .ok (.i2l, 1) := by decide +kernel
theorem dX7_settles_51 : decode cX7_settles 51 = .ok (.invokevirtual 211, 3) := by decide +kernel
theorem dX7_settles_54 : decode cX7_settles 54 = .ok (.aload_n 0, 1) := by decide +kernel
theorem dX7_settles_55 : decode cX7_settles 55 = .ok (.aload_n 0, 1) := by decide +kernel
theorem dX7_settles_56 : decode cX7_settles 56 = .ok (.invokevirtual 279, 3) := by decide +kernel
theorem dX7_settles_59 : decode cX7_settles 59 = .ok (.invokevirtual 211, 3) := by decide +kernel
theorem dX7_settles_62 : decode cX7_settles 62 = .ok (.aload_n 0, 1) := by decide +kernel
theorem dX7_settles_63 : decode cX7_settles 63 = .ok (.getfield 287, 3) := by decide +kernel
theorem dX7_settles_66 : decode cX7_settles 66 = .ok (.l2i, 1) := by decide +kernel
theorem dX7_settles_67 : decode cX7_settles 67 = .ok (.ireturn, 1) := by decide +kernel
theorem dX7_balances_0 : decode cX7_balances 0 = .ok (.aload_n 0, 1) := by decide +kernel
theorem dX7_balances_1 : decode cX7_balances 1 = .ok (.iconst 0, 1) := by decide +kernel
theorem dX7_balances_2 : decode cX7_balances 2 = .ok (.putfield 116, 3) := by decide +kernel
theorem dX7_balances_5 : decode cX7_balances 5 = .ok (.iload_n 2, 1) := by decide +kernel
theorem dX7_balances_6 : decode cX7_balances 6 = .ok (.i2l, 1) := by decide +kernel
theorem dX7_balances_7 : decode cX7_balances 7 = .ok (.lconst 1, 1) := by decide +kernel
theorem dX7_balances_8 : decode cX7_balances 8 = .ok (.ldc2_w 308, 3) := by decide +kernel
theorem dX7_balances_11 : decode cX7_balances 11 = .ok (.invokestatic 125, 3) := by decide +kernel
theorem dX7_balances_14 : decode cX7_balances 14 = .ok (.ifCond .eq 7, 3) := by decide +kernel
theorem dX7_balances_17 : decode cX7_balances 17 = .ok (.iload_n 1, 1) := by decide +kernel
theorem dX7_balances_18 : decode cX7_balances 18 = .ok (.ifCond .ge 5, 3) := by decide +kernel
theorem dX7_balances_21 : decode cX7_balances 21 = .ok (.iconst (-1), 1) := by decide +kernel
theorem dX7_balances_22 : decode cX7_balances 22 = .ok (.ireturn, 1) := by decide +kernel
theorem dX7_balances_23 : decode cX7_balances 23 = .ok (.iconst 0, 1) := by decide +kernel
theorem dX7_balances_24 : decode cX7_balances 24 = .ok (.istore_n 3, 1) := by decide +kernel
theorem dX7_balances_25 : decode cX7_balances 25 = .ok (.aload_n 0, 1) := by decide +kernel
theorem dX7_balances_26 : decode cX7_balances 26 = .ok (.invokevirtual 305, 3) := by decide +kernel
theorem dX7_balances_29 : decode cX7_balances 29 = .ok (.iinc 3 1, 3) := by decide +kernel
theorem dX7_balances_32 : decode cX7_balances 32 = .ok (.iload_n 3, 1) := by decide +kernel
theorem dX7_balances_33 : decode cX7_balances 33 = .ok (.iload_n 2, 1) := by decide +kernel
theorem dX7_balances_34 : decode cX7_balances 34 = .ok (.if_icmp .ge 13, 3) := by decide +kernel
theorem dX7_balances_37 : decode cX7_balances 37 = .ok (.aload_n 0, 1) := by decide +kernel
theorem dX7_balances_38 : decode cX7_balances 38 = .ok (.getfield 287, 3) := by decide +kernel
theorem dX7_balances_41 : decode cX7_balances 41 = .ok (.iload_n 1, 1) := by decide +kernel
theorem dX7_balances_42 : decode cX7_balances 42 = .ok (.i2l, 1) := by decide +kernel
theorem dX7_balances_43 : decode cX7_balances 43 = .ok (.lcmp, 1) := by decide +kernel
theorem dX7_balances_44 : decode cX7_balances 44 = .ok (.ifCond .gt (-19), 3) := by decide +kernel
theorem dX7_balances_47 : decode cX7_balances 47 = .ok (.aload_n 0, 1) := by decide +kernel
theorem dX7_balances_48 : decode cX7_balances 48 = .ok (.iconst 0, 1) := by decide +kernel
theorem dX7_balances_49 : decode cX7_balances 49 = .ok (.putfield 119, 3) := by decide +kernel
theorem dX7_balances_52 : decode cX7_balances 52 = .ok (.aload_n 0, 1) := by decide +kernel
theorem dX7_balances_53 : decode cX7_balances 53 = .ok (.aload_n 0, 1) := by decide +kernel
theorem dX7_balances_54 : decode cX7_balances 54 = .ok (.getfield 287, 3) := by decide +kernel
theorem dX7_balances_57 : decode cX7_balances 57 = .ok (.invokevirtual 211, 3) := by decide +kernel
theorem dX7_balances_60 : decode cX7_balances 60 = .ok (.aload_n 0, 1) := by decide +kernel
theorem dX7_balances_61 : decode cX7_balances 61 = .ok (.aload_n 0, 1) := by decide +kernel
theorem dX7_balances_62 : decode cX7_balances 62 = .ok (.getfield 192, 3) := by decide +kernel
theorem dX7_balances_65 : decode cX7_balances 65 = .ok (.i2l, 1) := by decide +kernel
theorem dX7_balances_66 : decode cX7_balances 66 = .ok (.invokevirtual 211, 3) := by decide +kernel
theorem dX7_balances_69 : decode cX7_balances 69 = .ok (.iload_n 3, 1) := by decide +kernel
theorem dX7_balances_70 : decode cX7_balances 70 = .ok (.ireturn, 1) := by decide +kernel
theorem dX7_averaged_0 : decode cX7_averaged 0 = .ok (.aload_n 0, 1) := by decide +kernel
theorem dX7_averaged_1 : decode cX7_averaged 1 = .ok (.iconst 0, 1) := by decide +kernel
theorem dX7_averaged_2 : decode cX7_averaged 2 = .ok (.putfield 116, 3) := by decide +kernel
theorem dX7_averaged_5 : decode cX7_averaged 5 = .ok (.aload_n 0, 1) := by decide +kernel
theorem dX7_averaged_6 : decode cX7_averaged 6 = .ok (.iload_n 1, 1) := by decide +kernel
theorem dX7_averaged_7 : decode cX7_averaged 7 = .ok (.iload_n 2, 1) := by decide +kernel
theorem dX7_averaged_8 : decode cX7_averaged 8 = .ok (.invokevirtual 252, 3) := by decide +kernel
theorem dX7_averaged_11 : decode cX7_averaged 11 = .ok (.ifCond .ne 5, 3) := by decide +kernel
theorem dX7_averaged_14 : decode cX7_averaged 14 = .ok (.iconst (-1), 1) := by decide +kernel
theorem dX7_averaged_15 : decode cX7_averaged 15 = .ok (.ireturn, 1) := by decide +kernel
theorem dX7_averaged_16 : decode cX7_averaged 16 = .ok (.aload_n 0, 1) := by decide +kernel
theorem dX7_averaged_17 : decode cX7_averaged 17 = .ok (.iconst 0, 1) := by decide +kernel
theorem dX7_averaged_18 : decode cX7_averaged 18 = .ok (.putfield 119, 3) := by decide +kernel
theorem dX7_averaged_21 : decode cX7_averaged 21 = .ok (.aload_n 0, 1) := by decide +kernel
theorem dX7_averaged_22 : decode cX7_averaged 22 = .ok (.aload_n 0, 1) := by decide +kernel
theorem dX7_averaged_23 : decode cX7_averaged 23 = .ok (.getfield 22, 3) := by decide +kernel
theorem dX7_averaged_26 : decode cX7_averaged 26 = .ok (.iload_n 1, 1) := by decide +kernel
theorem dX7_averaged_27 : decode cX7_averaged 27 = .ok (.iload_n 2, 1) := by decide +kernel
theorem dX7_averaged_28 : decode cX7_averaged 28 = .ok (.invokestatic 165, 3) := by decide +kernel
theorem dX7_averaged_31 : decode cX7_averaged 31 = .ok (.laload, 1) := by decide +kernel
theorem dX7_averaged_32 : decode cX7_averaged 32 = .ok (.invokevirtual 211, 3) := by decide +kernel
theorem dX7_averaged_35 : decode cX7_averaged 35 = .ok (.aload_n 0, 1) := by decide +kernel
theorem dX7_averaged_36 : decode cX7_averaged 36 = .ok (.getfield 26, 3) := by decide +kernel
theorem dX7_averaged_39 : decode cX7_averaged 39 = .ok (.iload_n 1, 1) := by decide +kernel
theorem dX7_averaged_40 : decode cX7_averaged 40 = .ok (.iload_n 2, 1) := by decide +kernel
theorem dX7_averaged_41 : decode cX7_averaged 41 = .ok (.invokestatic 165, 3) := by decide +kernel
theorem dX7_averaged_44 : decode cX7_averaged 44 = .ok (.laload, 1) := by decide +kernel
theorem dX7_averaged_45 : decode cX7_averaged 45 = .ok (.l2i, 1) := by decide +kernel
theorem dX7_averaged_46 : decode cX7_averaged 46 = .ok (.ireturn, 1) := by decide +kernel
theorem dX7_clears_0 : decode cX7_clears 0 = .ok (.aload_n 0, 1) := by decide +kernel
theorem dX7_clears_1 : decode cX7_clears 1 = .ok (.iconst 0, 1) := by decide +kernel
theorem dX7_clears_2 : decode cX7_clears 2 = .ok (.putfield 116, 3) := by decide +kernel
theorem dX7_clears_5 : decode cX7_clears 5 = .ok (.aload_n 0, 1) := by decide +kernel
theorem dX7_clears_6 : decode cX7_clears 6 = .ok (.getfield 192, 3) := by decide +kernel
theorem dX7_clears_9 : decode cX7_clears 9 = .ok (.istore_n 1, 1) := by decide +kernel
theorem dX7_clears_10 : decode cX7_clears 10 = .ok (.aload_n 0, 1) := by decide +kernel
theorem dX7_clears_11 : decode cX7_clears 11 = .ok (.iconst 0, 1) := by decide +kernel
theorem dX7_clears_12 : decode cX7_clears 12 = .ok (.putfield 192, 3) := by decide +kernel
theorem dX7_clears_15 : decode cX7_clears 15 = .ok (.iconst 0, 1) := by decide +kernel
theorem dX7_clears_16 : decode cX7_clears 16 = .ok (.istore_n 2, 1) := by decide +kernel
theorem dX7_clears_17 : decode cX7_clears 17 = .ok (.iload_n 2, 1) := by decide +kernel
theorem dX7_clears_18 : decode cX7_clears 18 = .ok (.bipush 96, 2) := by decide +kernel
theorem dX7_clears_20 : decode cX7_clears 20 = .ok (.if_icmp .ge 23, 3) := by decide +kernel
theorem dX7_clears_23 : decode cX7_clears 23 = .ok (.aload_n 0, 1) := by decide +kernel
theorem dX7_clears_24 : decode cX7_clears 24 = .ok (.getfield 22, 3) := by decide +kernel
theorem dX7_clears_27 : decode cX7_clears 27 = .ok (.iload_n 2, 1) := by decide +kernel
theorem dX7_clears_28 : decode cX7_clears 28 = .ok (.lconst 0, 1) := by decide +kernel
theorem dX7_clears_29 : decode cX7_clears 29 = .ok (.lastore, 1) := by decide +kernel
theorem dX7_clears_30 : decode cX7_clears 30 = .ok (.aload_n 0, 1) := by decide +kernel
theorem dX7_clears_31 : decode cX7_clears 31 = .ok (.getfield 26, 3) := by decide +kernel
theorem dX7_clears_34 : decode cX7_clears 34 = .ok (.iload_n 2, 1) := by decide +kernel
theorem dX7_clears_35 : decode cX7_clears 35 = .ok (.lconst 0, 1) := by decide +kernel
theorem dX7_clears_36 : decode cX7_clears 36 = .ok (.lastore, 1) := by decide +kernel
theorem dX7_clears_37 : decode cX7_clears 37 = .ok (.iinc 2 1, 3) := by decide +kernel
theorem dX7_clears_40 : decode cX7_clears 40 = .ok (.goto (-23), 3) := by decide +kernel
theorem dX7_clears_43 : decode cX7_clears 43 = .ok (.iload_n 1, 1) := by decide +kernel
theorem dX7_clears_44 : decode cX7_clears 44 = .ok (.ireturn, 1) := by decide +kernel
theorem dX7_before_0 : decode cX7_before 0 = .ok (.aload_n 0, 1) := by decide +kernel
theorem dX7_before_1 : decode cX7_before 1 = .ok (.invokevirtual 246, 3) := by decide +kernel
theorem dX7_before_4 : decode cX7_before 4 = .ok (.aload_n 0, 1) := by decide +kernel
theorem dX7_before_5 : decode cX7_before 5 = .ok (.invokevirtual 279, 3) := by decide +kernel
theorem dX7_before_8 : decode cX7_before 8 = .ok (.lreturn, 1) := by decide +kernel
theorem dX7_tells_0 : decode cX7_tells 0 = .ok (.aload_n 0, 1) := by decide +kernel
theorem dX7_tells_1 : decode cX7_tells 1 = .ok (.iconst 0, 1) := by decide +kernel
theorem dX7_tells_2 : decode cX7_tells 2 = .ok (.putfield 119, 3) := by decide +kernel
theorem dX7_tells_5 : decode cX7_tells 5 = .ok (.aload_n 0, 1) := by decide +kernel
theorem dX7_tells_6 : decode cX7_tells 6 = .ok (.lload_n 1, 1) := by decide +kernel
theorem dX7_tells_7 : decode cX7_tells 7 = .ok (.aload_n 0, 1) := by decide +kernel
theorem dX7_tells_8 : decode cX7_tells 8 = .ok (.getfield 310, 3) := by decide +kernel
theorem dX7_tells_11 : decode cX7_tells 11 = .ok (.lsub, 1) := by decide +kernel
theorem dX7_tells_12 : decode cX7_tells 12 = .ok (.invokevirtual 211, 3) := by decide +kernel
theorem dX7_tells_15 : decode cX7_tells 15 = .ok (.aload_n 0, 1) := by decide +kernel
theorem dX7_tells_16 : decode cX7_tells 16 = .ok (.lload_n 3, 1) := by decide +kernel
theorem dX7_tells_17 : decode cX7_tells 17 = .ok (.invokevirtual 211, 3) := by decide +kernel
theorem dX7_tells_20 : decode cX7_tells 20 = .ok (.lload_n 1, 1) := by decide +kernel
theorem dX7_tells_21 : decode cX7_tells 21 = .ok (.lreturn, 1) := by decide +kernel
theorem dX7_without_0 : decode cX7_without 0 = .ok (.aload_n 0, 1) := by decide +kernel
theorem dX7_without_1 : decode cX7_without 1 = .ok (.iconst 0, 1) := by decide +kernel
theorem dX7_without_2 : decode cX7_without 2 = .ok (.putfield 116, 3) := by decide +kernel
theorem dX7_without_5 : decode cX7_without 5 = .ok (.aload_n 0, 1) := by decide +kernel
theorem dX7_without_6 : decode cX7_without 6 = .ok (.iload_n 1, 1) := by decide +kernel
theorem dX7_without_7 : decode cX7_without 7 = .ok (.invokevirtual 134, 3) := by decide +kernel
theorem dX7_without_10 : decode cX7_without 10 = .ok (.ifCond .ne 7, 3) := by decide +kernel
theorem dX7_without_13 : decode cX7_without 13 = .ok (.ldc2_w 215, 3) := by decide +kernel
theorem dX7_without_16 : decode cX7_without 16 = .ok (.lreturn, 1) := by decide +kernel
theorem dX7_without_17 : decode cX7_without 17 = .ok (.aload_n 0, 1) := by decide +kernel
theorem dX7_without_18 : decode cX7_without 18 = .ok (.getfield 35, 3) := by decide +kernel
theorem dX7_without_21 : decode cX7_without 21 = .ok (.iload_n 1, 1) := by decide +kernel
theorem dX7_without_22 : decode cX7_without 22 = .ok (.baload, 1) := by decide +kernel
theorem dX7_without_23 : decode cX7_without 23 = .ok (.ifCond .eq 7, 3) := by decide +kernel
theorem dX7_without_26 : decode cX7_without 26 = .ok (.ldc2_w 313, 3) := by decide +kernel
theorem dX7_without_29 : decode cX7_without 29 = .ok (.lreturn, 1) := by decide +kernel
theorem dX7_without_30 : decode cX7_without 30 = .ok (.aload_n 0, 1) := by decide +kernel
theorem dX7_without_31 : decode cX7_without 31 = .ok (.aload_n 0, 1) := by decide +kernel
theorem dX7_without_32 : decode cX7_without 32 = .ok (.invokevirtual 315, 3) := by decide +kernel
theorem dX7_without_35 : decode cX7_without 35 = .ok (.putfield 310, 3) := by decide +kernel
theorem dX7_without_38 : decode cX7_without 38 = .ok (.aload_n 0, 1) := by decide +kernel
theorem dX7_without_39 : decode cX7_without 39 = .ok (.getfield 35, 3) := by decide +kernel
theorem dX7_without_42 : decode cX7_without 42 = .ok (.iload_n 1, 1) := by decide +kernel
theorem dX7_without_43 : decode cX7_without 43 = .ok (.iconst 1, 1) := by decide +kernel
theorem dX7_without_44 : decode cX7_without 44 = .ok (.bastore, 1) := by decide +kernel
theorem dX7_without_45 : decode cX7_without 45 = .ok (.aload_n 0, 1) := by decide +kernel
theorem dX7_without_46 : decode cX7_without 46 = .ok (.invokevirtual 315, 3) := by decide +kernel
theorem dX7_without_49 : decode cX7_without 49 = .ok (.lstore_n 2, 1) := by decide +kernel
theorem dX7_without_50 : decode cX7_without 50 = .ok (.aload_n 0, 1) := by decide +kernel
theorem dX7_without_51 : decode cX7_without 51 = .ok (.getfield 35, 3) := by decide +kernel
theorem dX7_without_54 : decode cX7_without 54 = .ok (.iload_n 1, 1) := by decide +kernel
theorem dX7_without_55 : decode cX7_without 55 = .ok (.iconst 0, 1) := by decide +kernel
theorem dX7_without_56 : decode cX7_without 56 = .ok (.bastore, 1) := by decide +kernel
theorem dX7_without_57 : decode cX7_without 57 = .ok (.aload_n 0, 1) := by decide +kernel
theorem dX7_without_58 : decode cX7_without 58 = .ok (.lload_n 2, 1) := by decide +kernel
theorem dX7_without_59 : decode cX7_without 59 = .ok (.aload_n 0, 1) := by decide +kernel
theorem dX7_without_60 : decode cX7_without 60 = .ok (.invokevirtual 275, 3) := by decide +kernel
theorem dX7_without_63 : decode cX7_without 63 = .ok (.invokevirtual 318, 3) := by decide +kernel
theorem dX7_without_66 : decode cX7_without 66 = .ok (.lreturn, 1) := by decide +kernel
theorem dX7_shut_0 : decode cX7_shut 0 = .ok (.aload_n 0, 1) := by decide +kernel
theorem dX7_shut_1 : decode cX7_shut 1 = .ok (.iconst 0, 1) := by decide +kernel
theorem dX7_shut_2 : decode cX7_shut 2 = .ok (.putfield 116, 3) := by decide +kernel
theorem dX7_shut_5 : decode cX7_shut 5 = .ok (.iload_n 1, 1) := by decide +kernel
theorem dX7_shut_6 : decode cX7_shut 6 = .ok (.invokestatic 162, 3) := by decide +kernel
theorem dX7_shut_9 : decode cX7_shut 9 = .ok (.ifCond .ne 7, 3) := by decide +kernel
theorem dX7_shut_12 : decode cX7_shut 12 = .ok (.ldc2_w 215, 3) := by decide +kernel
theorem dX7_shut_15 : decode cX7_shut 15 = .ok (.lreturn, 1) := by decide +kernel
theorem dX7_shut_16 : decode cX7_shut 16 = .ok (.aload_n 0, 1) := by decide +kernel
theorem dX7_shut_17 : decode cX7_shut 17 = .ok (.getfield 46, 3) := by decide +kernel
theorem dX7_shut_20 : decode cX7_shut 20 = .ok (.iload_n 1, 1) := by decide +kernel
theorem dX7_shut_21 : decode cX7_shut 21 = .ok (.baload, 1) := by decide +kernel
theorem dX7_shut_22 : decode cX7_shut 22 = .ok (.ifCond .eq 7, 3) := by decide +kernel
theorem dX7_shut_25 : decode cX7_shut 25 = .ok (.ldc2_w 313, 3) := by decide +kernel
theorem dX7_shut_28 : decode cX7_shut 28 = .ok (.lreturn, 1) := by decide +kernel
theorem dX7_shut_29 : decode cX7_shut 29 = .ok (.aload_n 0, 1) := by decide +kernel
theorem dX7_shut_30 : decode cX7_shut 30 = .ok (.aload_n 0, 1) := by decide +kernel
theorem dX7_shut_31 : decode cX7_shut 31 = .ok (.invokevirtual 315, 3) := by decide +kernel
theorem dX7_shut_34 : decode cX7_shut 34 = .ok (.putfield 310, 3) := by decide +kernel
theorem dX7_shut_37 : decode cX7_shut 37 = .ok (.aload_n 0, 1) := by decide +kernel
theorem dX7_shut_38 : decode cX7_shut 38 = .ok (.getfield 46, 3) := by decide +kernel
theorem dX7_shut_41 : decode cX7_shut 41 = .ok (.iload_n 1, 1) := by decide +kernel
theorem dX7_shut_42 : decode cX7_shut 42 = .ok (.iconst 1, 1) := by decide +kernel
theorem dX7_shut_43 : decode cX7_shut 43 = .ok (.bastore, 1) := by decide +kernel
theorem dX7_shut_44 : decode cX7_shut 44 = .ok (.aload_n 0, 1) := by decide +kernel
theorem dX7_shut_45 : decode cX7_shut 45 = .ok (.invokevirtual 315, 3) := by decide +kernel
theorem dX7_shut_48 : decode cX7_shut 48 = .ok (.lstore_n 2, 1) := by decide +kernel
theorem dX7_shut_49 : decode cX7_shut 49 = .ok (.aload_n 0, 1) := by decide +kernel
theorem dX7_shut_50 : decode cX7_shut 50 = .ok (.getfield 46, 3) := by decide +kernel
theorem dX7_shut_53 : decode cX7_shut 53 = .ok (.iload_n 1, 1) := by decide +kernel
theorem dX7_shut_54 : decode cX7_shut 54 = .ok (.iconst 0, 1) := by decide +kernel
theorem dX7_shut_55 : decode cX7_shut 55 = .ok (.bastore, 1) := by decide +kernel
theorem dX7_shut_56 : decode cX7_shut 56 = .ok (.aload_n 0, 1) := by decide +kernel
theorem dX7_shut_57 : decode cX7_shut 57 = .ok (.lload_n 2, 1) := by decide +kernel
theorem dX7_shut_58 : decode cX7_shut 58 = .ok (.aload_n 0, 1) := by decide +kernel
theorem dX7_shut_59 : decode cX7_shut 59 = .ok (.invokevirtual 275, 3) := by decide +kernel
theorem dX7_shut_62 : decode cX7_shut 62 = .ok (.invokevirtual 318, 3) := by decide +kernel
theorem dX7_shut_65 : decode cX7_shut 65 = .ok (.lreturn, 1) := by decide +kernel
theorem dX7_totalWith_0 : decode cX7_totalWith 0 = .ok (.aload_n 0, 1) := by decide +kernel
theorem dX7_totalWith_1 : decode cX7_totalWith 1 = .ok (.getfield 9, 3) := by decide +kernel
theorem dX7_totalWith_4 : decode cX7_totalWith 4 = .ok (.iload_n 1, 1) := by decide +kernel
theorem dX7_totalWith_5 : decode cX7_totalWith 5 = .ok (.dup2, 1) := by decide +kernel
theorem dX7_totalWith_6 : decode cX7_totalWith 6 = .ok (.iaload, 1) := by decide +kernel
theorem dX7_totalWith_7 : decode cX7_totalWith 7 = .ok (.iload_n 2, 1) := by decide +kernel
theorem dX7_totalWith_8 : decode cX7_totalWith 8 = .ok (.iadd, 1) := by decide +kernel
theorem dX7_totalWith_9 : decode cX7_totalWith 9 = .ok (.iastore, 1) := by decide +kernel
theorem dX7_totalWith_10 : decode cX7_totalWith 10 = .ok (.aload_n 0, 1) := by decide +kernel
theorem dX7_totalWith_11 : decode cX7_totalWith 11 = .ok (.invokevirtual 315, 3) := by decide +kernel
theorem dX7_totalWith_14 : decode cX7_totalWith 14 = .ok (.lstore_n 3, 1) := by decide +kernel
theorem dX7_totalWith_15 : decode cX7_totalWith 15 = .ok (.aload_n 0, 1) := by decide +kernel
theorem dX7_totalWith_16 : decode cX7_totalWith 16 = .ok (.getfield 9, 3) := by decide +kernel
theorem dX7_totalWith_19 : decode cX7_totalWith 19 = .ok (.iload_n 1, 1) := by decide +kernel
theorem dX7_totalWith_20 : decode cX7_totalWith 20 = .ok (.dup2, 1) := by decide +kernel
theorem dX7_totalWith_21 : decode cX7_totalWith 21 = .ok (.iaload, 1) := by decide +kernel
theorem dX7_totalWith_22 : decode cX7_totalWith 22 = .ok (.iload_n 2, 1) := by decide +kernel
theorem dX7_totalWith_23 : decode cX7_totalWith 23 = .ok (.isub, 1) := by decide +kernel
theorem dX7_totalWith_24 : decode cX7_totalWith 24 = .ok (.iastore, 1) := by decide +kernel
theorem dX7_totalWith_25 : decode cX7_totalWith 25 = .ok (.lload_n 3, 1) := by decide +kernel
theorem dX7_totalWith_26 : decode cX7_totalWith 26 = .ok (.lreturn, 1) := by decide +kernel
theorem dX7_more_0 : decode cX7_more 0 = .ok (.aload_n 0, 1) := by decide +kernel
theorem dX7_more_1 : decode cX7_more 1 = .ok (.iconst 0, 1) := by decide +kernel
theorem dX7_more_2 : decode cX7_more 2 = .ok (.putfield 116, 3) := by decide +kernel
theorem dX7_more_5 : decode cX7_more 5 = .ok (.aload_n 0, 1) := by decide +kernel
theorem dX7_more_6 : decode cX7_more 6 = .ok (.iload_n 1, 1) := by decide +kernel
theorem dX7_more_7 : decode cX7_more 7 = .ok (.invokevirtual 134, 3) := by decide +kernel
theorem dX7_more_10 : decode cX7_more 10 = .ok (.ifCond .eq 36, 3) := by decide +kernel
theorem dX7_more_13 : decode cX7_more 13 = .ok (.iload_n 2, 1) := by decide +kernel
theorem dX7_more_14 : decode cX7_more 14 = .ok (.i2l, 1) := by decide +kernel
theorem dX7_more_15 : decode cX7_more 15 = .ok (.ldc2_w 321, 3) := by decide +kernel
theorem dX7_more_18 : decode cX7_more 18 = .ok (.ldc2_w 323, 3) := by decide +kernel
theorem dX7_more_21 : decode cX7_more 21 = .ok (.invokestatic 125, 3) := by decide +kernel
theorem dX7_more_24 : decode cX7_more 24 = .ok (.ifCond .eq 22, 3) := by decide +kernel
theorem dX7_more_27 : decode cX7_more 27 = .ok (.aload_n 0, 1) := by decide +kernel
theorem dX7_more_28 : decode cX7_more 28 = .ok (.getfield 9, 3) := by decide +kernel
theorem dX7_more_31 : decode cX7_more 31 = .ok (.iload_n 1, 1) := by decide +kernel
theorem dX7_more_32 : decode cX7_more 32 = .ok (.iaload, 1) := by decide +kernel
theorem dX7_more_33 : decode cX7_more 33 = .ok (.iload_n 2, 1) := by decide +kernel
theorem dX7_more_34 : decode cX7_more 34 = .ok (.iadd, 1) := by decide +kernel
theorem dX7_more_35 : decode cX7_more 35 = .ok (.i2l, 1) := by decide +kernel
theorem dX7_more_36 : decode cX7_more 36 = .ok (.lconst 1, 1) := by decide +kernel
theorem dX7_more_37 : decode cX7_more 37 = .ok (.ldc2_w 205, 3) := by decide +kernel
theorem dX7_more_40 : decode cX7_more 40 = .ok (.invokestatic 125, 3) := by decide +kernel
theorem dX7_more_43 : decode cX7_more 43 = .ok (.ifCond .ne 7, 3) := by decide +kernel
theorem dX7_more_46 : decode cX7_more 46 = .ok (.ldc2_w 215, 3) := by decide +kernel
theorem dX7_more_49 : decode cX7_more 49 = .ok (.lreturn, 1) := by decide +kernel
theorem dX7_more_50 : decode cX7_more 50 = .ok (.aload_n 0, 1) := by decide +kernel
theorem dX7_more_51 : decode cX7_more 51 = .ok (.aload_n 0, 1) := by decide +kernel
theorem dX7_more_52 : decode cX7_more 52 = .ok (.invokevirtual 315, 3) := by decide +kernel
theorem dX7_more_55 : decode cX7_more 55 = .ok (.putfield 310, 3) := by decide +kernel
theorem dX7_more_58 : decode cX7_more 58 = .ok (.aload_n 0, 1) := by decide +kernel
theorem dX7_more_59 : decode cX7_more 59 = .ok (.iload_n 1, 1) := by decide +kernel
theorem dX7_more_60 : decode cX7_more 60 = .ok (.iload_n 2, 1) := by decide +kernel
theorem dX7_more_61 : decode cX7_more 61 = .ok (.invokevirtual 325, 3) := by decide +kernel
theorem dX7_more_64 : decode cX7_more 64 = .ok (.lstore_n 3, 1) := by decide +kernel
theorem dX7_more_65 : decode cX7_more 65 = .ok (.aload_n 0, 1) := by decide +kernel
theorem dX7_more_66 : decode cX7_more 66 = .ok (.lload_n 3, 1) := by decide +kernel
theorem dX7_more_67 : decode cX7_more 67 = .ok (.aload_n 0, 1) := by decide +kernel
theorem dX7_more_68 : decode cX7_more 68 = .ok (.invokevirtual 275, 3) := by decide +kernel
theorem dX7_more_71 : decode cX7_more 71 = .ok (.invokevirtual 318, 3) := by decide +kernel
theorem dX7_more_74 : decode cX7_more 74 = .ok (.lreturn, 1) := by decide +kernel
theorem dX7_best_0 : decode cX7_best 0 = .ok (.aload_n 0, 1) := by decide +kernel
theorem dX7_best_1 : decode cX7_best 1 = .ok (.iconst 0, 1) := by decide +kernel
theorem dX7_best_2 : decode cX7_best 2 = .ok (.putfield 116, 3) := by decide +kernel
theorem dX7_best_5 : decode cX7_best 5 = .ok (.iload_n 1, 1) := by decide +kernel
theorem dX7_best_6 : decode cX7_best 6 = .ok (.i2l, 1) := by decide +kernel
theorem dX7_best_7 : decode cX7_best 7 = .ok (.lconst 1, 1) := by decide +kernel
theorem dX7_best_8 : decode cX7_best 8 = .ok (.ldc2_w 323, 3) := by decide +kernel
theorem dX7_best_11 : decode cX7_best 11 = .ok (.invokestatic 125, 3) := by decide +kernel
theorem dX7_best_14 : decode cX7_best 14 = .ok (.ifCond .ne 5, 3) := by decide +kernel
theorem dX7_best_17 : decode cX7_best 17 = .ok (.iconst (-1), 1) := by decide +kernel
theorem dX7_best_18 : decode cX7_best 18 = .ok (.ireturn, 1) := by decide +kernel
theorem dX7_best_19 : decode cX7_best 19 = .ok (.iconst (-1), 1) := by decide +kernel
theorem dX7_best_20 : decode cX7_best 20 = .ok (.istore_n 2, 1) := by decide +kernel
theorem dX7_best_21 : decode cX7_best 21 = .ok (.lconst 0, 1) := by decide +kernel
theorem dX7_best_22 : decode cX7_best 22 = .ok (.lstore_n 3, 1) := by decide +kernel
theorem dX7_best_23 : decode cX7_best 23 = .ok (.iconst 0, 1) := by decide +kernel
theorem dX7_best_24 : decode cX7_best 24 = .ok (.istore 5, 2) := by decide +kernel
theorem dX7_best_26 : decode cX7_best 26 = .ok (.iload 5, 2) := by decide +kernel
theorem dX7_best_28 : decode cX7_best 28 = .ok (.aload_n 0, 1) := by decide +kernel
theorem dX7_best_29 : decode cX7_best 29 = .ok (.getfield 129, 3) := by decide +kernel
theorem dX7_best_32 : decode cX7_best 32 = .ok (.if_icmp .ge 66, 3) := by decide +kernel
theorem dX7_best_35 : decode cX7_best 35 = .ok (.aload_n 0, 1) := by decide +kernel
theorem dX7_best_36 : decode cX7_best 36 = .ok (.getfield 35, 3) := by decide +kernel
theorem dX7_best_39 : decode cX7_best 39 = .ok (.iload 5, 2) := by decide +kernel
theorem dX7_best_41 : decode cX7_best 41 = .ok (.baload, 1) := by decide +kernel
theorem dX7_best_42 : decode cX7_best 42 = .ok (.ifCond .ne 50, 3) := by decide +kernel
theorem dX7_best_45 : decode cX7_best 45 = .ok (.aload_n 0, 1) := by decide +kernel
theorem dX7_best_46 : decode cX7_best 46 = .ok (.getfield 9, 3) := by decide +kernel
theorem dX7_best_49 : decode cX7_best 49 = .ok (.iload 5, 2) := by decide +kernel
theorem dX7_best_51 : decode cX7_best 51 = .ok (.iaload, 1) := by decide +kernel
theorem dX7_best_52 : decode cX7_best 52 = .ok (.iload_n 1, 1) := by decide +kernel
theorem dX7_best_53 : decode cX7_best 53 = .ok (.iadd, 1) := by decide +kernel
theorem dX7_best_54 : decode cX7_best 54 = .ok (.bipush 60, 2) := by decide +kernel
theorem dX7_best_56 : decode cX7_best 56 = .ok (.if_icmp .le 6, 3) := by decide +kernel
theorem dX7_best_59 : decode cX7_best 59 = .ok (.goto 33, 3) := by decide +kernel
theorem dX7_best_62 : decode cX7_best 62 = .ok (.aload_n 0, 1) := by decide +kernel
theorem dX7_best_63 : decode cX7_best 63 = .ok (.iload 5, 2) := by decide +kernel
theorem dX7_best_65 : decode cX7_best 65 = .ok (.iload_n 1, 1) := by decide +kernel
theorem dX7_best_66 : decode cX7_best 66 = .ok (.invokevirtual 325, 3) := by decide +kernel
theorem dX7_best_69 : decode cX7_best 69 = .ok (.lstore 6, 2) := by decide +kernel
theorem dX7_best_71 : decode cX7_best 71 = .ok (.iload_n 2, 1) := by decide +kernel
theorem dX7_best_72 : decode cX7_best 72 = .ok (.iconst (-1), 1) := by decide +kernel
theorem dX7_best_73 : decode cX7_best 73 = .ok (.if_icmp .eq 13, 3) := by decide +kernel
theorem dX7_best_76 : decode cX7_best 76 = .ok (.lload 6, 2) := by decide +kernel
theorem dX7_best_78 : decode cX7_best 78 = .ok (.lload_n 3, 1) := by decide +kernel
theorem dX7_best_79 : decode cX7_best 79 = .ok (.lcmp, 1) := by decide +kernel
theorem dX7_best_80 : decode cX7_best 80 = .ok (.ifCond .lt 6, 3) := by decide +kernel
theorem dX7_best_83 : decode cX7_best 83 = .ok (.goto 9, 3) := by decide +kernel
theorem dX7_best_86 : decode cX7_best 86 = .ok (.iload 5, 2) := by decide +kernel
theorem dX7_best_88 : decode cX7_best 88 = .ok (.istore_n 2, 1) := by decide +kernel
theorem dX7_best_89 : decode cX7_best 89 = .ok (.lload 6, 2) := by decide +kernel
theorem dX7_best_91 : decode cX7_best 91 = .ok (.lstore_n 3, 1) := by decide +kernel
theorem dX7_best_92 : decode cX7_best 92 = .ok (.iinc 5 1, 3) := by decide +kernel
theorem dX7_best_95 : decode cX7_best 95 = .ok (.goto (-69), 3) := by decide +kernel
theorem dX7_best_98 : decode cX7_best 98 = .ok (.iload_n 2, 1) := by decide +kernel
theorem dX7_best_99 : decode cX7_best 99 = .ok (.iconst (-1), 1) := by decide +kernel
theorem dX7_best_100 : decode cX7_best 100 = .ok (.if_icmp .ne 6, 3) := by decide +kernel
theorem dX7_best_103 : decode cX7_best 103 = .ok (.bipush (-2), 2) := by decide +kernel
theorem dX7_best_105 : decode cX7_best 105 = .ok (.ireturn, 1) := by decide +kernel
theorem dX7_best_106 : decode cX7_best 106 = .ok (.aload_n 0, 1) := by decide +kernel
theorem dX7_best_107 : decode cX7_best 107 = .ok (.iconst 0, 1) := by decide +kernel
theorem dX7_best_108 : decode cX7_best 108 = .ok (.putfield 119, 3) := by decide +kernel
theorem dX7_best_111 : decode cX7_best 111 = .ok (.aload_n 0, 1) := by decide +kernel
theorem dX7_best_112 : decode cX7_best 112 = .ok (.lload_n 3, 1) := by decide +kernel
theorem dX7_best_113 : decode cX7_best 113 = .ok (.aload_n 0, 1) := by decide +kernel
theorem dX7_best_114 : decode cX7_best 114 = .ok (.invokevirtual 315, 3) := by decide +kernel
theorem dX7_best_117 : decode cX7_best 117 = .ok (.lsub, 1) := by decide +kernel
theorem dX7_best_118 : decode cX7_best 118 = .ok (.invokevirtual 211, 3) := by decide +kernel
theorem dX7_best_121 : decode cX7_best 121 = .ok (.iload_n 2, 1) := by decide +kernel
theorem dX7_best_122 : decode cX7_best 122 = .ok (.ireturn, 1) := by decide +kernel
theorem dX7_towards_0 : decode cX7_towards 0 = .ok (.aload_n 0, 1) := by decide +kernel
theorem dX7_towards_1 : decode cX7_towards 1 = .ok (.iconst 0, 1) := by decide +kernel
theorem dX7_towards_2 : decode cX7_towards 2 = .ok (.putfield 116, 3) := by decide +kernel
theorem dX7_towards_5 : decode cX7_towards 5 = .ok (.iload_n 1, 1) := by decide +kernel
theorem dX7_towards_6 : decode cX7_towards 6 = .ok (.invokestatic 162, 3) := by decide +kernel
theorem dX7_towards_9 : decode cX7_towards 9 = .ok (.ifCond .ne 7, 3) := by decide +kernel
theorem dX7_towards_12 : decode cX7_towards 12 = .ok (.ldc2_w 215, 3) := by decide +kernel
theorem dX7_towards_15 : decode cX7_towards 15 = .ok (.lreturn, 1) := by decide +kernel
theorem dX7_towards_16 : decode cX7_towards 16 = .ok (.aload_n 0, 1) := by decide +kernel
theorem dX7_towards_17 : decode cX7_towards 17 = .ok (.aload_n 0, 1) := by decide +kernel
theorem dX7_towards_18 : decode cX7_towards 18 = .ok (.invokevirtual 315, 3) := by decide +kernel
theorem dX7_towards_21 : decode cX7_towards 21 = .ok (.putfield 310, 3) := by decide +kernel
theorem dX7_towards_24 : decode cX7_towards 24 = .ok (.aload_n 0, 1) := by decide +kernel
theorem dX7_towards_25 : decode cX7_towards 25 = .ok (.getfield 197, 3) := by decide +kernel
theorem dX7_towards_28 : decode cX7_towards 28 = .ok (.istore_n 2, 1) := by decide +kernel
theorem dX7_towards_29 : decode cX7_towards 29 = .ok (.aload_n 0, 1) := by decide +kernel
theorem dX7_towards_30 : decode cX7_towards 30 = .ok (.iload_n 1, 1) := by decide +kernel
theorem dX7_towards_31 : decode cX7_towards 31 = .ok (.putfield 197, 3) := by decide +kernel
theorem dX7_towards_34 : decode cX7_towards 34 = .ok (.aload_n 0, 1) := by decide +kernel
theorem dX7_towards_35 : decode cX7_towards 35 = .ok (.invokevirtual 315, 3) := by decide +kernel
theorem dX7_towards_38 : decode cX7_towards 38 = .ok (.lstore_n 3, 1) := by decide +kernel
theorem dX7_towards_39 : decode cX7_towards 39 = .ok (.aload_n 0, 1) := by decide +kernel
theorem dX7_towards_40 : decode cX7_towards 40 = .ok (.invokevirtual 275, 3) := by decide +kernel
theorem dX7_towards_43 : decode cX7_towards 43 = .ok (.lstore 5, 2) := by decide +kernel
theorem dX7_towards_45 : decode cX7_towards 45 = .ok (.aload_n 0, 1) := by decide +kernel
theorem dX7_towards_46 : decode cX7_towards 46 = .ok (.iload_n 2, 1) := by decide +kernel
theorem dX7_towards_47 : decode cX7_towards 47 = .ok (.putfield 197, 3) := by decide +kernel
theorem dX7_towards_50 : decode cX7_towards 50 = .ok (.aload_n 0, 1) := by decide +kernel
theorem dX7_towards_51 : decode cX7_towards 51 = .ok (.lload_n 3, 1) := by decide +kernel
theorem dX7_towards_52 : decode cX7_towards 52 = .ok (.lload 5, 2) := by decide +kernel
theorem dX7_towards_54 : decode cX7_towards 54 = .ok (.invokevirtual 318, 3) := by decide +kernel
theorem dX7_towards_57 : decode cX7_towards 57 = .ok (.lreturn, 1) := by decide +kernel
theorem dX7_slower_0 : decode cX7_slower 0 = .ok (.aload_n 0, 1) := by decide +kernel
theorem dX7_slower_1 : decode cX7_slower 1 = .ok (.iconst 0, 1) := by decide +kernel
theorem dX7_slower_2 : decode cX7_slower 2 = .ok (.putfield 116, 3) := by decide +kernel
theorem dX7_slower_5 : decode cX7_slower 5 = .ok (.aload_n 0, 1) := by decide +kernel
theorem dX7_slower_6 : decode cX7_slower 6 = .ok (.iload_n 1, 1) := by decide +kernel
theorem dX7_slower_7 : decode cX7_slower 7 = .ok (.iload_n 2, 1) := by decide +kernel
theorem dX7_slower_8 : decode cX7_slower 8 = .ok (.invokevirtual 252, 3) := by decide +kernel
theorem dX7_slower_11 : decode cX7_slower 11 = .ok (.ifCond .eq 27, 3) := by decide +kernel
theorem dX7_slower_14 : decode cX7_slower 14 = .ok (.aload_n 0, 1) := by decide +kernel
theorem dX7_slower_15 : decode cX7_slower 15 = .ok (.getfield 19, 3) := by decide +kernel
theorem dX7_slower_18 : decode cX7_slower 18 = .ok (.iload_n 1, 1) := by decide +kernel
theorem dX7_slower_19 : decode cX7_slower 19 = .ok (.iload_n 2, 1) := by decide +kernel
theorem dX7_slower_20 : decode cX7_slower 20 = .ok (.invokestatic 165, 3) := by decide +kernel
theorem dX7_slower_23 : decode cX7_slower 23 = .ok (.iaload, 1) := by decide +kernel
theorem dX7_slower_24 : decode cX7_slower 24 = .ok (.i2l, 1) := by decide +kernel
theorem dX7_slower_25 : decode cX7_slower 25 = .ok (.iload_n 3, 1) := by decide +kernel
theorem dX7_slower_26 : decode cX7_slower 26 = .ok (.i2l, 1) := by decide +kernel
theorem dX7_slower_27 : decode cX7_slower 27 = .ok (.ladd, 1) := by decide +kernel
theorem dX7_slower_28 : decode cX7_slower 28 = .ok (.lconst 1, 1) := by decide +kernel
theorem dX7_slower_29 : decode cX7_slower 29 = .ok (.ldc2_w 328, 3) := by decide +kernel
theorem dX7_slower_32 : decode cX7_slower 32 = .ok (.invokestatic 125, 3) := by decide +kernel
theorem dX7_slower_35 : decode cX7_slower 35 = .ok (.ifCond .ne 7, 3) := by decide +kernel
theorem dX7_slower_38 : decode cX7_slower 38 = .ok (.ldc2_w 215, 3) := by decide +kernel
theorem dX7_slower_41 : decode cX7_slower 41 = .ok (.lreturn, 1) := by decide +kernel
theorem dX7_slower_42 : decode cX7_slower 42 = .ok (.aload_n 0, 1) := by decide +kernel
theorem dX7_slower_43 : decode cX7_slower 43 = .ok (.aload_n 0, 1) := by decide +kernel
theorem dX7_slower_44 : decode cX7_slower 44 = .ok (.invokevirtual 315, 3) := by decide +kernel
theorem dX7_slower_47 : decode cX7_slower 47 = .ok (.putfield 310, 3) := by decide +kernel
theorem dX7_slower_50 : decode cX7_slower 50 = .ok (.aload_n 0, 1) := by decide +kernel
theorem dX7_slower_51 : decode cX7_slower 51 = .ok (.getfield 19, 3) := by decide +kernel
theorem dX7_slower_54 : decode cX7_slower 54 = .ok (.iload_n 1, 1) := by decide +kernel
theorem dX7_slower_55 : decode cX7_slower 55 = .ok (.iload_n 2, 1) := by decide +kernel
theorem dX7_slower_56 : decode cX7_slower 56 = .ok (.invokestatic 165, 3) := by decide +kernel
theorem dX7_slower_59 : decode cX7_slower 59 = .ok (.dup2, 1) := by decide +kernel
theorem dX7_slower_60 : decode cX7_slower 60 = .ok (.iaload, 1) := by decide +kernel
theorem dX7_slower_61 : decode cX7_slower 61 = .ok (.iload_n 3, 1) := by decide +kernel
theorem dX7_slower_62 : decode cX7_slower 62 = .ok (.iadd, 1) := by decide +kernel
theorem dX7_slower_63 : decode cX7_slower 63 = .ok (.iastore, 1) := by decide +kernel
theorem dX7_slower_64 : decode cX7_slower 64 = .ok (.aload_n 0, 1) := by decide +kernel
theorem dX7_slower_65 : decode cX7_slower 65 = .ok (.invokevirtual 315, 3) := by decide +kernel
theorem dX7_slower_68 : decode cX7_slower 68 = .ok (.lstore 4, 2) := by decide +kernel
theorem dX7_slower_70 : decode cX7_slower 70 = .ok (.aload_n 0, 1) := by decide +kernel
theorem dX7_slower_71 : decode cX7_slower 71 = .ok (.getfield 19, 3) := by decide +kernel
theorem dX7_slower_74 : decode cX7_slower 74 = .ok (.iload_n 1, 1) := by decide +kernel
theorem dX7_slower_75 : decode cX7_slower 75 = .ok (.iload_n 2, 1) := by decide +kernel
theorem dX7_slower_76 : decode cX7_slower 76 = .ok (.invokestatic 165, 3) := by decide +kernel
theorem dX7_slower_79 : decode cX7_slower 79 = .ok (.dup2, 1) := by decide +kernel
theorem dX7_slower_80 : decode cX7_slower 80 = .ok (.iaload, 1) := by decide +kernel
theorem dX7_slower_81 : decode cX7_slower 81 = .ok (.iload_n 3, 1) := by decide +kernel
theorem dX7_slower_82 : decode cX7_slower 82 = .ok (.isub, 1) := by decide +kernel
theorem dX7_slower_83 : decode cX7_slower 83 = .ok (.iastore, 1) := by decide +kernel
theorem dX7_slower_84 : decode cX7_slower 84 = .ok (.aload_n 0, 1) := by decide +kernel
theorem dX7_slower_85 : decode cX7_slower 85 = .ok (.lload 4, 2) := by decide +kernel
theorem dX7_slower_87 : decode cX7_slower 87 = .ok (.aload_n 0, 1) := by decide +kernel
theorem dX7_slower_88 : decode cX7_slower 88 = .ok (.invokevirtual 275, 3) := by decide +kernel
theorem dX7_slower_91 : decode cX7_slower 91 = .ok (.invokevirtual 318, 3) := by decide +kernel
theorem dX7_slower_94 : decode cX7_slower 94 = .ok (.lreturn, 1) := by decide +kernel
theorem dX7_skips_0 : decode cX7_skips 0 = .ok (.aload_n 0, 1) := by decide +kernel
theorem dX7_skips_1 : decode cX7_skips 1 = .ok (.iconst 0, 1) := by decide +kernel
theorem dX7_skips_2 : decode cX7_skips 2 = .ok (.putfield 116, 3) := by decide +kernel
theorem dX7_skips_5 : decode cX7_skips 5 = .ok (.aload_n 0, 1) := by decide +kernel
theorem dX7_skips_6 : decode cX7_skips 6 = .ok (.iload_n 1, 1) := by decide +kernel
theorem dX7_skips_7 : decode cX7_skips 7 = .ok (.iload_n 2, 1) := by decide +kernel
theorem dX7_skips_8 : decode cX7_skips 8 = .ok (.invokevirtual 252, 3) := by decide +kernel
theorem dX7_skips_11 : decode cX7_skips 11 = .ok (.ifCond .eq 7, 3) := by decide +kernel
theorem dX7_skips_14 : decode cX7_skips 14 = .ok (.iload_n 2, 1) := by decide +kernel
theorem dX7_skips_15 : decode cX7_skips 15 = .ok (.ifCond .ne 7, 3) := by decide +kernel
theorem dX7_skips_18 : decode cX7_skips 18 = .ok (.ldc2_w 215, 3) := by decide +kernel
theorem dX7_skips_21 : decode cX7_skips 21 = .ok (.lreturn, 1) := by decide +kernel
theorem dX7_skips_22 : decode cX7_skips 22 = .ok (.aload_n 0, 1) := by decide +kernel
theorem dX7_skips_23 : decode cX7_skips 23 = .ok (.aload_n 0, 1) := by decide +kernel
theorem dX7_skips_24 : decode cX7_skips 24 = .ok (.invokevirtual 315, 3) := by decide +kernel
theorem dX7_skips_27 : decode cX7_skips 27 = .ok (.putfield 310, 3) := by decide +kernel
theorem dX7_skips_30 : decode cX7_skips 30 = .ok (.aload_n 0, 1) := by decide +kernel
theorem dX7_skips_31 : decode cX7_skips 31 = .ok (.iload_n 1, 1) := by decide +kernel
theorem dX7_skips_32 : decode cX7_skips 32 = .ok (.iload_n 2, 1) := by decide +kernel
theorem dX7_skips_33 : decode cX7_skips 33 = .ok (.invokestatic 165, 3) := by decide +kernel
theorem dX7_skips_36 : decode cX7_skips 36 = .ok (.putfield 89, 3) := by decide +kernel
theorem dX7_skips_39 : decode cX7_skips 39 = .ok (.aload_n 0, 1) := by decide +kernel
theorem dX7_skips_40 : decode cX7_skips 40 = .ok (.invokevirtual 315, 3) := by decide +kernel
theorem dX7_skips_43 : decode cX7_skips 43 = .ok (.lstore_n 3, 1) := by decide +kernel
theorem dX7_skips_44 : decode cX7_skips 44 = .ok (.aload_n 0, 1) := by decide +kernel
theorem dX7_skips_45 : decode cX7_skips 45 = .ok (.iconst (-1), 1) := by decide +kernel
theorem dX7_skips_46 : decode cX7_skips 46 = .ok (.putfield 89, 3) := by decide +kernel
theorem dX7_skips_49 : decode cX7_skips 49 = .ok (.aload_n 0, 1) := by decide +kernel
theorem dX7_skips_50 : decode cX7_skips 50 = .ok (.lload_n 3, 1) := by decide +kernel
theorem dX7_skips_51 : decode cX7_skips 51 = .ok (.aload_n 0, 1) := by decide +kernel
theorem dX7_skips_52 : decode cX7_skips 52 = .ok (.invokevirtual 275, 3) := by decide +kernel
theorem dX7_skips_55 : decode cX7_skips 55 = .ok (.invokevirtual 318, 3) := by decide +kernel
theorem dX7_skips_58 : decode cX7_skips 58 = .ok (.lreturn, 1) := by decide +kernel
theorem dX7_uses_0 : decode cX7_uses 0 = .ok (.aload_n 0, 1) := by decide +kernel
theorem dX7_uses_1 : decode cX7_uses 1 = .ok (.iconst 0, 1) := by decide +kernel
theorem dX7_uses_2 : decode cX7_uses 2 = .ok (.putfield 116, 3) := by decide +kernel
theorem dX7_uses_5 : decode cX7_uses 5 = .ok (.iload_n 1, 1) := by decide +kernel
theorem dX7_uses_6 : decode cX7_uses 6 = .ok (.invokestatic 162, 3) := by decide +kernel
theorem dX7_uses_9 : decode cX7_uses 9 = .ok (.ifCond .eq 11, 3) := by decide +kernel
theorem dX7_uses_12 : decode cX7_uses 12 = .ok (.aload_n 0, 1) := by decide +kernel
theorem dX7_uses_13 : decode cX7_uses 13 = .ok (.iload_n 2, 1) := by decide +kernel
theorem dX7_uses_14 : decode cX7_uses 14 = .ok (.invokevirtual 134, 3) := by decide +kernel
theorem dX7_uses_17 : decode cX7_uses 17 = .ok (.ifCond .ne 5, 3) := by decide +kernel
theorem dX7_uses_20 : decode cX7_uses 20 = .ok (.iconst (-1), 1) := by decide +kernel
theorem dX7_uses_21 : decode cX7_uses 21 = .ok (.ireturn, 1) := by decide +kernel
theorem dX7_uses_22 : decode cX7_uses 22 = .ok (.aload_n 0, 1) := by decide +kernel
theorem dX7_uses_23 : decode cX7_uses 23 = .ok (.invokevirtual 246, 3) := by decide +kernel
theorem dX7_uses_26 : decode cX7_uses 26 = .ok (.aload_n 0, 1) := by decide +kernel
theorem dX7_uses_27 : decode cX7_uses 27 = .ok (.getfield 68, 3) := by decide +kernel
theorem dX7_uses_30 : decode cX7_uses 30 = .ok (.iload_n 1, 1) := by decide +kernel
theorem dX7_uses_31 : decode cX7_uses 31 = .ok (.laload, 1) := by decide +kernel
theorem dX7_uses_32 : decode cX7_uses 32 = .ok (.lconst 0, 1) := by decide +kernel
theorem dX7_uses_33 : decode cX7_uses 33 = .ok (.lcmp, 1) := by decide +kernel
theorem dX7_uses_34 : decode cX7_uses 34 = .ok (.ifCond .ge 6, 3) := by decide +kernel
theorem dX7_uses_37 : decode cX7_uses 37 = .ok (.bipush (-2), 2) := by decide +kernel
theorem dX7_uses_39 : decode cX7_uses 39 = .ok (.ireturn, 1) := by decide +kernel
theorem dX7_uses_40 : decode cX7_uses 40 = .ok (.iconst 0, 1) := by decide +kernel
theorem dX7_uses_41 : decode cX7_uses 41 = .ok (.istore_n 3, 1) := by decide +kernel
theorem dX7_uses_42 : decode cX7_uses 42 = .ok (.iload_n 3, 1) := by decide +kernel
theorem dX7_uses_43 : decode cX7_uses 43 = .ok (.bipush 10, 2) := by decide +kernel
theorem dX7_uses_45 : decode cX7_uses 45 = .ok (.if_icmp .ge 39, 3) := by decide +kernel
theorem dX7_uses_48 : decode cX7_uses 48 = .ok (.aload_n 0, 1) := by decide +kernel
theorem dX7_uses_49 : decode cX7_uses 49 = .ok (.getfield 113, 3) := by decide +kernel
theorem dX7_uses_52 : decode cX7_uses 52 = .ok (.iload_n 3, 1) := by decide +kernel
theorem dX7_uses_53 : decode cX7_uses 53 = .ok (.aload_n 0, 1) := by decide +kernel
theorem dX7_uses_54 : decode cX7_uses 54 = .ok (.getfield 43, 3) := by decide +kernel
theorem dX7_uses_57 : decode cX7_uses 57 = .ok (.iload_n 3, 1) := by decide +kernel
theorem dX7_uses_58 : decode cX7_uses 58 = .ok (.iaload, 1) := by decide +kernel
theorem dX7_uses_59 : decode cX7_uses 59 = .ok (.iastore, 1) := by decide +kernel
theorem dX7_uses_60 : decode cX7_uses 60 = .ok (.aload_n 0, 1) := by decide +kernel
theorem dX7_uses_61 : decode cX7_uses 61 = .ok (.getfield 43, 3) := by decide +kernel
theorem dX7_uses_64 : decode cX7_uses 64 = .ok (.iload_n 3, 1) := by decide +kernel
theorem dX7_uses_65 : decode cX7_uses 65 = .ok (.iload_n 3, 1) := by decide +kernel
theorem dX7_uses_66 : decode cX7_uses 66 = .ok (.iload_n 1, 1) := by decide +kernel
theorem dX7_uses_67 : decode cX7_uses 67 = .ok (.if_icmp .ne 9, 3) := by decide +kernel
theorem dX7_uses_70 : decode cX7_uses 70 = .ok (.sipush 1000, 3) := by decide +kernel
theorem dX7_uses_73 : decode cX7_uses 73 = .ok (.goto 4, 3) := by decide +kernel
theorem dX7_uses_76 : decode cX7_uses 76 = .ok (.iconst 0, 1) := by decide +kernel
theorem dX7_uses_77 : decode cX7_uses 77 = .ok (.iastore, 1) := by decide +kernel
theorem dX7_uses_78 : decode cX7_uses 78 = .ok (.iinc 3 1, 3) := by decide +kernel
theorem dX7_uses_81 : decode cX7_uses 81 = .ok (.goto (-39), 3) := by decide +kernel
theorem dX7_uses_84 : decode cX7_uses 84 = .ok (.aload_n 0, 1) := by decide +kernel
theorem dX7_uses_85 : decode cX7_uses 85 = .ok (.invokevirtual 272, 3) := by decide +kernel
theorem dX7_uses_88 : decode cX7_uses 88 = .ok (.iconst 0, 1) := by decide +kernel
theorem dX7_uses_89 : decode cX7_uses 89 = .ok (.istore_n 3, 1) := by decide +kernel
theorem dX7_uses_90 : decode cX7_uses 90 = .ok (.iload_n 3, 1) := by decide +kernel
theorem dX7_uses_91 : decode cX7_uses 91 = .ok (.bipush 10, 2) := by decide +kernel
theorem dX7_uses_93 : decode cX7_uses 93 = .ok (.if_icmp .ge 21, 3) := by decide +kernel
theorem dX7_uses_96 : decode cX7_uses 96 = .ok (.aload_n 0, 1) := by decide +kernel
theorem dX7_uses_97 : decode cX7_uses 97 = .ok (.getfield 43, 3) := by decide +kernel
theorem dX7_uses_100 : decode cX7_uses 100 = .ok (.iload_n 3, 1) := by decide +kernel
theorem dX7_uses_101 : decode cX7_uses 101 = .ok (.aload_n 0, 1) := by decide +kernel
theorem dX7_uses_102 : decode cX7_uses 102 = .ok (.getfield 113, 3) := by decide +kernel
theorem dX7_uses_105 : decode cX7_uses 105 = .ok (.iload_n 3, 1) := by decide +kernel
theorem dX7_uses_106 : decode cX7_uses 106 = .ok (.iaload, 1) := by decide +kernel
theorem dX7_uses_107 : decode cX7_uses 107 = .ok (.iastore, 1) := by decide +kernel
theorem dX7_uses_108 : decode cX7_uses 108 = .ok (.iinc 3 1, 3) := by decide +kernel
theorem dX7_uses_111 : decode cX7_uses 111 = .ok (.goto (-21), 3) := by decide +kernel
theorem dX7_uses_114 : decode cX7_uses 114 = .ok (.lconst 0, 1) := by decide +kernel
theorem dX7_uses_115 : decode cX7_uses 115 = .ok (.lstore_n 3, 1) := by decide +kernel
theorem dX7_uses_116 : decode cX7_uses 116 = .ok (.lconst 0, 1) := by decide +kernel
theorem dX7_uses_117 : decode cX7_uses 117 = .ok (.lstore 5, 2) := by decide +kernel
theorem dX7_uses_119 : decode cX7_uses 119 = .ok (.iconst 0, 1) := by decide +kernel
theorem dX7_uses_120 : decode cX7_uses 120 = .ok (.istore 7, 2) := by decide +kernel
theorem dX7_uses_122 : decode cX7_uses 122 = .ok (.iload 7, 2) := by decide +kernel
theorem dX7_uses_124 : decode cX7_uses 124 = .ok (.aload_n 0, 1) := by decide +kernel
theorem dX7_uses_125 : decode cX7_uses 125 = .ok (.getfield 13, 3) := by decide +kernel
theorem dX7_uses_128 : decode cX7_uses 128 = .ok (.iload_n 2, 1) := by decide +kernel
theorem dX7_uses_129 : decode cX7_uses 129 = .ok (.iaload, 1) := by decide +kernel
theorem dX7_uses_130 : decode cX7_uses 130 = .ok (.if_icmp .ge 23, 3) := by decide +kernel
theorem dX7_uses_133 : decode cX7_uses 133 = .ok (.lload_n 3, 1) := by decide +kernel
theorem dX7_uses_134 : decode cX7_uses 134 = .ok (.aload_n 0, 1) := by decide +kernel
theorem dX7_uses_135 : decode cX7_uses 135 = .ok (.getfield 104, 3) := by decide +kernel
theorem dX7_uses_138 : decode cX7_uses 138 = .ok (.iload_n 2, 1) := by decide +kernel
theorem dX7_uses_139 : decode cX7_uses 139 = .ok (.iload 7, 2) := by decide +kernel
theorem dX7_uses_141 : decode cX7_uses 141 = .ok (.invokestatic 165, 3) := by decide +kernel
theorem dX7_uses_144 : decode cX7_uses 144 = .ok (.laload, 1) := by decide +kernel
theorem dX7_uses_145 : decode cX7_uses 145 = .ok (.ladd, 1) := by decide +kernel
theorem dX7_uses_146 : decode cX7_uses 146 = .ok (.lstore_n 3, 1) := by decide +kernel
theorem dX7_uses_147 : decode cX7_uses 147 = .ok (.iinc 7 1, 3) := by decide +kernel
theorem dX7_uses_150 : decode cX7_uses 150 = .ok (.goto (-28), 3) := by decide +kernel
theorem dX7_uses_153 : decode cX7_uses 153 = .ok (.iconst 0, 1) := by decide +kernel
theorem dX7_uses_154 : decode cX7_uses 154 = .ok (.istore 7, 2) := by decide +kernel
theorem dX7_uses_156 : decode cX7_uses 156 = .ok (.iload 7, 2) := by decide +kernel
theorem dX7_uses_158 : decode cX7_uses 158 = .ok (.bipush 10, 2) := by decide +kernel
theorem dX7_uses_160 : decode cX7_uses 160 = .ok (.if_icmp .ge 34, 3) := by decide +kernel
theorem dX7_uses_163 : decode cX7_uses 163 = .ok (.lload 5, 2) := by decide +kernel
theorem dX7_uses_165 : decode cX7_uses 165 = .ok (.iload 7, 2) := by decide +kernel
theorem dX7_uses_167 : decode cX7_uses 167 = .ok (.aload_n 0, 1) := by decide +kernel
theorem dX7_uses_168 : decode cX7_uses 168 = .ok (.getfield 197, 3) := by decide +kernel
theorem dX7_uses_171 : decode cX7_uses 171 = .ok (.if_icmp .ne 7, 3) := by decide +kernel
theorem dX7_uses_174 : decode cX7_uses 174 = .ok (.lconst 0, 1) := by decide +kernel
theorem dX7_uses_175 : decode cX7_uses 175 = .ok (.goto 10, 3) := by decide +kernel
theorem dX7_uses_178 : decode cX7_uses 178 = .ok (.aload_n 0, 1) := by decide +kernel
theorem dX7_uses_179 : decode cX7_uses 179 = .ok (.getfield 110, 3) := by decide +kernel
theorem dX7_uses_182 : decode cX7_uses 182 = .ok (.iload 7, 2) := by decide +kernel
theorem dX7_uses_184 : decode cX7_uses 184 = .ok (.laload, 1) := by decide +kernel
theorem dX7_uses_185 : decode cX7_uses 185 = .ok (.ladd, 1) := by decide +kernel
theorem dX7_uses_186 : decode cX7_uses 186 = .ok (.lstore 5, 2) := by decide +kernel
theorem dX7_uses_188 : decode cX7_uses 188 = .ok (.iinc 7 1, 3) := by decide +kernel
theorem dX7_uses_191 : decode cX7_uses 191 = .ok (.goto (-35), 3) := by decide +kernel
theorem dX7_uses_194 : decode cX7_uses 194 = .ok (.aload_n 0, 1) := by decide +kernel
theorem dX7_uses_195 : decode cX7_uses 195 = .ok (.iconst 0, 1) := by decide +kernel
theorem dX7_uses_196 : decode cX7_uses 196 = .ok (.putfield 119, 3) := by decide +kernel
theorem dX7_uses_199 : decode cX7_uses 199 = .ok (.aload_n 0, 1) := by decide +kernel
theorem dX7_uses_200 : decode cX7_uses 200 = .ok (.lload 5, 2) := by decide +kernel
theorem dX7_uses_202 : decode cX7_uses 202 = .ok (.invokevirtual 211, 3) := by decide +kernel
theorem dX7_uses_205 : decode cX7_uses 205 = .ok (.lload_n 3, 1) := by decide +kernel
theorem dX7_uses_206 : decode cX7_uses 206 = .ok (.l2i, 1) := by decide +kernel
theorem dX7_uses_207 : decode cX7_uses 207 = .ok (.ireturn, 1) := by decide +kernel
theorem dX7_centre_0 : decode cX7_centre 0 = .ok (.aload_n 0, 1) := by decide +kernel
theorem dX7_centre_1 : decode cX7_centre 1 = .ok (.iconst 0, 1) := by decide +kernel
theorem dX7_centre_2 : decode cX7_centre 2 = .ok (.putfield 116, 3) := by decide +kernel
theorem dX7_centre_5 : decode cX7_centre 5 = .ok (.aload_n 0, 1) := by decide +kernel
theorem dX7_centre_6 : decode cX7_centre 6 = .ok (.getfield 197, 3) := by decide +kernel
theorem dX7_centre_9 : decode cX7_centre 9 = .ok (.istore_n 1, 1) := by decide +kernel
theorem dX7_centre_10 : decode cX7_centre 10 = .ok (.iconst (-1), 1) := by decide +kernel
theorem dX7_centre_11 : decode cX7_centre 11 = .ok (.istore_n 2, 1) := by decide +kernel
theorem dX7_centre_12 : decode cX7_centre 12 = .ok (.lconst 0, 1) := by decide +kernel
theorem dX7_centre_13 : decode cX7_centre 13 = .ok (.lstore_n 3, 1) := by decide +kernel
theorem dX7_centre_14 : decode cX7_centre 14 = .ok (.lconst 0, 1) := by decide +kernel
theorem dX7_centre_15 : decode cX7_centre 15 = .ok (.lstore 5, 2) := by decide +kernel
theorem dX7_centre_17 : decode cX7_centre 17 = .ok (.iconst 0, 1) := by decide +kernel
theorem dX7_centre_18 : decode cX7_centre 18 = .ok (.istore 7, 2) := by decide +kernel
theorem dX7_centre_20 : decode cX7_centre 20 = .ok (.iload 7, 2) := by decide +kernel
theorem dX7_centre_22 : decode cX7_centre 22 = .ok (.bipush 10, 2) := by decide +kernel
theorem dX7_centre_24 : decode cX7_centre 24 = .ok (.if_icmp .ge 68, 3) := by decide +kernel
theorem dX7_centre_27 : decode cX7_centre 27 = .ok (.aload_n 0, 1) := by decide +kernel
theorem dX7_centre_28 : decode cX7_centre 28 = .ok (.iload 7, 2) := by decide +kernel
theorem dX7_centre_30 : decode cX7_centre 30 = .ok (.putfield 197, 3) := by decide +kernel
theorem dX7_centre_33 : decode cX7_centre 33 = .ok (.aload_n 0, 1) := by decide +kernel
theorem dX7_centre_34 : decode cX7_centre 34 = .ok (.invokevirtual 315, 3) := by decide +kernel
theorem dX7_centre_37 : decode cX7_centre 37 = .ok (.lstore 8, 2) := by decide +kernel
theorem dX7_centre_39 : decode cX7_centre 39 = .ok (.aload_n 0, 1) := by decide +kernel
theorem dX7_centre_40 : decode cX7_centre 40 = .ok (.invokevirtual 275, 3) := by decide +kernel
theorem dX7_centre_43 : decode cX7_centre 43 = .ok (.lstore 10, 2) := by decide +kernel
theorem dX7_centre_45 : decode cX7_centre 45 = .ok (.iload_n 2, 1) := by decide +kernel
theorem dX7_centre_46 : decode cX7_centre 46 = .ok (.iconst (-1), 1) := by decide +kernel
theorem dX7_centre_47 : decode cX7_centre 47 = .ok (.if_icmp .eq 29, 3) := by decide +kernel
theorem dX7_centre_50 : decode cX7_centre 50 = .ok (.lload 10, 2) := by decide +kernel
theorem dX7_centre_52 : decode cX7_centre 52 = .ok (.lload 5, 2) := by decide +kernel
theorem dX7_centre_54 : decode cX7_centre 54 = .ok (.lcmp, 1) := by decide +kernel
theorem dX7_centre_55 : decode cX7_centre 55 = .ok (.ifCond .gt 31, 3) := by decide +kernel
theorem dX7_centre_58 : decode cX7_centre 58 = .ok (.lload 10, 2) := by decide +kernel
theorem dX7_centre_60 : decode cX7_centre 60 = .ok (.lload 5, 2) := by decide +kernel
theorem dX7_centre_62 : decode cX7_centre 62 = .ok (.lcmp, 1) := by decide +kernel
theorem dX7_centre_63 : decode cX7_centre 63 = .ok (.ifCond .ne 13, 3) := by decide +kernel
theorem dX7_centre_66 : decode cX7_centre 66 = .ok (.lload 8, 2) := by decide +kernel
theorem dX7_centre_68 : decode cX7_centre 68 = .ok (.lload_n 3, 1) := by decide +kernel
theorem dX7_centre_69 : decode cX7_centre 69 = .ok (.lcmp, 1) := by decide +kernel
theorem dX7_centre_70 : decode cX7_centre 70 = .ok (.ifCond .lt 6, 3) := by decide +kernel
theorem dX7_centre_73 : decode cX7_centre 73 = .ok (.goto 13, 3) := by decide +kernel
theorem dX7_centre_76 : decode cX7_centre 76 = .ok (.iload 7, 2) := by decide +kernel
theorem dX7_centre_78 : decode cX7_centre 78 = .ok (.istore_n 2, 1) := by decide +kernel
theorem dX7_centre_79 : decode cX7_centre 79 = .ok (.lload 8, 2) := by decide +kernel
theorem dX7_centre_81 : decode cX7_centre 81 = .ok (.lstore_n 3, 1) := by decide +kernel
theorem dX7_centre_82 : decode cX7_centre 82 = .ok (.lload 10, 2) := by decide +kernel
theorem dX7_centre_84 : decode cX7_centre 84 = .ok (.lstore 5, 2) := by decide +kernel
theorem dX7_centre_86 : decode cX7_centre 86 = .ok (.iinc 7 1, 3) := by decide +kernel
theorem dX7_centre_89 : decode cX7_centre 89 = .ok (.goto (-69), 3) := by decide +kernel
theorem dX7_centre_92 : decode cX7_centre 92 = .ok (.aload_n 0, 1) := by decide +kernel
theorem dX7_centre_93 : decode cX7_centre 93 = .ok (.iload_n 1, 1) := by decide +kernel
theorem dX7_centre_94 : decode cX7_centre 94 = .ok (.putfield 197, 3) := by decide +kernel
theorem dX7_centre_97 : decode cX7_centre 97 = .ok (.aload_n 0, 1) := by decide +kernel
theorem dX7_centre_98 : decode cX7_centre 98 = .ok (.iconst 0, 1) := by decide +kernel
theorem dX7_centre_99 : decode cX7_centre 99 = .ok (.putfield 119, 3) := by decide +kernel
theorem dX7_centre_102 : decode cX7_centre 102 = .ok (.aload_n 0, 1) := by decide +kernel
theorem dX7_centre_103 : decode cX7_centre 103 = .ok (.lload_n 3, 1) := by decide +kernel
theorem dX7_centre_104 : decode cX7_centre 104 = .ok (.invokevirtual 211, 3) := by decide +kernel
theorem dX7_centre_107 : decode cX7_centre 107 = .ok (.aload_n 0, 1) := by decide +kernel
theorem dX7_centre_108 : decode cX7_centre 108 = .ok (.lload 5, 2) := by decide +kernel
theorem dX7_centre_110 : decode cX7_centre 110 = .ok (.invokevirtual 211, 3) := by decide +kernel
theorem dX7_centre_113 : decode cX7_centre 113 = .ok (.iload_n 2, 1) := by decide +kernel
theorem dX7_centre_114 : decode cX7_centre 114 = .ok (.ireturn, 1) := by decide +kernel
theorem dX7_spare_0 : decode cX7_spare 0 = .ok (.aload_n 0, 1) := by decide +kernel
theorem dX7_spare_1 : decode cX7_spare 1 = .ok (.iconst 0, 1) := by decide +kernel
theorem dX7_spare_2 : decode cX7_spare 2 = .ok (.putfield 116, 3) := by decide +kernel
theorem dX7_spare_5 : decode cX7_spare 5 = .ok (.aload_n 0, 1) := by decide +kernel
theorem dX7_spare_6 : decode cX7_spare 6 = .ok (.aload_n 0, 1) := by decide +kernel
theorem dX7_spare_7 : decode cX7_spare 7 = .ok (.invokevirtual 315, 3) := by decide +kernel
theorem dX7_spare_10 : decode cX7_spare 10 = .ok (.putfield 310, 3) := by decide +kernel
theorem dX7_spare_13 : decode cX7_spare 13 = .ok (.aload_n 0, 1) := by decide +kernel
theorem dX7_spare_14 : decode cX7_spare 14 = .ok (.invokevirtual 275, 3) := by decide +kernel
theorem dX7_spare_17 : decode cX7_spare 17 = .ok (.lstore_n 1, 1) := by decide +kernel
theorem dX7_spare_18 : decode cX7_spare 18 = .ok (.iconst 0, 1) := by decide +kernel
theorem dX7_spare_19 : decode cX7_spare 19 = .ok (.istore_n 3, 1) := by decide +kernel
theorem dX7_spare_20 : decode cX7_spare 20 = .ok (.iconst 0, 1) := by decide +kernel
theorem dX7_spare_21 : decode cX7_spare 21 = .ok (.istore 4, 2) := by decide +kernel
theorem dX7_spare_23 : decode cX7_spare 23 = .ok (.iconst 0, 1) := by decide +kernel
theorem dX7_spare_24 : decode cX7_spare 24 = .ok (.istore 5, 2) := by decide +kernel
theorem dX7_spare_26 : decode cX7_spare 26 = .ok (.iload 5, 2) := by decide +kernel
theorem dX7_spare_28 : decode cX7_spare 28 = .ok (.aload_n 0, 1) := by decide +kernel
theorem dX7_spare_29 : decode cX7_spare 29 = .ok (.getfield 129, 3) := by decide +kernel
theorem dX7_spare_32 : decode cX7_spare 32 = .ok (.if_icmp .ge 72, 3) := by decide +kernel
theorem dX7_spare_35 : decode cX7_spare 35 = .ok (.aload_n 0, 1) := by decide +kernel
theorem dX7_spare_36 : decode cX7_spare 36 = .ok (.getfield 35, 3) := by decide +kernel
theorem dX7_spare_39 : decode cX7_spare 39 = .ok (.iload 5, 2) := by decide +kernel
theorem dX7_spare_41 : decode cX7_spare 41 = .ok (.baload, 1) := by decide +kernel
theorem dX7_spare_42 : decode cX7_spare 42 = .ok (.ifCond .eq 6, 3) := by decide +kernel
theorem dX7_spare_45 : decode cX7_spare 45 = .ok (.goto 53, 3) := by decide +kernel
theorem dX7_spare_48 : decode cX7_spare 48 = .ok (.aload_n 0, 1) := by decide +kernel
theorem dX7_spare_49 : decode cX7_spare 49 = .ok (.getfield 35, 3) := by decide +kernel
theorem dX7_spare_52 : decode cX7_spare 52 = .ok (.iload 5, 2) := by decide +kernel
theorem dX7_spare_54 : decode cX7_spare 54 = .ok (.iconst 1, 1) := by decide +kernel
theorem dX7_spare_55 : decode cX7_spare 55 = .ok (.bastore, 1) := by decide +kernel
theorem dX7_spare_56 : decode cX7_spare 56 = .ok (.aload_n 0, 1) := by decide +kernel
theorem dX7_spare_57 : decode cX7_spare 57 = .ok (.invokevirtual 315, 3) := by decide +kernel
theorem dX7_spare_60 : decode cX7_spare 60 = .ok (.aload_n 0, 1) := by decide +kernel
theorem dX7_spare_61 : decode cX7_spare 61 = .ok (.getfield 310, 3) := by decide +kernel
theorem dX7_spare_64 : decode cX7_spare 64 = .ok (.lcmp, 1) := by decide +kernel
theorem dX7_spare_65 : decode cX7_spare 65 = .ok (.ifCond .ne 25, 3) := by decide +kernel
theorem dX7_spare_68 : decode cX7_spare 68 = .ok (.aload_n 0, 1) := by decide +kernel
theorem dX7_spare_69 : decode cX7_spare 69 = .ok (.invokevirtual 275, 3) := by decide +kernel
theorem dX7_spare_72 : decode cX7_spare 72 = .ok (.lload_n 1, 1) := by decide +kernel
theorem dX7_spare_73 : decode cX7_spare 73 = .ok (.lcmp, 1) := by decide +kernel
theorem dX7_spare_74 : decode cX7_spare 74 = .ok (.ifCond .ne 16, 3) := by decide +kernel
theorem dX7_spare_77 : decode cX7_spare 77 = .ok (.iload_n 3, 1) := by decide +kernel
theorem dX7_spare_78 : decode cX7_spare 78 = .ok (.iconst 1, 1) := by decide +kernel
theorem dX7_spare_79 : decode cX7_spare 79 = .ok (.iload 5, 2) := by decide +kernel
theorem dX7_spare_81 : decode cX7_spare 81 = .ok (.ishl, 1) := by decide +kernel
theorem dX7_spare_82 : decode cX7_spare 82 = .ok (.ior, 1) := by decide +kernel
theorem dX7_spare_83 : decode cX7_spare 83 = .ok (.istore_n 3, 1) := by decide +kernel
theorem dX7_spare_84 : decode cX7_spare 84 = .ok (.iinc 4 1, 3) := by decide +kernel
theorem dX7_spare_87 : decode cX7_spare 87 = .ok (.goto 11, 3) := by decide +kernel
theorem dX7_spare_90 : decode cX7_spare 90 = .ok (.aload_n 0, 1) := by decide +kernel
theorem dX7_spare_91 : decode cX7_spare 91 = .ok (.getfield 35, 3) := by decide +kernel
theorem dX7_spare_94 : decode cX7_spare 94 = .ok (.iload 5, 2) := by decide +kernel
theorem dX7_spare_96 : decode cX7_spare 96 = .ok (.iconst 0, 1) := by decide +kernel
theorem dX7_spare_97 : decode cX7_spare 97 = .ok (.bastore, 1) := by decide +kernel
theorem dX7_spare_98 : decode cX7_spare 98 = .ok (.iinc 5 1, 3) := by decide +kernel
theorem dX7_spare_101 : decode cX7_spare 101 = .ok (.goto (-75), 3) := by decide +kernel
theorem dX7_spare_104 : decode cX7_spare 104 = .ok (.iconst 0, 1) := by decide +kernel
theorem dX7_spare_105 : decode cX7_spare 105 = .ok (.istore 5, 2) := by decide +kernel
theorem dX7_spare_107 : decode cX7_spare 107 = .ok (.iload 5, 2) := by decide +kernel
theorem dX7_spare_109 : decode cX7_spare 109 = .ok (.aload_n 0, 1) := by decide +kernel
theorem dX7_spare_110 : decode cX7_spare 110 = .ok (.getfield 129, 3) := by decide +kernel
theorem dX7_spare_113 : decode cX7_spare 113 = .ok (.if_icmp .ge 27, 3) := by decide +kernel
theorem dX7_spare_116 : decode cX7_spare 116 = .ok (.iload_n 3, 1) := by decide +kernel
theorem dX7_spare_117 : decode cX7_spare 117 = .ok (.iload 5, 2) := by decide +kernel
theorem dX7_spare_119 : decode cX7_spare 119 = .ok (.ishr, 1) := by decide +kernel
theorem dX7_spare_120 : decode cX7_spare 120 = .ok (.iconst 1, 1) := by decide +kernel
theorem dX7_spare_121 : decode cX7_spare 121 = .ok (.iand, 1) := by decide +kernel
theorem dX7_spare_122 : decode cX7_spare 122 = .ok (.iconst 1, 1) := by decide +kernel
theorem dX7_spare_123 : decode cX7_spare 123 = .ok (.if_icmp .ne 11, 3) := by decide +kernel
theorem dX7_spare_126 : decode cX7_spare 126 = .ok (.aload_n 0, 1) := by decide +kernel
theorem dX7_spare_127 : decode cX7_spare 127 = .ok (.getfield 35, 3) := by decide +kernel
theorem dX7_spare_130 : decode cX7_spare 130 = .ok (.iload 5, 2) := by decide +kernel
theorem dX7_spare_132 : decode cX7_spare 132 = .ok (.iconst 0, 1) := by decide +kernel
theorem dX7_spare_133 : decode cX7_spare 133 = .ok (.bastore, 1) := by decide +kernel
theorem dX7_spare_134 : decode cX7_spare 134 = .ok (.iinc 5 1, 3) := by decide +kernel
theorem dX7_spare_137 : decode cX7_spare 137 = .ok (.goto (-30), 3) := by decide +kernel
theorem dX7_spare_140 : decode cX7_spare 140 = .ok (.aload_n 0, 1) := by decide +kernel
theorem dX7_spare_141 : decode cX7_spare 141 = .ok (.iconst 0, 1) := by decide +kernel
theorem dX7_spare_142 : decode cX7_spare 142 = .ok (.putfield 119, 3) := by decide +kernel
theorem dX7_spare_145 : decode cX7_spare 145 = .ok (.aload_n 0, 1) := by decide +kernel
theorem dX7_spare_146 : decode cX7_spare 146 = .ok (.iload 4, 2) := by decide +kernel
theorem dX7_spare_148 : decode cX7_spare 148 = .ok (.i2l, 1) := by decide +kernel
theorem dX7_spare_149 : decode cX7_spare 149 = .ok (.invokevirtual 211, 3) := by decide +kernel
theorem dX7_spare_152 : decode cX7_spare 152 = .ok (.iload_n 3, 1) := by decide +kernel
theorem dX7_spare_153 : decode cX7_spare 153 = .ok (.ireturn, 1) := by decide +kernel
theorem dX7_offset_0 : decode cX7_offset 0 = .ok (.aload_n 0, 1) := by decide +kernel
theorem dX7_offset_1 : decode cX7_offset 1 = .ok (.iconst 0, 1) := by decide +kernel
theorem dX7_offset_2 : decode cX7_offset 2 = .ok (.putfield 116, 3) := by decide +kernel
theorem dX7_offset_5 : decode cX7_offset 5 = .ok (.aload_n 0, 1) := by decide +kernel
theorem dX7_offset_6 : decode cX7_offset 6 = .ok (.iload_n 1, 1) := by decide +kernel
theorem dX7_offset_7 : decode cX7_offset 7 = .ok (.invokevirtual 134, 3) := by decide +kernel
theorem dX7_offset_10 : decode cX7_offset 10 = .ok (.ifCond .eq 15, 3) := by decide +kernel
theorem dX7_offset_13 : decode cX7_offset 13 = .ok (.iload_n 2, 1) := by decide +kernel
theorem dX7_offset_14 : decode cX7_offset 14 = .ok (.i2l, 1) := by decide +kernel
theorem dX7_offset_15 : decode cX7_offset 15 = .ok (.lconst 0, 1) := by decide +kernel
theorem dX7_offset_16 : decode cX7_offset 16 = .ok (.ldc2_w 323, 3) := by decide +kernel
theorem dX7_offset_19 : decode cX7_offset 19 = .ok (.invokestatic 125, 3) := by decide +kernel
theorem dX7_offset_22 : decode cX7_offset 22 = .ok (.ifCond .ne 5, 3) := by decide +kernel
theorem dX7_offset_25 : decode cX7_offset 25 = .ok (.iconst (-1), 1) := by decide +kernel
theorem dX7_offset_26 : decode cX7_offset 26 = .ok (.ireturn, 1) := by decide +kernel
theorem dX7_offset_27 : decode cX7_offset 27 = .ok (.aload_n 0, 1) := by decide +kernel
theorem dX7_offset_28 : decode cX7_offset 28 = .ok (.getfield 32, 3) := by decide +kernel
theorem dX7_offset_31 : decode cX7_offset 31 = .ok (.iload_n 1, 1) := by decide +kernel
theorem dX7_offset_32 : decode cX7_offset 32 = .ok (.iaload, 1) := by decide +kernel
theorem dX7_offset_33 : decode cX7_offset 33 = .ok (.istore_n 3, 1) := by decide +kernel
theorem dX7_offset_34 : decode cX7_offset 34 = .ok (.aload_n 0, 1) := by decide +kernel
theorem dX7_offset_35 : decode cX7_offset 35 = .ok (.getfield 32, 3) := by decide +kernel
theorem dX7_offset_38 : decode cX7_offset 38 = .ok (.iload_n 1, 1) := by decide +kernel
theorem dX7_offset_39 : decode cX7_offset 39 = .ok (.iload_n 2, 1) := by decide +kernel
theorem dX7_offset_40 : decode cX7_offset 40 = .ok (.iastore, 1) := by decide +kernel
theorem dX7_offset_41 : decode cX7_offset 41 = .ok (.iload_n 3, 1) := by decide +kernel
theorem dX7_offset_42 : decode cX7_offset 42 = .ok (.ireturn, 1) := by decide +kernel
theorem dX7_comesAt_0 : decode cX7_comesAt 0 = .ok (.ldc2_w 195, 3) := by decide +kernel
theorem dX7_comesAt_3 : decode cX7_comesAt 3 = .ok (.aload_n 0, 1) := by decide +kernel
theorem dX7_comesAt_4 : decode cX7_comesAt 4 = .ok (.getfield 32, 3) := by decide +kernel
theorem dX7_comesAt_7 : decode cX7_comesAt 7 = .ok (.iload_n 1, 1) := by decide +kernel
theorem dX7_comesAt_8 : decode cX7_comesAt 8 = .ok (.iaload, 1) := by decide +kernel
theorem dX7_comesAt_9 : decode cX7_comesAt 9 = .ok (.i2l, 1) := by decide +kernel
theorem dX7_comesAt_10 : decode cX7_comesAt 10 = .ok (.lmul, 1) := by decide +kernel
theorem dX7_comesAt_11 : decode cX7_comesAt 11 = .ok (.lstore 5, 2) := by decide +kernel
theorem dX7_comesAt_13 : decode cX7_comesAt 13 = .ok (.iconst 0, 1) := by decide +kernel
theorem dX7_comesAt_14 : decode cX7_comesAt 14 = .ok (.istore 7, 2) := by decide +kernel
theorem dX7_comesAt_16 : decode cX7_comesAt 16 = .ok (.iload 7, 2) := by decide +kernel
theorem dX7_comesAt_18 : decode cX7_comesAt 18 = .ok (.iload_n 2, 1) := by decide +kernel
theorem dX7_comesAt_19 : decode cX7_comesAt 19 = .ok (.if_icmp .ge 21, 3) := by decide +kernel
theorem dX7_comesAt_22 : decode cX7_comesAt 22 = .ok (.lload 5, 2) := by decide +kernel
theorem dX7_comesAt_24 : decode cX7_comesAt 24 = .ok (.aload_n 0, 1) := by decide +kernel
theorem dX7_comesAt_25 : decode cX7_comesAt 25 = .ok (.iload_n 1, 1) := by decide +kernel
theorem dX7_comesAt_26 : decode cX7_comesAt 26 = .ok (.iload 7, 2) := by decide +kernel
theorem dX7_comesAt_28 : decode cX7_comesAt 28 = .ok (.invokevirtual 217, 3) := by decide +kernel
theorem dX7_comesAt_31 : decode cX7_comesAt 31 = .ok (.ladd, 1) := by decide +kernel
theorem dX7_comesAt_32 : decode cX7_comesAt 32 = .ok (.lstore 5, 2) := by decide +kernel
theorem dX7_comesAt_34 : decode cX7_comesAt 34 = .ok (.iinc 7 1, 3) := by decide +kernel
theorem dX7_comesAt_37 : decode cX7_comesAt 37 = .ok (.goto (-21), 3) := by decide +kernel
theorem dX7_comesAt_40 : decode cX7_comesAt 40 = .ok (.lload 5, 2) := by decide +kernel
theorem dX7_comesAt_42 : decode cX7_comesAt 42 = .ok (.lload_n 3, 1) := by decide +kernel
theorem dX7_comesAt_43 : decode cX7_comesAt 43 = .ok (.lcmp, 1) := by decide +kernel
theorem dX7_comesAt_44 : decode cX7_comesAt 44 = .ok (.ifCond .lt 6, 3) := by decide +kernel
theorem dX7_comesAt_47 : decode cX7_comesAt 47 = .ok (.lload 5, 2) := by decide +kernel
theorem dX7_comesAt_49 : decode cX7_comesAt 49 = .ok (.lreturn, 1) := by decide +kernel
theorem dX7_comesAt_50 : decode cX7_comesAt 50 = .ok (.lload_n 3, 1) := by decide +kernel
theorem dX7_comesAt_51 : decode cX7_comesAt 51 = .ok (.lload 5, 2) := by decide +kernel
theorem dX7_comesAt_53 : decode cX7_comesAt 53 = .ok (.lsub, 1) := by decide +kernel
theorem dX7_comesAt_54 : decode cX7_comesAt 54 = .ok (.lstore 7, 2) := by decide +kernel
theorem dX7_comesAt_56 : decode cX7_comesAt 56 = .ok (.lload 7, 2) := by decide +kernel
theorem dX7_comesAt_58 : decode cX7_comesAt 58 = .ok (.aload_n 0, 1) := by decide +kernel
theorem dX7_comesAt_59 : decode cX7_comesAt 59 = .ok (.getfield 9, 3) := by decide +kernel
theorem dX7_comesAt_62 : decode cX7_comesAt 62 = .ok (.iload_n 1, 1) := by decide +kernel
theorem dX7_comesAt_63 : decode cX7_comesAt 63 = .ok (.iaload, 1) := by decide +kernel
theorem dX7_comesAt_64 : decode cX7_comesAt 64 = .ok (.i2l, 1) := by decide +kernel
theorem dX7_comesAt_65 : decode cX7_comesAt 65 = .ok (.lmul, 1) := by decide +kernel
theorem dX7_comesAt_66 : decode cX7_comesAt 66 = .ok (.ldc2_w 330, 3) := by decide +kernel
theorem dX7_comesAt_69 : decode cX7_comesAt 69 = .ok (.ladd, 1) := by decide +kernel
theorem dX7_comesAt_70 : decode cX7_comesAt 70 = .ok (.ldc2_w 332, 3) := by decide +kernel
theorem dX7_comesAt_73 : decode cX7_comesAt 73 = .ok (.ldiv, 1) := by decide +kernel
theorem dX7_comesAt_74 : decode cX7_comesAt 74 = .ok (.lstore 9, 2) := by decide +kernel
theorem dX7_comesAt_76 : decode cX7_comesAt 76 = .ok (.lload 5, 2) := by decide +kernel
theorem dX7_comesAt_78 : decode cX7_comesAt 78 = .ok (.ldc2_w 332, 3) := by decide +kernel
theorem dX7_comesAt_81 : decode cX7_comesAt 81 = .ok (.lload 9, 2) := by decide +kernel
theorem dX7_comesAt_83 : decode cX7_comesAt 83 = .ok (.lmul, 1) := by decide +kernel
theorem dX7_comesAt_84 : decode cX7_comesAt 84 = .ok (.aload_n 0, 1) := by decide +kernel
theorem dX7_comesAt_85 : decode cX7_comesAt 85 = .ok (.getfield 9, 3) := by decide +kernel
theorem dX7_comesAt_88 : decode cX7_comesAt 88 = .ok (.iload_n 1, 1) := by decide +kernel
theorem dX7_comesAt_89 : decode cX7_comesAt 89 = .ok (.iaload, 1) := by decide +kernel
theorem dX7_comesAt_90 : decode cX7_comesAt 90 = .ok (.i2l, 1) := by decide +kernel
theorem dX7_comesAt_91 : decode cX7_comesAt 91 = .ok (.ldiv, 1) := by decide +kernel
theorem dX7_comesAt_92 : decode cX7_comesAt 92 = .ok (.ladd, 1) := by decide +kernel
theorem dX7_comesAt_93 : decode cX7_comesAt 93 = .ok (.lreturn, 1) := by decide +kernel
theorem dX7_comes_0 : decode cX7_comes 0 = .ok (.aload_n 0, 1) := by decide +kernel
theorem dX7_comes_1 : decode cX7_comes 1 = .ok (.iconst 0, 1) := by decide +kernel
theorem dX7_comes_2 : decode cX7_comes 2 = .ok (.putfield 116, 3) := by decide +kernel
theorem dX7_comes_5 : decode cX7_comes 5 = .ok (.aload_n 0, 1) := by decide +kernel
theorem dX7_comes_6 : decode cX7_comes 6 = .ok (.iload_n 1, 1) := by decide +kernel
theorem dX7_comes_7 : decode cX7_comes 7 = .ok (.iload_n 2, 1) := by decide +kernel
theorem dX7_comes_8 : decode cX7_comes 8 = .ok (.invokevirtual 207, 3) := by decide +kernel
theorem dX7_comes_11 : decode cX7_comes 11 = .ok (.ifCond .eq 27, 3) := by decide +kernel
theorem dX7_comes_14 : decode cX7_comes 14 = .ok (.iload_n 3, 1) := by decide +kernel
theorem dX7_comes_15 : decode cX7_comes 15 = .ok (.i2l, 1) := by decide +kernel
theorem dX7_comes_16 : decode cX7_comes 16 = .ok (.lconst 0, 1) := by decide +kernel
theorem dX7_comes_17 : decode cX7_comes 17 = .ok (.ldc2_w 297, 3) := by decide +kernel
theorem dX7_comes_20 : decode cX7_comes 20 = .ok (.invokestatic 125, 3) := by decide +kernel
theorem dX7_comes_23 : decode cX7_comes 23 = .ok (.ifCond .eq 15, 3) := by decide +kernel
theorem dX7_comes_26 : decode cX7_comes 26 = .ok (.aload_n 0, 1) := by decide +kernel
theorem dX7_comes_27 : decode cX7_comes 27 = .ok (.iload_n 1, 1) := by decide +kernel
theorem dX7_comes_28 : decode cX7_comes 28 = .ok (.iload_n 2, 1) := by decide +kernel
theorem dX7_comes_29 : decode cX7_comes 29 = .ok (.iload_n 3, 1) := by decide +kernel
theorem dX7_comes_30 : decode cX7_comes 30 = .ok (.i2l, 1) := by decide +kernel
theorem dX7_comes_31 : decode cX7_comes 31 = .ok (.invokevirtual 334, 3) := by decide +kernel
theorem dX7_comes_34 : decode cX7_comes 34 = .ok (.l2i, 1) := by decide +kernel
theorem dX7_comes_35 : decode cX7_comes 35 = .ok (.goto 4, 3) := by decide +kernel
theorem dX7_comes_38 : decode cX7_comes 38 = .ok (.iconst (-1), 1) := by decide +kernel
theorem dX7_comes_39 : decode cX7_comes 39 = .ok (.ireturn, 1) := by decide +kernel
theorem dX7_goes_0 : decode cX7_goes 0 = .ok (.lload_n 2, 1) := by decide +kernel
theorem dX7_goes_1 : decode cX7_goes 1 = .ok (.lstore 5, 2) := by decide +kernel
theorem dX7_goes_3 : decode cX7_goes 3 = .ok (.iload_n 1, 1) := by decide +kernel
theorem dX7_goes_4 : decode cX7_goes 4 = .ok (.istore 7, 2) := by decide +kernel
theorem dX7_goes_6 : decode cX7_goes 6 = .ok (.aload_n 0, 1) := by decide +kernel
theorem dX7_goes_7 : decode cX7_goes 7 = .ok (.iconst 0, 1) := by decide +kernel
theorem dX7_goes_8 : decode cX7_goes 8 = .ok (.putfield 338, 3) := by decide +kernel
theorem dX7_goes_11 : decode cX7_goes 11 = .ok (.iload 7, 2) := by decide +kernel
theorem dX7_goes_13 : decode cX7_goes 13 = .ok (.aload_n 0, 1) := by decide +kernel
theorem dX7_goes_14 : decode cX7_goes 14 = .ok (.getfield 197, 3) := by decide +kernel
theorem dX7_goes_17 : decode cX7_goes 17 = .ok (.if_icmp .eq 197, 3) := by decide +kernel
theorem dX7_goes_20 : decode cX7_goes 20 = .ok (.iconst (-1), 1) := by decide +kernel
theorem dX7_goes_21 : decode cX7_goes 21 = .ok (.istore 8, 2) := by decide +kernel
theorem dX7_goes_23 : decode cX7_goes 23 = .ok (.lconst 0, 1) := by decide +kernel
theorem dX7_goes_24 : decode cX7_goes 24 = .ok (.lstore 9, 2) := by decide +kernel
theorem dX7_goes_26 : decode cX7_goes 26 = .ok (.iconst 0, 1) := by decide +kernel
theorem dX7_goes_27 : decode cX7_goes 27 = .ok (.istore 11, 2) := by decide +kernel
theorem dX7_goes_29 : decode cX7_goes 29 = .ok (.iload 11, 2) := by decide +kernel
theorem dX7_goes_31 : decode cX7_goes 31 = .ok (.aload_n 0, 1) := by decide +kernel
theorem dX7_goes_32 : decode cX7_goes 32 = .ok (.getfield 86, 3) := by decide +kernel
theorem dX7_goes_35 : decode cX7_goes 35 = .ok (.iload 7, 2) := by decide +kernel
theorem dX7_goes_37 : decode cX7_goes 37 = .ok (.iaload, 1) := by decide +kernel
theorem dX7_goes_38 : decode cX7_goes 38 = .ok (.if_icmp .ge 67, 3) := by decide +kernel
theorem dX7_goes_41 : decode cX7_goes 41 = .ok (.aload_n 0, 1) := by decide +kernel
theorem dX7_goes_42 : decode cX7_goes 42 = .ok (.getfield 83, 3) := by decide +kernel
theorem dX7_goes_45 : decode cX7_goes 45 = .ok (.bipush 12, 2) := by decide +kernel
theorem dX7_goes_47 : decode cX7_goes 47 = .ok (.iload 7, 2) := by decide +kernel
theorem dX7_goes_49 : decode cX7_goes 49 = .ok (.imul, 1) := by decide +kernel
theorem dX7_goes_50 : decode cX7_goes 50 = .ok (.iload 11, 2) := by decide +kernel
theorem dX7_goes_52 : decode cX7_goes 52 = .ok (.iadd, 1) := by decide +kernel
theorem dX7_goes_53 : decode cX7_goes 53 = .ok (.iaload, 1) := by decide +kernel
theorem dX7_goes_54 : decode cX7_goes 54 = .ok (.istore 12, 2) := by decide +kernel
theorem dX7_goes_56 : decode cX7_goes 56 = .ok (.aload_n 0, 1) := by decide +kernel
theorem dX7_goes_57 : decode cX7_goes 57 = .ok (.iload 12, 2) := by decide +kernel
theorem dX7_goes_59 : decode cX7_goes 59 = .ok (.aload_n 0, 1) := by decide +kernel
theorem dX7_goes_60 : decode cX7_goes 60 = .ok (.iload 12, 2) := by decide +kernel
theorem dX7_goes_62 : decode cX7_goes 62 = .ok (.iload 7, 2) := by decide +kernel
theorem dX7_goes_64 : decode cX7_goes 64 = .ok (.invokevirtual 224, 3) := by decide +kernel
theorem dX7_goes_67 : decode cX7_goes 67 = .ok (.lload 5, 2) := by decide +kernel
theorem dX7_goes_69 : decode cX7_goes 69 = .ok (.invokevirtual 334, 3) := by decide +kernel
theorem dX7_goes_72 : decode cX7_goes 72 = .ok (.lstore 13, 2) := by decide +kernel
theorem dX7_goes_74 : decode cX7_goes 74 = .ok (.iload 8, 2) := by decide +kernel
theorem dX7_goes_76 : decode cX7_goes 76 = .ok (.iconst (-1), 1) := by decide +kernel
theorem dX7_goes_77 : decode cX7_goes 77 = .ok (.if_icmp .eq 14, 3) := by decide +kernel
theorem dX7_goes_80 : decode cX7_goes 80 = .ok (.lload 13, 2) := by decide +kernel
theorem dX7_goes_82 : decode cX7_goes 82 = .ok (.lload 9, 2) := by decide +kernel
theorem dX7_goes_84 : decode cX7_goes 84 = .ok (.lcmp, 1) := by decide +kernel
theorem dX7_goes_85 : decode cX7_goes 85 = .ok (.ifCond .lt 6, 3) := by decide +kernel
theorem dX7_goes_88 : decode cX7_goes 88 = .ok (.goto 11, 3) := by decide +kernel
theorem dX7_goes_91 : decode cX7_goes 91 = .ok (.iload 12, 2) := by decide +kernel
theorem dX7_goes_93 : decode cX7_goes 93 = .ok (.istore 8, 2) := by decide +kernel
theorem dX7_goes_95 : decode cX7_goes 95 = .ok (.lload 13, 2) := by decide +kernel
theorem dX7_goes_97 : decode cX7_goes 97 = .ok (.lstore 9, 2) := by decide +kernel
theorem dX7_goes_99 : decode cX7_goes 99 = .ok (.iinc 11 1, 3) := by decide +kernel
theorem dX7_goes_102 : decode cX7_goes 102 = .ok (.goto (-73), 3) := by decide +kernel
theorem dX7_goes_105 : decode cX7_goes 105 = .ok (.aload_n 0, 1) := by decide +kernel
theorem dX7_goes_106 : decode cX7_goes 106 = .ok (.iload 8, 2) := by decide +kernel
theorem dX7_goes_108 : decode cX7_goes 108 = .ok (.iload 7, 2) := by decide +kernel
theorem dX7_goes_110 : decode cX7_goes 110 = .ok (.invokevirtual 224, 3) := by decide +kernel
theorem dX7_goes_113 : decode cX7_goes 113 = .ok (.istore 11, 2) := by decide +kernel
theorem dX7_goes_115 : decode cX7_goes 115 = .ok (.aload_n 0, 1) := by decide +kernel
theorem dX7_goes_116 : decode cX7_goes 116 = .ok (.iload 8, 2) := by decide +kernel
theorem dX7_goes_118 : decode cX7_goes 118 = .ok (.iload 11, 2) := by decide +kernel
theorem dX7_goes_120 : decode cX7_goes 120 = .ok (.invokevirtual 266, 3) := by decide +kernel
theorem dX7_goes_123 : decode cX7_goes 123 = .ok (.istore 12, 2) := by decide +kernel
theorem dX7_goes_125 : decode cX7_goes 125 = .ok (.lload 9, 2) := by decide +kernel
theorem dX7_goes_127 : decode cX7_goes 127 = .ok (.lstore 5, 2) := by decide +kernel
theorem dX7_goes_129 : decode cX7_goes 129 = .ok (.iload 11, 2) := by decide +kernel
theorem dX7_goes_131 : decode cX7_goes 131 = .ok (.istore 13, 2) := by decide +kernel
theorem dX7_goes_133 : decode cX7_goes 133 = .ok (.iload 13, 2) := by decide +kernel
theorem dX7_goes_135 : decode cX7_goes 135 = .ok (.iload 12, 2) := by decide +kernel
theorem dX7_goes_137 : decode cX7_goes 137 = .ok (.if_icmp .ge 22, 3) := by decide +kernel
theorem dX7_goes_140 : decode cX7_goes 140 = .ok (.lload 5, 2) := by decide +kernel
theorem dX7_goes_142 : decode cX7_goes 142 = .ok (.aload_n 0, 1) := by decide +kernel
theorem dX7_goes_143 : decode cX7_goes 143 = .ok (.iload 8, 2) := by decide +kernel
theorem dX7_goes_145 : decode cX7_goes 145 = .ok (.iload 13, 2) := by decide +kernel
theorem dX7_goes_147 : decode cX7_goes 147 = .ok (.invokevirtual 217, 3) := by decide +kernel
theorem dX7_goes_150 : decode cX7_goes 150 = .ok (.ladd, 1) := by decide +kernel
theorem dX7_goes_151 : decode cX7_goes 151 = .ok (.lstore 5, 2) := by decide +kernel
theorem dX7_goes_153 : decode cX7_goes 153 = .ok (.iinc 13 1, 3) := by decide +kernel
theorem dX7_goes_156 : decode cX7_goes 156 = .ok (.goto (-23), 3) := by decide +kernel
theorem dX7_goes_159 : decode cX7_goes 159 = .ok (.aload_n 0, 1) := by decide +kernel
theorem dX7_goes_160 : decode cX7_goes 160 = .ok (.getfield 16, 3) := by decide +kernel
theorem dX7_goes_163 : decode cX7_goes 163 = .ok (.iload 8, 2) := by decide +kernel
theorem dX7_goes_165 : decode cX7_goes 165 = .ok (.iload 12, 2) := by decide +kernel
theorem dX7_goes_167 : decode cX7_goes 167 = .ok (.invokestatic 165, 3) := by decide +kernel
theorem dX7_goes_170 : decode cX7_goes 170 = .ok (.iaload, 1) := by decide +kernel
theorem dX7_goes_171 : decode cX7_goes 171 = .ok (.istore 7, 2) := by decide +kernel
theorem dX7_goes_173 : decode cX7_goes 173 = .ok (.iload 4, 2) := by decide +kernel
theorem dX7_goes_175 : decode cX7_goes 175 = .ok (.ifCond .eq 26, 3) := by decide +kernel
theorem dX7_goes_178 : decode cX7_goes 178 = .ok (.aload_n 0, 1) := by decide +kernel
theorem dX7_goes_179 : decode cX7_goes 179 = .ok (.getfield 338, 3) := by decide +kernel
theorem dX7_goes_182 : decode cX7_goes 182 = .ok (.bipush 8, 2) := by decide +kernel
theorem dX7_goes_184 : decode cX7_goes 184 = .ok (.if_icmp .ge 17, 3) := by decide +kernel
theorem dX7_goes_187 : decode cX7_goes 187 = .ok (.aload_n 0, 1) := by decide +kernel
theorem dX7_goes_188 : decode cX7_goes 188 = .ok (.iload 8, 2) := by decide +kernel
theorem dX7_goes_190 : decode cX7_goes 190 = .ok (.i2l, 1) := by decide +kernel
theorem dX7_goes_191 : decode cX7_goes 191 = .ok (.invokevirtual 211, 3) := by decide +kernel
theorem dX7_goes_194 : decode cX7_goes 194 = .ok (.aload_n 0, 1) := by decide +kernel
theorem dX7_goes_195 : decode cX7_goes 195 = .ok (.iload 7, 2) := by decide +kernel
theorem dX7_goes_197 : decode cX7_goes 197 = .ok (.i2l, 1) := by decide +kernel
theorem dX7_goes_198 : decode cX7_goes 198 = .ok (.invokevirtual 211, 3) := by decide +kernel
theorem dX7_goes_201 : decode cX7_goes 201 = .ok (.aload_n 0, 1) := by decide +kernel
theorem dX7_goes_202 : decode cX7_goes 202 = .ok (.dup, 1) := by decide +kernel
theorem dX7_goes_203 : decode cX7_goes 203 = .ok (.getfield 338, 3) := by decide +kernel
theorem dX7_goes_206 : decode cX7_goes 206 = .ok (.iconst 1, 1) := by decide +kernel
theorem dX7_goes_207 : decode cX7_goes 207 = .ok (.iadd, 1) := by decide +kernel
theorem dX7_goes_208 : decode cX7_goes 208 = .ok (.putfield 338, 3) := by decide +kernel
theorem dX7_goes_211 : decode cX7_goes 211 = .ok (.goto (-200), 3) := by decide +kernel
theorem dX7_goes_214 : decode cX7_goes 214 = .ok (.lload 5, 2) := by decide +kernel
theorem dX7_goes_216 : decode cX7_goes 216 = .ok (.lload_n 2, 1) := by decide +kernel
theorem dX7_goes_217 : decode cX7_goes 217 = .ok (.lsub, 1) := by decide +kernel
theorem dX7_goes_218 : decode cX7_goes 218 = .ok (.lreturn, 1) := by decide +kernel
theorem dX7_journey_0 : decode cX7_journey 0 = .ok (.aload_n 0, 1) := by decide +kernel
theorem dX7_journey_1 : decode cX7_journey 1 = .ok (.iconst 0, 1) := by decide +kernel
theorem dX7_journey_2 : decode cX7_journey 2 = .ok (.putfield 116, 3) := by decide +kernel
theorem dX7_journey_5 : decode cX7_journey 5 = .ok (.iload_n 1, 1) := by decide +kernel
theorem dX7_journey_6 : decode cX7_journey 6 = .ok (.invokestatic 162, 3) := by decide +kernel
theorem dX7_journey_9 : decode cX7_journey 9 = .ok (.ifCond .eq 15, 3) := by decide +kernel
theorem dX7_journey_12 : decode cX7_journey 12 = .ok (.iload_n 2, 1) := by decide +kernel
theorem dX7_journey_13 : decode cX7_journey 13 = .ok (.i2l, 1) := by decide +kernel
theorem dX7_journey_14 : decode cX7_journey 14 = .ok (.lconst 0, 1) := by decide +kernel
theorem dX7_journey_15 : decode cX7_journey 15 = .ok (.ldc2_w 297, 3) := by decide +kernel
theorem dX7_journey_18 : decode cX7_journey 18 = .ok (.invokestatic 125, 3) := by decide +kernel
theorem dX7_journey_21 : decode cX7_journey 21 = .ok (.ifCond .ne 5, 3) := by decide +kernel
theorem dX7_journey_24 : decode cX7_journey 24 = .ok (.iconst (-1), 1) := by decide +kernel
theorem dX7_journey_25 : decode cX7_journey 25 = .ok (.ireturn, 1) := by decide +kernel
theorem dX7_journey_26 : decode cX7_journey 26 = .ok (.aload_n 0, 1) := by decide +kernel
theorem dX7_journey_27 : decode cX7_journey 27 = .ok (.invokevirtual 246, 3) := by decide +kernel
theorem dX7_journey_30 : decode cX7_journey 30 = .ok (.aload_n 0, 1) := by decide +kernel
theorem dX7_journey_31 : decode cX7_journey 31 = .ok (.getfield 68, 3) := by decide +kernel
theorem dX7_journey_34 : decode cX7_journey 34 = .ok (.iload_n 1, 1) := by decide +kernel
theorem dX7_journey_35 : decode cX7_journey 35 = .ok (.laload, 1) := by decide +kernel
theorem dX7_journey_36 : decode cX7_journey 36 = .ok (.lconst 0, 1) := by decide +kernel
theorem dX7_journey_37 : decode cX7_journey 37 = .ok (.lcmp, 1) := by decide +kernel
theorem dX7_journey_38 : decode cX7_journey 38 = .ok (.ifCond .ge 6, 3) := by decide +kernel
theorem dX7_journey_41 : decode cX7_journey 41 = .ok (.bipush (-2), 2) := by decide +kernel
theorem dX7_journey_43 : decode cX7_journey 43 = .ok (.ireturn, 1) := by decide +kernel
theorem dX7_journey_44 : decode cX7_journey 44 = .ok (.aload_n 0, 1) := by decide +kernel
theorem dX7_journey_45 : decode cX7_journey 45 = .ok (.iconst 0, 1) := by decide +kernel
theorem dX7_journey_46 : decode cX7_journey 46 = .ok (.putfield 119, 3) := by decide +kernel
theorem dX7_journey_49 : decode cX7_journey 49 = .ok (.aload_n 0, 1) := by decide +kernel
theorem dX7_journey_50 : decode cX7_journey 50 = .ok (.iload_n 1, 1) := by decide +kernel
theorem dX7_journey_51 : decode cX7_journey 51 = .ok (.iload_n 2, 1) := by decide +kernel
theorem dX7_journey_52 : decode cX7_journey 52 = .ok (.i2l, 1) := by decide +kernel
theorem dX7_journey_53 : decode cX7_journey 53 = .ok (.iconst 1, 1) := by decide +kernel
theorem dX7_journey_54 : decode cX7_journey 54 = .ok (.invokevirtual 341, 3) := by decide +kernel
theorem dX7_journey_57 : decode cX7_journey 57 = .ok (.l2i, 1) := by decide +kernel
theorem dX7_journey_58 : decode cX7_journey 58 = .ok (.ireturn, 1) := by decide +kernel
theorem dX7_usual_0 : decode cX7_usual 0 = .ok (.aload_n 0, 1) := by decide +kernel
theorem dX7_usual_1 : decode cX7_usual 1 = .ok (.iconst 0, 1) := by decide +kernel
theorem dX7_usual_2 : decode cX7_usual 2 = .ok (.putfield 116, 3) := by decide +kernel
theorem dX7_usual_5 : decode cX7_usual 5 = .ok (.iload_n 1, 1) := by decide +kernel
theorem dX7_usual_6 : decode cX7_usual 6 = .ok (.invokestatic 162, 3) := by decide +kernel
theorem dX7_usual_9 : decode cX7_usual 9 = .ok (.ifCond .eq 15, 3) := by decide +kernel
theorem dX7_usual_12 : decode cX7_usual 12 = .ok (.iload_n 2, 1) := by decide +kernel
theorem dX7_usual_13 : decode cX7_usual 13 = .ok (.i2l, 1) := by decide +kernel
theorem dX7_usual_14 : decode cX7_usual 14 = .ok (.lconst 1, 1) := by decide +kernel
theorem dX7_usual_15 : decode cX7_usual 15 = .ok (.ldc2_w 205, 3) := by decide +kernel
theorem dX7_usual_18 : decode cX7_usual 18 = .ok (.invokestatic 125, 3) := by decide +kernel
theorem dX7_usual_21 : decode cX7_usual 21 = .ok (.ifCond .ne 5, 3) := by decide +kernel
theorem dX7_usual_24 : decode cX7_usual 24 = .ok (.iconst (-1), 1) := by decide +kernel
theorem dX7_usual_25 : decode cX7_usual 25 = .ok (.ireturn, 1) := by decide +kernel
theorem dX7_usual_26 : decode cX7_usual 26 = .ok (.aload_n 0, 1) := by decide +kernel
theorem dX7_usual_27 : decode cX7_usual 27 = .ok (.invokevirtual 246, 3) := by decide +kernel
theorem dX7_usual_30 : decode cX7_usual 30 = .ok (.aload_n 0, 1) := by decide +kernel
theorem dX7_usual_31 : decode cX7_usual 31 = .ok (.getfield 68, 3) := by decide +kernel
theorem dX7_usual_34 : decode cX7_usual 34 = .ok (.iload_n 1, 1) := by decide +kernel
theorem dX7_usual_35 : decode cX7_usual 35 = .ok (.laload, 1) := by decide +kernel
theorem dX7_usual_36 : decode cX7_usual 36 = .ok (.lconst 0, 1) := by decide +kernel
theorem dX7_usual_37 : decode cX7_usual 37 = .ok (.lcmp, 1) := by decide +kernel
theorem dX7_usual_38 : decode cX7_usual 38 = .ok (.ifCond .ge 6, 3) := by decide +kernel
theorem dX7_usual_41 : decode cX7_usual 41 = .ok (.bipush (-2), 2) := by decide +kernel
theorem dX7_usual_43 : decode cX7_usual 43 = .ok (.ireturn, 1) := by decide +kernel
theorem dX7_usual_44 : decode cX7_usual 44 = .ok (.lconst 0, 1) := by decide +kernel
theorem dX7_usual_45 : decode cX7_usual 45 = .ok (.lstore_n 3, 1) := by decide +kernel
theorem dX7_usual_46 : decode cX7_usual 46 = .ok (.ldc2_w 347, 3) := by decide +kernel
theorem dX7_usual_49 : decode cX7_usual 49 = .ok (.lstore 5, 2) := by decide +kernel
theorem dX7_usual_51 : decode cX7_usual 51 = .ok (.lconst 0, 1) := by decide +kernel
theorem dX7_usual_52 : decode cX7_usual 52 = .ok (.lstore 7, 2) := by decide +kernel
theorem dX7_usual_54 : decode cX7_usual 54 = .ok (.iconst 0, 1) := by decide +kernel
theorem dX7_usual_55 : decode cX7_usual 55 = .ok (.istore 9, 2) := by decide +kernel
theorem dX7_usual_57 : decode cX7_usual 57 = .ok (.iload 9, 2) := by decide +kernel
theorem dX7_usual_59 : decode cX7_usual 59 = .ok (.iload_n 2, 1) := by decide +kernel
theorem dX7_usual_60 : decode cX7_usual 60 = .ok (.if_icmp .ge 47, 3) := by decide +kernel
theorem dX7_usual_63 : decode cX7_usual 63 = .ok (.aload_n 0, 1) := by decide +kernel
theorem dX7_usual_64 : decode cX7_usual 64 = .ok (.iload_n 1, 1) := by decide +kernel
theorem dX7_usual_65 : decode cX7_usual 65 = .ok (.ldc2_w 195, 3) := by decide +kernel
theorem dX7_usual_68 : decode cX7_usual 68 = .ok (.iload 9, 2) := by decide +kernel
theorem dX7_usual_70 : decode cX7_usual 70 = .ok (.i2l, 1) := by decide +kernel
theorem dX7_usual_71 : decode cX7_usual 71 = .ok (.lmul, 1) := by decide +kernel
theorem dX7_usual_72 : decode cX7_usual 72 = .ok (.iconst 0, 1) := by decide +kernel
theorem dX7_usual_73 : decode cX7_usual 73 = .ok (.invokevirtual 341, 3) := by decide +kernel
theorem dX7_usual_76 : decode cX7_usual 76 = .ok (.lstore 10, 2) := by decide +kernel
theorem dX7_usual_78 : decode cX7_usual 78 = .ok (.lload_n 3, 1) := by decide +kernel
theorem dX7_usual_79 : decode cX7_usual 79 = .ok (.lload 10, 2) := by decide +kernel
theorem dX7_usual_81 : decode cX7_usual 81 = .ok (.ladd, 1) := by decide +kernel
theorem dX7_usual_82 : decode cX7_usual 82 = .ok (.lstore_n 3, 1) := by decide +kernel
theorem dX7_usual_83 : decode cX7_usual 83 = .ok (.lload 5, 2) := by decide +kernel
theorem dX7_usual_85 : decode cX7_usual 85 = .ok (.lload 10, 2) := by decide +kernel
theorem dX7_usual_87 : decode cX7_usual 87 = .ok (.invokestatic 299, 3) := by decide +kernel
theorem dX7_usual_90 : decode cX7_usual 90 = .ok (.lstore 5, 2) := by decide +kernel
theorem dX7_usual_92 : decode cX7_usual 92 = .ok (.lload 7, 2) := by decide +kernel
theorem dX7_usual_94 : decode cX7_usual 94 = .ok (.lload 10, 2) := by decide +kernel
theorem dX7_usual_96 : decode cX7_usual 96 = .ok (.invokestatic 349, 3) := by decide +kernel
theorem dX7_usual_99 : decode cX7_usual 99 = .ok (.lstore 7, 2) := by decide +kernel
theorem dX7_usual_101 : decode cX7_usual 101 = .ok (.iinc 9 1, 3) := by decide +kernel
theorem dX7_usual_104 : decode cX7_usual 104 = .ok (.goto (-47), 3) := by decide +kernel
theorem dX7_usual_107 : decode cX7_usual 107 = .ok (.aload_n 0, 1) := by decide +kernel
theorem dX7_usual_108 : decode cX7_usual 108 = .ok (.iconst 0, 1) := by decide +kernel
theorem dX7_usual_109 : decode cX7_usual 109 = .ok (.putfield 119, 3) := by decide +kernel
theorem dX7_usual_112 : decode cX7_usual 112 = .ok (.aload_n 0, 1) := by decide +kernel
theorem dX7_usual_113 : decode cX7_usual 113 = .ok (.lload 5, 2) := by decide +kernel
theorem dX7_usual_115 : decode cX7_usual 115 = .ok (.invokevirtual 211, 3) := by decide +kernel
theorem dX7_usual_118 : decode cX7_usual 118 = .ok (.aload_n 0, 1) := by decide +kernel
theorem dX7_usual_119 : decode cX7_usual 119 = .ok (.lload 7, 2) := by decide +kernel
theorem dX7_usual_121 : decode cX7_usual 121 = .ok (.invokevirtual 211, 3) := by decide +kernel
theorem dX7_usual_124 : decode cX7_usual 124 = .ok (.lload_n 3, 1) := by decide +kernel
theorem dX7_usual_125 : decode cX7_usual 125 = .ok (.iload_n 2, 1) := by decide +kernel
theorem dX7_usual_126 : decode cX7_usual 126 = .ok (.i2l, 1) := by decide +kernel
theorem dX7_usual_127 : decode cX7_usual 127 = .ok (.ldiv, 1) := by decide +kernel
theorem dX7_usual_128 : decode cX7_usual 128 = .ok (.l2i, 1) := by decide +kernel
theorem dX7_usual_129 : decode cX7_usual 129 = .ok (.ireturn, 1) := by decide +kernel
theorem dX7_ridersMany_0 : decode cX7_ridersMany 0 = .ok (.iconst 0, 1) := by decide +kernel
theorem dX7_ridersMany_1 : decode cX7_ridersMany 1 = .ok (.istore_n 1, 1) := by decide +kernel
theorem dX7_ridersMany_2 : decode cX7_ridersMany 2 = .ok (.iconst 0, 1) := by decide +kernel
theorem dX7_ridersMany_3 : decode cX7_ridersMany 3 = .ok (.istore_n 2, 1) := by decide +kernel
theorem dX7_ridersMany_4 : decode cX7_ridersMany 4 = .ok (.iload_n 2, 1) := by decide +kernel
theorem dX7_ridersMany_5 : decode cX7_ridersMany 5 = .ok (.bipush 10, 2) := by decide +kernel
theorem dX7_ridersMany_7 : decode cX7_ridersMany 7 = .ok (.if_icmp .ge 18, 3) := by decide +kernel
theorem dX7_ridersMany_10 : decode cX7_ridersMany 10 = .ok (.iload_n 1, 1) := by decide +kernel
theorem dX7_ridersMany_11 : decode cX7_ridersMany 11 = .ok (.aload_n 0, 1) := by decide +kernel
theorem dX7_ridersMany_12 : decode cX7_ridersMany 12 = .ok (.getfield 43, 3) := by decide +kernel
theorem dX7_ridersMany_15 : decode cX7_ridersMany 15 = .ok (.iload_n 2, 1) := by decide +kernel
theorem dX7_ridersMany_16 : decode cX7_ridersMany 16 = .ok (.iaload, 1) := by decide +kernel
theorem dX7_ridersMany_17 : decode cX7_ridersMany 17 = .ok (.iadd, 1) := by decide +kernel
theorem dX7_ridersMany_18 : decode cX7_ridersMany 18 = .ok (.istore_n 1, 1) := by decide +kernel
theorem dX7_ridersMany_19 : decode cX7_ridersMany 19 = .ok (.iinc 2 1, 3) := by decide +kernel
theorem dX7_ridersMany_22 : decode cX7_ridersMany 22 = .ok (.goto (-18), 3) := by decide +kernel
theorem dX7_ridersMany_25 : decode cX7_ridersMany 25 = .ok (.iload_n 1, 1) := by decide +kernel
theorem dX7_ridersMany_26 : decode cX7_ridersMany 26 = .ok (.ireturn, 1) := by decide +kernel
theorem dX7_stepMany_0 : decode cX7_stepMany 0 = .ok (.iconst 0, 1) := by decide +kernel
theorem dX7_stepMany_1 : decode cX7_stepMany 1 = .ok (.istore_n 1, 1) := by decide +kernel
theorem dX7_stepMany_2 : decode cX7_stepMany 2 = .ok (.iconst 0, 1) := by decide +kernel
theorem dX7_stepMany_3 : decode cX7_stepMany 3 = .ok (.istore_n 2, 1) := by decide +kernel
theorem dX7_stepMany_4 : decode cX7_stepMany 4 = .ok (.iload_n 2, 1) := by decide +kernel
theorem dX7_stepMany_5 : decode cX7_stepMany 5 = .ok (.aload_n 0, 1) := by decide +kernel
theorem dX7_stepMany_6 : decode cX7_stepMany 6 = .ok (.getfield 129, 3) := by decide +kernel
theorem dX7_stepMany_9 : decode cX7_stepMany 9 = .ok (.if_icmp .ge 20, 3) := by decide +kernel
theorem dX7_stepMany_12 : decode cX7_stepMany 12 = .ok (.iload_n 1, 1) := by decide +kernel
theorem dX7_stepMany_13 : decode cX7_stepMany 13 = .ok (.aload_n 0, 1) := by decide +kernel
theorem dX7_stepMany_14 : decode cX7_stepMany 14 = .ok (.getfield 13, 3) := by decide +kernel
theorem dX7_stepMany_17 : decode cX7_stepMany 17 = .ok (.iload_n 2, 1) := by decide +kernel
theorem dX7_stepMany_18 : decode cX7_stepMany 18 = .ok (.iaload, 1) := by decide +kernel
theorem dX7_stepMany_19 : decode cX7_stepMany 19 = .ok (.iconst 1, 1) := by decide +kernel
theorem dX7_stepMany_20 : decode cX7_stepMany 20 = .ok (.isub, 1) := by decide +kernel
theorem dX7_stepMany_21 : decode cX7_stepMany 21 = .ok (.iadd, 1) := by decide +kernel
theorem dX7_stepMany_22 : decode cX7_stepMany 22 = .ok (.istore_n 1, 1) := by decide +kernel
theorem dX7_stepMany_23 : decode cX7_stepMany 23 = .ok (.iinc 2 1, 3) := by decide +kernel
theorem dX7_stepMany_26 : decode cX7_stepMany 26 = .ok (.goto (-22), 3) := by decide +kernel
theorem dX7_stepMany_29 : decode cX7_stepMany 29 = .ok (.iload_n 1, 1) := by decide +kernel
theorem dX7_stepMany_30 : decode cX7_stepMany 30 = .ok (.ireturn, 1) := by decide +kernel
theorem dX7_closedBits_0 : decode cX7_closedBits 0 = .ok (.iconst 0, 1) := by decide +kernel
theorem dX7_closedBits_1 : decode cX7_closedBits 1 = .ok (.istore_n 1, 1) := by decide +kernel
theorem dX7_closedBits_2 : decode cX7_closedBits 2 = .ok (.iconst 0, 1) := by decide +kernel
theorem dX7_closedBits_3 : decode cX7_closedBits 3 = .ok (.istore_n 2, 1) := by decide +kernel
theorem dX7_closedBits_4 : decode cX7_closedBits 4 = .ok (.iload_n 2, 1) := by decide +kernel
theorem dX7_closedBits_5 : decode cX7_closedBits 5 = .ok (.bipush 10, 2) := by decide +kernel
theorem dX7_closedBits_7 : decode cX7_closedBits 7 = .ok (.if_icmp .ge 28, 3) := by decide +kernel
theorem dX7_closedBits_10 : decode cX7_closedBits 10 = .ok (.iload_n 1, 1) := by decide +kernel
theorem dX7_closedBits_11 : decode cX7_closedBits 11 = .ok (.aload_n 0, 1) := by decide +kernel
theorem dX7_closedBits_12 : decode cX7_closedBits 12 = .ok (.getfield 46, 3) := by decide +kernel
theorem dX7_closedBits_15 : decode cX7_closedBits 15 = .ok (.iload_n 2, 1) := by decide +kernel
theorem dX7_closedBits_16 : decode cX7_closedBits 16 = .ok (.baload, 1) := by decide +kernel
theorem dX7_closedBits_17 : decode cX7_closedBits 17 = .ok (.ifCond .eq 9, 3) := by decide +kernel
theorem dX7_closedBits_20 : decode cX7_closedBits 20 = .ok (.iconst 1, 1) := by decide +kernel
theorem dX7_closedBits_21 : decode cX7_closedBits 21 = .ok (.iload_n 2, 1) := by decide +kernel
theorem dX7_closedBits_22 : decode cX7_closedBits 22 = .ok (.ishl, 1) := by decide +kernel
theorem dX7_closedBits_23 : decode cX7_closedBits 23 = .ok (.goto 4, 3) := by decide +kernel
theorem dX7_closedBits_26 : decode cX7_closedBits 26 = .ok (.iconst 0, 1) := by decide +kernel
theorem dX7_closedBits_27 : decode cX7_closedBits 27 = .ok (.ior, 1) := by decide +kernel
theorem dX7_closedBits_28 : decode cX7_closedBits 28 = .ok (.istore_n 1, 1) := by decide +kernel
theorem dX7_closedBits_29 : decode cX7_closedBits 29 = .ok (.iinc 2 1, 3) := by decide +kernel
theorem dX7_closedBits_32 : decode cX7_closedBits 32 = .ok (.goto (-28), 3) := by decide +kernel
theorem dX7_closedBits_35 : decode cX7_closedBits 35 = .ok (.iload_n 1, 1) := by decide +kernel
theorem dX7_closedBits_36 : decode cX7_closedBits 36 = .ok (.ireturn, 1) := by decide +kernel
theorem dX7_outBits_0 : decode cX7_outBits 0 = .ok (.iconst 0, 1) := by decide +kernel
theorem dX7_outBits_1 : decode cX7_outBits 1 = .ok (.istore_n 1, 1) := by decide +kernel
theorem dX7_outBits_2 : decode cX7_outBits 2 = .ok (.iconst 0, 1) := by decide +kernel
theorem dX7_outBits_3 : decode cX7_outBits 3 = .ok (.istore_n 2, 1) := by decide +kernel
theorem dX7_outBits_4 : decode cX7_outBits 4 = .ok (.iload_n 2, 1) := by decide +kernel
theorem dX7_outBits_5 : decode cX7_outBits 5 = .ok (.aload_n 0, 1) := by decide +kernel
theorem dX7_outBits_6 : decode cX7_outBits 6 = .ok (.getfield 129, 3) := by decide +kernel
theorem dX7_outBits_9 : decode cX7_outBits 9 = .ok (.if_icmp .ge 28, 3) := by decide +kernel
theorem dX7_outBits_12 : decode cX7_outBits 12 = .ok (.iload_n 1, 1) := by decide +kernel
theorem dX7_outBits_13 : decode cX7_outBits 13 = .ok (.aload_n 0, 1) := by decide +kernel
theorem dX7_outBits_14 : decode cX7_outBits 14 = .ok (.getfield 35, 3) := by decide +kernel
theorem dX7_outBits_17 : decode cX7_outBits 17 = .ok (.iload_n 2, 1) := by decide +kernel
theorem dX7_outBits_18 : decode cX7_outBits 18 = .ok (.baload, 1) := by decide +kernel
theorem dX7_outBits_19 : decode cX7_outBits 19 = .ok (.ifCond .eq 9, 3) := by decide +kernel
theorem dX7_outBits_22 : decode cX7_outBits 22 = .ok (.iconst 1, 1) := by decide +kernel
theorem dX7_outBits_23 : decode cX7_outBits 23 = .ok (.iload_n 2, 1) := by decide +kernel
theorem dX7_outBits_24 : decode cX7_outBits 24 = .ok (.ishl, 1) := by decide +kernel
theorem dX7_outBits_25 : decode cX7_outBits 25 = .ok (.goto 4, 3) := by decide +kernel
theorem dX7_outBits_28 : decode cX7_outBits 28 = .ok (.iconst 0, 1) := by decide +kernel
theorem dX7_outBits_29 : decode cX7_outBits 29 = .ok (.ior, 1) := by decide +kernel
theorem dX7_outBits_30 : decode cX7_outBits 30 = .ok (.istore_n 1, 1) := by decide +kernel
theorem dX7_outBits_31 : decode cX7_outBits 31 = .ok (.iinc 2 1, 3) := by decide +kernel
theorem dX7_outBits_34 : decode cX7_outBits 34 = .ok (.goto (-30), 3) := by decide +kernel
theorem dX7_outBits_37 : decode cX7_outBits 37 = .ok (.iload_n 1, 1) := by decide +kernel
theorem dX7_outBits_38 : decode cX7_outBits 38 = .ok (.ireturn, 1) := by decide +kernel
