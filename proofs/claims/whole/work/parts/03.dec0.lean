theorem dX0_init_0 : decode cX0_init 0 = .ok (.aload_n 0, 1) := by decide +kernel
theorem dX0_init_1 : decode cX0_init 1 = .ok (.invokespecial 3, 3) := by decide +kernel
theorem dX0_init_4 : decode cX0_init 4 = .ok (.aload_n 0, 1) := by decide +kernel
theorem dX0_init_5 : decode cX0_init 5 = .ok (.bipush 8, 2) := by decide +kernel
theorem dX0_init_7 : decode cX0_init 7 = .ok (.newarray .int, 2) := by decide +kernel
theorem dX0_init_9 : decode cX0_init 9 = .ok (.putfield 9, 3) := by decide +kernel
theorem dX0_init_12 : decode cX0_init 12 = .ok (.aload_n 0, 1) := by decide +kernel
theorem dX0_init_13 : decode cX0_init 13 = .ok (.bipush 8, 2) := by decide +kernel
theorem dX0_init_15 : decode cX0_init 15 = .ok (.newarray .int, 2) := by decide +kernel
theorem dX0_init_17 : decode cX0_init 17 = .ok (.putfield 15, 3) := by decide +kernel
theorem dX0_init_20 : decode cX0_init 20 = .ok (.return_, 1) := by decide +kernel
theorem dX0_takes_0 : decode cX0_takes 0 = .ok (.aload_n 0, 1) := by decide +kernel
theorem dX0_takes_1 : decode cX0_takes 1 = .ok (.iconst 0, 1) := by decide +kernel
theorem dX0_takes_2 : decode cX0_takes 2 = .ok (.putfield 18, 3) := by decide +kernel
theorem dX0_takes_5 : decode cX0_takes 5 = .ok (.iload_n 3, 1) := by decide +kernel
theorem dX0_takes_6 : decode cX0_takes 6 = .ok (.istore 4, 2) := by decide +kernel
theorem dX0_takes_8 : decode cX0_takes 8 = .ok (.iload_n 2, 1) := by decide +kernel
theorem dX0_takes_9 : decode cX0_takes 9 = .ok (.istore 5, 2) := by decide +kernel
theorem dX0_takes_11 : decode cX0_takes 11 = .ok (.iconst 0, 1) := by decide +kernel
theorem dX0_takes_12 : decode cX0_takes 12 = .ok (.istore 6, 2) := by decide +kernel
theorem dX0_takes_14 : decode cX0_takes 14 = .ok (.iload 6, 2) := by decide +kernel
theorem dX0_takes_16 : decode cX0_takes 16 = .ok (.bipush 10, 2) := by decide +kernel
theorem dX0_takes_18 : decode cX0_takes 18 = .ok (.if_icmp .ge 153, 3) := by decide +kernel
theorem dX0_takes_21 : decode cX0_takes 21 = .ok (.iload 5, 2) := by decide +kernel
theorem dX0_takes_23 : decode cX0_takes 23 = .ok (.aload_n 1, 1) := by decide +kernel
theorem dX0_takes_24 : decode cX0_takes 24 = .ok (.getfield 22, 3) := by decide +kernel
theorem dX0_takes_27 : decode cX0_takes 27 = .ok (.if_icmp .eq 144, 3) := by decide +kernel
theorem dX0_takes_30 : decode cX0_takes 30 = .ok (.aload_n 1, 1) := by decide +kernel
theorem dX0_takes_31 : decode cX0_takes 31 = .ok (.getfield 27, 3) := by decide +kernel
theorem dX0_takes_34 : decode cX0_takes 34 = .ok (.iload 5, 2) := by decide +kernel
theorem dX0_takes_36 : decode cX0_takes 36 = .ok (.aaload, 1) := by decide +kernel
theorem dX0_takes_37 : decode cX0_takes 37 = .ok (.astore 7, 2) := by decide +kernel
theorem dX0_takes_39 : decode cX0_takes 39 = .ok (.aload_n 0, 1) := by decide +kernel
theorem dX0_takes_40 : decode cX0_takes 40 = .ok (.aload_n 1, 1) := by decide +kernel
theorem dX0_takes_41 : decode cX0_takes 41 = .ok (.aload 7, 2) := by decide +kernel
theorem dX0_takes_43 : decode cX0_takes 43 = .ok (.iload 4, 2) := by decide +kernel
theorem dX0_takes_45 : decode cX0_takes 45 = .ok (.invokevirtual 30, 3) := by decide +kernel
theorem dX0_takes_48 : decode cX0_takes 48 = .ok (.istore 8, 2) := by decide +kernel
theorem dX0_takes_50 : decode cX0_takes 50 = .ok (.iload 8, 2) := by decide +kernel
theorem dX0_takes_52 : decode cX0_takes 52 = .ok (.iconst (-1), 1) := by decide +kernel
theorem dX0_takes_53 : decode cX0_takes 53 = .ok (.if_icmp .ne 7, 3) := by decide +kernel
theorem dX0_takes_56 : decode cX0_takes 56 = .ok (.iconst (-1), 1) := by decide +kernel
theorem dX0_takes_57 : decode cX0_takes 57 = .ok (.goto 27, 3) := by decide +kernel
theorem dX0_takes_60 : decode cX0_takes 60 = .ok (.aload_n 1, 1) := by decide +kernel
theorem dX0_takes_61 : decode cX0_takes 61 = .ok (.getfield 34, 3) := by decide +kernel
theorem dX0_takes_64 : decode cX0_takes 64 = .ok (.aload 7, 2) := by decide +kernel
theorem dX0_takes_66 : decode cX0_takes 66 = .ok (.getfield 37, 3) := by decide +kernel
theorem dX0_takes_69 : decode cX0_takes 69 = .ok (.iload 8, 2) := by decide +kernel
theorem dX0_takes_71 : decode cX0_takes 71 = .ok (.iaload, 1) := by decide +kernel
theorem dX0_takes_72 : decode cX0_takes 72 = .ok (.aaload, 1) := by decide +kernel
theorem dX0_takes_73 : decode cX0_takes 73 = .ok (.aload 7, 2) := by decide +kernel
theorem dX0_takes_75 : decode cX0_takes 75 = .ok (.getfield 40, 3) := by decide +kernel
theorem dX0_takes_78 : decode cX0_takes 78 = .ok (.iload 8, 2) := by decide +kernel
theorem dX0_takes_80 : decode cX0_takes 80 = .ok (.iaload, 1) := by decide +kernel
theorem dX0_takes_81 : decode cX0_takes 81 = .ok (.invokevirtual 43, 3) := by decide +kernel
theorem dX0_takes_84 : decode cX0_takes 84 = .ok (.istore 9, 2) := by decide +kernel
theorem dX0_takes_86 : decode cX0_takes 86 = .ok (.iload 9, 2) := by decide +kernel
theorem dX0_takes_88 : decode cX0_takes 88 = .ok (.iconst (-1), 1) := by decide +kernel
theorem dX0_takes_89 : decode cX0_takes 89 = .ok (.if_icmp .ne 6, 3) := by decide +kernel
theorem dX0_takes_92 : decode cX0_takes 92 = .ok (.goto 79, 3) := by decide +kernel
theorem dX0_takes_95 : decode cX0_takes 95 = .ok (.aload_n 1, 1) := by decide +kernel
theorem dX0_takes_96 : decode cX0_takes 96 = .ok (.getfield 34, 3) := by decide +kernel
theorem dX0_takes_99 : decode cX0_takes 99 = .ok (.aload 7, 2) := by decide +kernel
theorem dX0_takes_101 : decode cX0_takes 101 = .ok (.getfield 37, 3) := by decide +kernel
theorem dX0_takes_104 : decode cX0_takes 104 = .ok (.iload 8, 2) := by decide +kernel
theorem dX0_takes_106 : decode cX0_takes 106 = .ok (.iaload, 1) := by decide +kernel
theorem dX0_takes_107 : decode cX0_takes 107 = .ok (.aaload, 1) := by decide +kernel
theorem dX0_takes_108 : decode cX0_takes 108 = .ok (.astore 10, 2) := by decide +kernel
theorem dX0_takes_110 : decode cX0_takes 110 = .ok (.aload 7, 2) := by decide +kernel
theorem dX0_takes_112 : decode cX0_takes 112 = .ok (.getfield 40, 3) := by decide +kernel
theorem dX0_takes_115 : decode cX0_takes 115 = .ok (.iload 8, 2) := by decide +kernel
theorem dX0_takes_117 : decode cX0_takes 117 = .ok (.iaload, 1) := by decide +kernel
theorem dX0_takes_118 : decode cX0_takes 118 = .ok (.istore 11, 2) := by decide +kernel
theorem dX0_takes_120 : decode cX0_takes 120 = .ok (.aload 10, 2) := by decide +kernel
theorem dX0_takes_122 : decode cX0_takes 122 = .ok (.iload 11, 2) := by decide +kernel
theorem dX0_takes_124 : decode cX0_takes 124 = .ok (.iload 4, 2) := by decide +kernel
theorem dX0_takes_126 : decode cX0_takes 126 = .ok (.invokevirtual 49, 3) := by decide +kernel
theorem dX0_takes_129 : decode cX0_takes 129 = .ok (.aload 10, 2) := by decide +kernel
theorem dX0_takes_131 : decode cX0_takes 131 = .ok (.iload 11, 2) := by decide +kernel
theorem dX0_takes_133 : decode cX0_takes 133 = .ok (.iload 9, 2) := by decide +kernel
theorem dX0_takes_135 : decode cX0_takes 135 = .ok (.invokevirtual 53, 3) := by decide +kernel
theorem dX0_takes_138 : decode cX0_takes 138 = .ok (.iadd, 1) := by decide +kernel
theorem dX0_takes_139 : decode cX0_takes 139 = .ok (.istore 4, 2) := by decide +kernel
theorem dX0_takes_141 : decode cX0_takes 141 = .ok (.aload 10, 2) := by decide +kernel
theorem dX0_takes_143 : decode cX0_takes 143 = .ok (.getfield 56, 3) := by decide +kernel
theorem dX0_takes_146 : decode cX0_takes 146 = .ok (.iload 9, 2) := by decide +kernel
theorem dX0_takes_148 : decode cX0_takes 148 = .ok (.iaload, 1) := by decide +kernel
theorem dX0_takes_149 : decode cX0_takes 149 = .ok (.istore 5, 2) := by decide +kernel
theorem dX0_takes_151 : decode cX0_takes 151 = .ok (.aload_n 0, 1) := by decide +kernel
theorem dX0_takes_152 : decode cX0_takes 152 = .ok (.aload 7, 2) := by decide +kernel
theorem dX0_takes_154 : decode cX0_takes 154 = .ok (.getfield 37, 3) := by decide +kernel
theorem dX0_takes_157 : decode cX0_takes 157 = .ok (.iload 8, 2) := by decide +kernel
theorem dX0_takes_159 : decode cX0_takes 159 = .ok (.iaload, 1) := by decide +kernel
theorem dX0_takes_160 : decode cX0_takes 160 = .ok (.iload 5, 2) := by decide +kernel
theorem dX0_takes_162 : decode cX0_takes 162 = .ok (.invokevirtual 57, 3) := by decide +kernel
theorem dX0_takes_165 : decode cX0_takes 165 = .ok (.iinc 6 1, 3) := by decide +kernel
theorem dX0_takes_168 : decode cX0_takes 168 = .ok (.goto (-154), 3) := by decide +kernel
theorem dX0_takes_171 : decode cX0_takes 171 = .ok (.iload 4, 2) := by decide +kernel
theorem dX0_takes_173 : decode cX0_takes 173 = .ok (.iload_n 3, 1) := by decide +kernel
theorem dX0_takes_174 : decode cX0_takes 174 = .ok (.isub, 1) := by decide +kernel
theorem dX0_takes_175 : decode cX0_takes 175 = .ok (.ireturn, 1) := by decide +kernel
theorem dX0_firstOf_0 : decode cX0_firstOf 0 = .ok (.iconst (-1), 1) := by decide +kernel
theorem dX0_firstOf_1 : decode cX0_firstOf 1 = .ok (.istore 4, 2) := by decide +kernel
theorem dX0_firstOf_3 : decode cX0_firstOf 3 = .ok (.iconst 0, 1) := by decide +kernel
theorem dX0_firstOf_4 : decode cX0_firstOf 4 = .ok (.istore 5, 2) := by decide +kernel
theorem dX0_firstOf_6 : decode cX0_firstOf 6 = .ok (.iconst 0, 1) := by decide +kernel
theorem dX0_firstOf_7 : decode cX0_firstOf 7 = .ok (.istore 6, 2) := by decide +kernel
theorem dX0_firstOf_9 : decode cX0_firstOf 9 = .ok (.iload 6, 2) := by decide +kernel
theorem dX0_firstOf_11 : decode cX0_firstOf 11 = .ok (.aload_n 2, 1) := by decide +kernel
theorem dX0_firstOf_12 : decode cX0_firstOf 12 = .ok (.getfield 61, 3) := by decide +kernel
theorem dX0_firstOf_15 : decode cX0_firstOf 15 = .ok (.if_icmp .ge 55, 3) := by decide +kernel
theorem dX0_firstOf_18 : decode cX0_firstOf 18 = .ok (.aload_n 1, 1) := by decide +kernel
theorem dX0_firstOf_19 : decode cX0_firstOf 19 = .ok (.getfield 34, 3) := by decide +kernel
theorem dX0_firstOf_22 : decode cX0_firstOf 22 = .ok (.aload_n 2, 1) := by decide +kernel
theorem dX0_firstOf_23 : decode cX0_firstOf 23 = .ok (.getfield 37, 3) := by decide +kernel
theorem dX0_firstOf_26 : decode cX0_firstOf 26 = .ok (.iload 6, 2) := by decide +kernel
theorem dX0_firstOf_28 : decode cX0_firstOf 28 = .ok (.iaload, 1) := by decide +kernel
theorem dX0_firstOf_29 : decode cX0_firstOf 29 = .ok (.aaload, 1) := by decide +kernel
theorem dX0_firstOf_30 : decode cX0_firstOf 30 = .ok (.aload_n 2, 1) := by decide +kernel
theorem dX0_firstOf_31 : decode cX0_firstOf 31 = .ok (.getfield 40, 3) := by decide +kernel
theorem dX0_firstOf_34 : decode cX0_firstOf 34 = .ok (.iload 6, 2) := by decide +kernel
theorem dX0_firstOf_36 : decode cX0_firstOf 36 = .ok (.iaload, 1) := by decide +kernel
theorem dX0_firstOf_37 : decode cX0_firstOf 37 = .ok (.iload_n 3, 1) := by decide +kernel
theorem dX0_firstOf_38 : decode cX0_firstOf 38 = .ok (.invokevirtual 49, 3) := by decide +kernel
theorem dX0_firstOf_41 : decode cX0_firstOf 41 = .ok (.istore 7, 2) := by decide +kernel
theorem dX0_firstOf_43 : decode cX0_firstOf 43 = .ok (.iload 4, 2) := by decide +kernel
theorem dX0_firstOf_45 : decode cX0_firstOf 45 = .ok (.iconst (-1), 1) := by decide +kernel
theorem dX0_firstOf_46 : decode cX0_firstOf 46 = .ok (.if_icmp .eq 10, 3) := by decide +kernel
theorem dX0_firstOf_49 : decode cX0_firstOf 49 = .ok (.iload 7, 2) := by decide +kernel
theorem dX0_firstOf_51 : decode cX0_firstOf 51 = .ok (.iload 5, 2) := by decide +kernel
theorem dX0_firstOf_53 : decode cX0_firstOf 53 = .ok (.if_icmp .ge 11, 3) := by decide +kernel
theorem dX0_firstOf_56 : decode cX0_firstOf 56 = .ok (.iload 6, 2) := by decide +kernel
theorem dX0_firstOf_58 : decode cX0_firstOf 58 = .ok (.istore 4, 2) := by decide +kernel
theorem dX0_firstOf_60 : decode cX0_firstOf 60 = .ok (.iload 7, 2) := by decide +kernel
theorem dX0_firstOf_62 : decode cX0_firstOf 62 = .ok (.istore 5, 2) := by decide +kernel
theorem dX0_firstOf_64 : decode cX0_firstOf 64 = .ok (.iinc 6 1, 3) := by decide +kernel
theorem dX0_firstOf_67 : decode cX0_firstOf 67 = .ok (.goto (-58), 3) := by decide +kernel
theorem dX0_firstOf_70 : decode cX0_firstOf 70 = .ok (.iload 4, 2) := by decide +kernel
theorem dX0_firstOf_72 : decode cX0_firstOf 72 = .ok (.ireturn, 1) := by decide +kernel
theorem dX0_keepRide_0 : decode cX0_keepRide 0 = .ok (.aload_n 0, 1) := by decide +kernel
theorem dX0_keepRide_1 : decode cX0_keepRide 1 = .ok (.getfield 18, 3) := by decide +kernel
theorem dX0_keepRide_4 : decode cX0_keepRide 4 = .ok (.bipush 8, 2) := by decide +kernel
theorem dX0_keepRide_6 : decode cX0_keepRide 6 = .ok (.if_icmp .ge 33, 3) := by decide +kernel
theorem dX0_keepRide_9 : decode cX0_keepRide 9 = .ok (.aload_n 0, 1) := by decide +kernel
theorem dX0_keepRide_10 : decode cX0_keepRide 10 = .ok (.getfield 9, 3) := by decide +kernel
theorem dX0_keepRide_13 : decode cX0_keepRide 13 = .ok (.aload_n 0, 1) := by decide +kernel
theorem dX0_keepRide_14 : decode cX0_keepRide 14 = .ok (.getfield 18, 3) := by decide +kernel
theorem dX0_keepRide_17 : decode cX0_keepRide 17 = .ok (.iload_n 1, 1) := by decide +kernel
theorem dX0_keepRide_18 : decode cX0_keepRide 18 = .ok (.iastore, 1) := by decide +kernel
theorem dX0_keepRide_19 : decode cX0_keepRide 19 = .ok (.aload_n 0, 1) := by decide +kernel
theorem dX0_keepRide_20 : decode cX0_keepRide 20 = .ok (.getfield 15, 3) := by decide +kernel
theorem dX0_keepRide_23 : decode cX0_keepRide 23 = .ok (.aload_n 0, 1) := by decide +kernel
theorem dX0_keepRide_24 : decode cX0_keepRide 24 = .ok (.getfield 18, 3) := by decide +kernel
theorem dX0_keepRide_27 : decode cX0_keepRide 27 = .ok (.iload_n 2, 1) := by decide +kernel
theorem dX0_keepRide_28 : decode cX0_keepRide 28 = .ok (.iastore, 1) := by decide +kernel
theorem dX0_keepRide_29 : decode cX0_keepRide 29 = .ok (.aload_n 0, 1) := by decide +kernel
theorem dX0_keepRide_30 : decode cX0_keepRide 30 = .ok (.dup, 1) := by decide +kernel
theorem dX0_keepRide_31 : decode cX0_keepRide 31 = .ok (.getfield 18, 3) := by decide +kernel
theorem dX0_keepRide_34 : decode cX0_keepRide 34 = .ok (.iconst 1, 1) := by decide +kernel
theorem dX0_keepRide_35 : decode cX0_keepRide 35 = .ok (.iadd, 1) := by decide +kernel
theorem dX0_keepRide_36 : decode cX0_keepRide 36 = .ok (.putfield 18, 3) := by decide +kernel
theorem dX0_keepRide_39 : decode cX0_keepRide 39 = .ok (.return_, 1) := by decide +kernel
theorem dX1_init_0 : decode cX1_init 0 = .ok (.aload_n 0, 1) := by decide +kernel
theorem dX1_init_1 : decode cX1_init 1 = .ok (.invokespecial 3, 3) := by decide +kernel
theorem dX1_init_4 : decode cX1_init 4 = .ok (.aload_n 0, 1) := by decide +kernel
theorem dX1_init_5 : decode cX1_init 5 = .ok (.iconst 1, 1) := by decide +kernel
theorem dX1_init_6 : decode cX1_init 6 = .ok (.putfield 9, 3) := by decide +kernel
theorem dX1_init_9 : decode cX1_init 9 = .ok (.aload_n 0, 1) := by decide +kernel
theorem dX1_init_10 : decode cX1_init 10 = .ok (.bipush 50, 2) := by decide +kernel
theorem dX1_init_12 : decode cX1_init 12 = .ok (.putfield 15, 3) := by decide +kernel
theorem dX1_init_15 : decode cX1_init 15 = .ok (.aload_n 0, 1) := by decide +kernel
theorem dX1_init_16 : decode cX1_init 16 = .ok (.bipush 8, 2) := by decide +kernel
theorem dX1_init_18 : decode cX1_init 18 = .ok (.newarray .int, 2) := by decide +kernel
theorem dX1_init_20 : decode cX1_init 20 = .ok (.putfield 18, 3) := by decide +kernel
theorem dX1_init_23 : decode cX1_init 23 = .ok (.aload_n 0, 1) := by decide +kernel
theorem dX1_init_24 : decode cX1_init 24 = .ok (.bipush 8, 2) := by decide +kernel
theorem dX1_init_26 : decode cX1_init 26 = .ok (.newarray .int, 2) := by decide +kernel
theorem dX1_init_28 : decode cX1_init 28 = .ok (.putfield 22, 3) := by decide +kernel
theorem dX1_init_31 : decode cX1_init 31 = .ok (.aload_n 0, 1) := by decide +kernel
theorem dX1_init_32 : decode cX1_init 32 = .ok (.bipush 8, 2) := by decide +kernel
theorem dX1_init_34 : decode cX1_init 34 = .ok (.newarray .int, 2) := by decide +kernel
theorem dX1_init_36 : decode cX1_init 36 = .ok (.putfield 25, 3) := by decide +kernel
theorem dX1_init_39 : decode cX1_init 39 = .ok (.aload_n 0, 1) := by decide +kernel
theorem dX1_init_40 : decode cX1_init 40 = .ok (.bipush 8, 2) := by decide +kernel
theorem dX1_init_42 : decode cX1_init 42 = .ok (.newarray .int, 2) := by decide +kernel
theorem dX1_init_44 : decode cX1_init 44 = .ok (.putfield 28, 3) := by decide +kernel
theorem dX1_init_47 : decode cX1_init 47 = .ok (.aload_n 0, 1) := by decide +kernel
theorem dX1_init_48 : decode cX1_init 48 = .ok (.bipush 8, 2) := by decide +kernel
theorem dX1_init_50 : decode cX1_init 50 = .ok (.newarray .int, 2) := by decide +kernel
theorem dX1_init_52 : decode cX1_init 52 = .ok (.putfield 31, 3) := by decide +kernel
theorem dX1_init_55 : decode cX1_init 55 = .ok (.aload_n 0, 1) := by decide +kernel
theorem dX1_init_56 : decode cX1_init 56 = .ok (.bipush 8, 2) := by decide +kernel
theorem dX1_init_58 : decode cX1_init 58 = .ok (.newarray .int, 2) := by decide +kernel
theorem dX1_init_60 : decode cX1_init 60 = .ok (.putfield 34, 3) := by decide +kernel
theorem dX1_init_63 : decode cX1_init 63 = .ok (.aload_n 0, 1) := by decide +kernel
theorem dX1_init_64 : decode cX1_init 64 = .ok (.bipush 8, 2) := by decide +kernel
theorem dX1_init_66 : decode cX1_init 66 = .ok (.newarray .boolean, 2) := by decide +kernel
theorem dX1_init_68 : decode cX1_init 68 = .ok (.putfield 37, 3) := by decide +kernel
theorem dX1_init_71 : decode cX1_init 71 = .ok (.aload_n 0, 1) := by decide +kernel
theorem dX1_init_72 : decode cX1_init 72 = .ok (.bipush 8, 2) := by decide +kernel
theorem dX1_init_74 : decode cX1_init 74 = .ok (.newarray .int, 2) := by decide +kernel
theorem dX1_init_76 : decode cX1_init 76 = .ok (.putfield 41, 3) := by decide +kernel
theorem dX1_init_79 : decode cX1_init 79 = .ok (.aload_n 0, 1) := by decide +kernel
theorem dX1_init_80 : decode cX1_init 80 = .ok (.bipush 8, 2) := by decide +kernel
theorem dX1_init_82 : decode cX1_init 82 = .ok (.newarray .int, 2) := by decide +kernel
theorem dX1_init_84 : decode cX1_init 84 = .ok (.putfield 44, 3) := by decide +kernel
theorem dX1_init_87 : decode cX1_init 87 = .ok (.aload_n 0, 1) := by decide +kernel
theorem dX1_init_88 : decode cX1_init 88 = .ok (.bipush 8, 2) := by decide +kernel
theorem dX1_init_90 : decode cX1_init 90 = .ok (.newarray .int, 2) := by decide +kernel
theorem dX1_init_92 : decode cX1_init 92 = .ok (.putfield 47, 3) := by decide +kernel
theorem dX1_init_95 : decode cX1_init 95 = .ok (.return_, 1) := by decide +kernel
theorem dX1_renew_0 : decode cX1_renew 0 = .ok (.aload_n 0, 1) := by decide +kernel
theorem dX1_renew_1 : decode cX1_renew 1 = .ok (.iload_n 1, 1) := by decide +kernel
theorem dX1_renew_2 : decode cX1_renew 2 = .ok (.putfield 9, 3) := by decide +kernel
theorem dX1_renew_5 : decode cX1_renew 5 = .ok (.aload_n 0, 1) := by decide +kernel
theorem dX1_renew_6 : decode cX1_renew 6 = .ok (.iconst 0, 1) := by decide +kernel
theorem dX1_renew_7 : decode cX1_renew 7 = .ok (.putfield 50, 3) := by decide +kernel
theorem dX1_renew_10 : decode cX1_renew 10 = .ok (.aload_n 0, 1) := by decide +kernel
theorem dX1_renew_11 : decode cX1_renew 11 = .ok (.bipush 50, 2) := by decide +kernel
theorem dX1_renew_13 : decode cX1_renew 13 = .ok (.putfield 15, 3) := by decide +kernel
theorem dX1_renew_16 : decode cX1_renew 16 = .ok (.aload_n 0, 1) := by decide +kernel
theorem dX1_renew_17 : decode cX1_renew 17 = .ok (.iconst 0, 1) := by decide +kernel
theorem dX1_renew_18 : decode cX1_renew 18 = .ok (.putfield 53, 3) := by decide +kernel
theorem dX1_renew_21 : decode cX1_renew 21 = .ok (.aload_n 0, 1) := by decide +kernel
theorem dX1_renew_22 : decode cX1_renew 22 = .ok (.iconst 0, 1) := by decide +kernel
theorem dX1_renew_23 : decode cX1_renew 23 = .ok (.putfield 56, 3) := by decide +kernel
theorem dX1_renew_26 : decode cX1_renew 26 = .ok (.return_, 1) := by decide +kernel
theorem dX1_lead_0 : decode cX1_lead 0 = .ok (.aload_n 0, 1) := by decide +kernel
theorem dX1_lead_1 : decode cX1_lead 1 = .ok (.getfield 50, 3) := by decide +kernel
theorem dX1_lead_4 : decode cX1_lead 4 = .ok (.bipush 8, 2) := by decide +kernel
theorem dX1_lead_6 : decode cX1_lead 6 = .ok (.if_icmp .lt 4, 3) := by decide +kernel
theorem dX1_lead_9 : decode cX1_lead 9 = .ok (.return_, 1) := by decide +kernel
theorem dX1_lead_10 : decode cX1_lead 10 = .ok (.aload_n 0, 1) := by decide +kernel
theorem dX1_lead_11 : decode cX1_lead 11 = .ok (.getfield 50, 3) := by decide +kernel
theorem dX1_lead_14 : decode cX1_lead 14 = .ok (.ifCond .le 39, 3) := by decide +kernel
theorem dX1_lead_17 : decode cX1_lead 17 = .ok (.aload_n 0, 1) := by decide +kernel
theorem dX1_lead_18 : decode cX1_lead 18 = .ok (.getfield 22, 3) := by decide +kernel
theorem dX1_lead_21 : decode cX1_lead 21 = .ok (.aload_n 0, 1) := by decide +kernel
theorem dX1_lead_22 : decode cX1_lead 22 = .ok (.getfield 50, 3) := by decide +kernel
theorem dX1_lead_25 : decode cX1_lead 25 = .ok (.iconst 1, 1) := by decide +kernel
theorem dX1_lead_26 : decode cX1_lead 26 = .ok (.isub, 1) := by decide +kernel
theorem dX1_lead_27 : decode cX1_lead 27 = .ok (.iload_n 1, 1) := by decide +kernel
theorem dX1_lead_28 : decode cX1_lead 28 = .ok (.iastore, 1) := by decide +kernel
theorem dX1_lead_29 : decode cX1_lead 29 = .ok (.aload_n 0, 1) := by decide +kernel
theorem dX1_lead_30 : decode cX1_lead 30 = .ok (.getfield 25, 3) := by decide +kernel
theorem dX1_lead_33 : decode cX1_lead 33 = .ok (.aload_n 0, 1) := by decide +kernel
theorem dX1_lead_34 : decode cX1_lead 34 = .ok (.getfield 50, 3) := by decide +kernel
theorem dX1_lead_37 : decode cX1_lead 37 = .ok (.iconst 1, 1) := by decide +kernel
theorem dX1_lead_38 : decode cX1_lead 38 = .ok (.isub, 1) := by decide +kernel
theorem dX1_lead_39 : decode cX1_lead 39 = .ok (.iconst 0, 1) := by decide +kernel
theorem dX1_lead_40 : decode cX1_lead 40 = .ok (.iastore, 1) := by decide +kernel
theorem dX1_lead_41 : decode cX1_lead 41 = .ok (.aload_n 0, 1) := by decide +kernel
theorem dX1_lead_42 : decode cX1_lead 42 = .ok (.getfield 28, 3) := by decide +kernel
theorem dX1_lead_45 : decode cX1_lead 45 = .ok (.aload_n 0, 1) := by decide +kernel
theorem dX1_lead_46 : decode cX1_lead 46 = .ok (.getfield 50, 3) := by decide +kernel
theorem dX1_lead_49 : decode cX1_lead 49 = .ok (.iconst 1, 1) := by decide +kernel
theorem dX1_lead_50 : decode cX1_lead 50 = .ok (.isub, 1) := by decide +kernel
theorem dX1_lead_51 : decode cX1_lead 51 = .ok (.iconst 0, 1) := by decide +kernel
theorem dX1_lead_52 : decode cX1_lead 52 = .ok (.iastore, 1) := by decide +kernel
theorem dX1_lead_53 : decode cX1_lead 53 = .ok (.aload_n 0, 1) := by decide +kernel
theorem dX1_lead_54 : decode cX1_lead 54 = .ok (.getfield 18, 3) := by decide +kernel
theorem dX1_lead_57 : decode cX1_lead 57 = .ok (.aload_n 0, 1) := by decide +kernel
theorem dX1_lead_58 : decode cX1_lead 58 = .ok (.getfield 50, 3) := by decide +kernel
theorem dX1_lead_61 : decode cX1_lead 61 = .ok (.iload_n 2, 1) := by decide +kernel
theorem dX1_lead_62 : decode cX1_lead 62 = .ok (.iastore, 1) := by decide +kernel
theorem dX1_lead_63 : decode cX1_lead 63 = .ok (.aload_n 0, 1) := by decide +kernel
theorem dX1_lead_64 : decode cX1_lead 64 = .ok (.dup, 1) := by decide +kernel
theorem dX1_lead_65 : decode cX1_lead 65 = .ok (.getfield 50, 3) := by decide +kernel
theorem dX1_lead_68 : decode cX1_lead 68 = .ok (.iconst 1, 1) := by decide +kernel
theorem dX1_lead_69 : decode cX1_lead 69 = .ok (.iadd, 1) := by decide +kernel
theorem dX1_lead_70 : decode cX1_lead 70 = .ok (.putfield 50, 3) := by decide +kernel
theorem dX1_lead_73 : decode cX1_lead 73 = .ok (.return_, 1) := by decide +kernel
theorem dX1_becomeReturnOf_0 : decode cX1_becomeReturnOf 0 = .ok (.aload_n 0, 1) := by decide +kernel
theorem dX1_becomeReturnOf_1 : decode cX1_becomeReturnOf 1 = .ok (.aload_n 1, 1) := by decide +kernel
theorem dX1_becomeReturnOf_2 : decode cX1_becomeReturnOf 2 = .ok (.getfield 9, 3) := by decide +kernel
theorem dX1_becomeReturnOf_5 : decode cX1_becomeReturnOf 5 = .ok (.invokevirtual 60, 3) := by decide +kernel
theorem dX1_becomeReturnOf_8 : decode cX1_becomeReturnOf 8 = .ok (.aload_n 1, 1) := by decide +kernel
theorem dX1_becomeReturnOf_9 : decode cX1_becomeReturnOf 9 = .ok (.getfield 50, 3) := by decide +kernel
theorem dX1_becomeReturnOf_12 : decode cX1_becomeReturnOf 12 = .ok (.iconst 1, 1) := by decide +kernel
theorem dX1_becomeReturnOf_13 : decode cX1_becomeReturnOf 13 = .ok (.isub, 1) := by decide +kernel
theorem dX1_becomeReturnOf_14 : decode cX1_becomeReturnOf 14 = .ok (.istore_n 2, 1) := by decide +kernel
theorem dX1_becomeReturnOf_15 : decode cX1_becomeReturnOf 15 = .ok (.iload_n 2, 1) := by decide +kernel
theorem dX1_becomeReturnOf_16 : decode cX1_becomeReturnOf 16 = .ok (.ifCond .lt 25, 3) := by decide +kernel
theorem dX1_becomeReturnOf_19 : decode cX1_becomeReturnOf 19 = .ok (.aload_n 0, 1) := by decide +kernel
theorem dX1_becomeReturnOf_20 : decode cX1_becomeReturnOf 20 = .ok (.aload_n 1, 1) := by decide +kernel
theorem dX1_becomeReturnOf_21 : decode cX1_becomeReturnOf 21 = .ok (.getfield 22, 3) := by decide +kernel
theorem dX1_becomeReturnOf_24 : decode cX1_becomeReturnOf 24 = .ok (.iload_n 2, 1) := by decide +kernel
theorem dX1_becomeReturnOf_25 : decode cX1_becomeReturnOf 25 = .ok (.iaload, 1) := by decide +kernel
theorem dX1_becomeReturnOf_26 : decode cX1_becomeReturnOf 26 = .ok (.aload_n 1, 1) := by decide +kernel
theorem dX1_becomeReturnOf_27 : decode cX1_becomeReturnOf 27 = .ok (.getfield 18, 3) := by decide +kernel
theorem dX1_becomeReturnOf_30 : decode cX1_becomeReturnOf 30 = .ok (.iload_n 2, 1) := by decide +kernel
theorem dX1_becomeReturnOf_31 : decode cX1_becomeReturnOf 31 = .ok (.iaload, 1) := by decide +kernel
theorem dX1_becomeReturnOf_32 : decode cX1_becomeReturnOf 32 = .ok (.invokevirtual 64, 3) := by decide +kernel
theorem dX1_becomeReturnOf_35 : decode cX1_becomeReturnOf 35 = .ok (.iinc 2 (-1), 3) := by decide +kernel
theorem dX1_becomeReturnOf_38 : decode cX1_becomeReturnOf 38 = .ok (.goto (-23), 3) := by decide +kernel
theorem dX1_becomeReturnOf_41 : decode cX1_becomeReturnOf 41 = .ok (.return_, 1) := by decide +kernel
theorem dX1_copyWay_0 : decode cX1_copyWay 0 = .ok (.aload_n 0, 1) := by decide +kernel
theorem dX1_copyWay_1 : decode cX1_copyWay 1 = .ok (.aload_n 1, 1) := by decide +kernel
theorem dX1_copyWay_2 : decode cX1_copyWay 2 = .ok (.getfield 50, 3) := by decide +kernel
theorem dX1_copyWay_5 : decode cX1_copyWay 5 = .ok (.putfield 50, 3) := by decide +kernel
theorem dX1_copyWay_8 : decode cX1_copyWay 8 = .ok (.iconst 0, 1) := by decide +kernel
theorem dX1_copyWay_9 : decode cX1_copyWay 9 = .ok (.istore_n 2, 1) := by decide +kernel
theorem dX1_copyWay_10 : decode cX1_copyWay 10 = .ok (.iload_n 2, 1) := by decide +kernel
theorem dX1_copyWay_11 : decode cX1_copyWay 11 = .ok (.bipush 8, 2) := by decide +kernel
theorem dX1_copyWay_13 : decode cX1_copyWay 13 = .ok (.if_icmp .ge 45, 3) := by decide +kernel
theorem dX1_copyWay_16 : decode cX1_copyWay 16 = .ok (.aload_n 0, 1) := by decide +kernel
theorem dX1_copyWay_17 : decode cX1_copyWay 17 = .ok (.getfield 18, 3) := by decide +kernel
theorem dX1_copyWay_20 : decode cX1_copyWay 20 = .ok (.iload_n 2, 1) := by decide +kernel
theorem dX1_copyWay_21 : decode cX1_copyWay 21 = .ok (.aload_n 1, 1) := by decide +kernel
theorem dX1_copyWay_22 : decode cX1_copyWay 22 = .ok (.getfield 18, 3) := by decide +kernel
theorem dX1_copyWay_25 : decode cX1_copyWay 25 = .ok (.iload_n 2, 1) := by decide +kernel
theorem dX1_copyWay_26 : decode cX1_copyWay 26 = .ok (.iaload, 1) := by decide +kernel
theorem dX1_copyWay_27 : decode cX1_copyWay 27 = .ok (.iastore, 1) := by decide +kernel
theorem dX1_copyWay_28 : decode cX1_copyWay 28 = .ok (.aload_n 0, 1) := by decide +kernel
theorem dX1_copyWay_29 : decode cX1_copyWay 29 = .ok (.getfield 22, 3) := by decide +kernel
theorem dX1_copyWay_32 : decode cX1_copyWay 32 = .ok (.iload_n 2, 1) := by decide +kernel
theorem dX1_copyWay_33 : decode cX1_copyWay 33 = .ok (.aload_n 1, 1) := by decide +kernel
theorem dX1_copyWay_34 : decode cX1_copyWay 34 = .ok (.getfield 22, 3) := by decide +kernel
theorem dX1_copyWay_37 : decode cX1_copyWay 37 = .ok (.iload_n 2, 1) := by decide +kernel
theorem dX1_copyWay_38 : decode cX1_copyWay 38 = .ok (.iaload, 1) := by decide +kernel
theorem dX1_copyWay_39 : decode cX1_copyWay 39 = .ok (.iastore, 1) := by decide +kernel
theorem dX1_copyWay_40 : decode cX1_copyWay 40 = .ok (.aload_n 0, 1) := by decide +kernel
theorem dX1_copyWay_41 : decode cX1_copyWay 41 = .ok (.getfield 25, 3) := by decide +kernel
theorem dX1_copyWay_44 : decode cX1_copyWay 44 = .ok (.iload_n 2, 1) := by decide +kernel
theorem dX1_copyWay_45 : decode cX1_copyWay 45 = .ok (.aload_n 1, 1) := by decide +kernel
theorem dX1_copyWay_46 : decode cX1_copyWay 46 = .ok (.getfield 25, 3) := by decide +kernel
theorem dX1_copyWay_49 : decode cX1_copyWay 49 = .ok (.iload_n 2, 1) := by decide +kernel
theorem dX1_copyWay_50 : decode cX1_copyWay 50 = .ok (.iaload, 1) := by decide +kernel
theorem dX1_copyWay_51 : decode cX1_copyWay 51 = .ok (.iastore, 1) := by decide +kernel
theorem dX1_copyWay_52 : decode cX1_copyWay 52 = .ok (.iinc 2 1, 3) := by decide +kernel
theorem dX1_copyWay_55 : decode cX1_copyWay 55 = .ok (.goto (-45), 3) := by decide +kernel
theorem dX1_copyWay_58 : decode cX1_copyWay 58 = .ok (.return_, 1) := by decide +kernel
theorem dX1_omit_0 : decode cX1_omit 0 = .ok (.iload_n 1, 1) := by decide +kernel
theorem dX1_omit_1 : decode cX1_omit 1 = .ok (.iconst 1, 1) := by decide +kernel
theorem dX1_omit_2 : decode cX1_omit 2 = .ok (.if_icmp .lt 13, 3) := by decide +kernel
theorem dX1_omit_5 : decode cX1_omit 5 = .ok (.iload_n 1, 1) := by decide +kernel
theorem dX1_omit_6 : decode cX1_omit 6 = .ok (.aload_n 0, 1) := by decide +kernel
theorem dX1_omit_7 : decode cX1_omit 7 = .ok (.getfield 50, 3) := by decide +kernel
theorem dX1_omit_10 : decode cX1_omit 10 = .ok (.iconst 1, 1) := by decide +kernel
theorem dX1_omit_11 : decode cX1_omit 11 = .ok (.isub, 1) := by decide +kernel
theorem dX1_omit_12 : decode cX1_omit 12 = .ok (.if_icmp .lt 4, 3) := by decide +kernel
theorem dX1_omit_15 : decode cX1_omit 15 = .ok (.return_, 1) := by decide +kernel
theorem dX1_omit_16 : decode cX1_omit 16 = .ok (.aload_n 0, 1) := by decide +kernel
theorem dX1_omit_17 : decode cX1_omit 17 = .ok (.getfield 22, 3) := by decide +kernel
theorem dX1_omit_20 : decode cX1_omit 20 = .ok (.iload_n 1, 1) := by decide +kernel
theorem dX1_omit_21 : decode cX1_omit 21 = .ok (.iconst 1, 1) := by decide +kernel
theorem dX1_omit_22 : decode cX1_omit 22 = .ok (.isub, 1) := by decide +kernel
theorem dX1_omit_23 : decode cX1_omit 23 = .ok (.dup2, 1) := by decide +kernel
theorem dX1_omit_24 : decode cX1_omit 24 = .ok (.iaload, 1) := by decide +kernel
theorem dX1_omit_25 : decode cX1_omit 25 = .ok (.aload_n 0, 1) := by decide +kernel
theorem dX1_omit_26 : decode cX1_omit 26 = .ok (.getfield 22, 3) := by decide +kernel
theorem dX1_omit_29 : decode cX1_omit 29 = .ok (.iload_n 1, 1) := by decide +kernel
theorem dX1_omit_30 : decode cX1_omit 30 = .ok (.iaload, 1) := by decide +kernel
theorem dX1_omit_31 : decode cX1_omit 31 = .ok (.iadd, 1) := by decide +kernel
theorem dX1_omit_32 : decode cX1_omit 32 = .ok (.iastore, 1) := by decide +kernel
theorem dX1_omit_33 : decode cX1_omit 33 = .ok (.aload_n 0, 1) := by decide +kernel
theorem dX1_omit_34 : decode cX1_omit 34 = .ok (.getfield 25, 3) := by decide +kernel
theorem dX1_omit_37 : decode cX1_omit 37 = .ok (.iload_n 1, 1) := by decide +kernel
theorem dX1_omit_38 : decode cX1_omit 38 = .ok (.iconst 1, 1) := by decide +kernel
theorem dX1_omit_39 : decode cX1_omit 39 = .ok (.isub, 1) := by decide +kernel
theorem dX1_omit_40 : decode cX1_omit 40 = .ok (.dup2, 1) := by decide +kernel
theorem dX1_omit_41 : decode cX1_omit 41 = .ok (.iaload, 1) := by decide +kernel
theorem dX1_omit_42 : decode cX1_omit 42 = .ok (.aload_n 0, 1) := by decide +kernel
theorem dX1_omit_43 : decode cX1_omit 43 = .ok (.getfield 25, 3) := by decide +kernel
theorem dX1_omit_46 : decode cX1_omit 46 = .ok (.iload_n 1, 1) := by decide +kernel
theorem dX1_omit_47 : decode cX1_omit 47 = .ok (.iaload, 1) := by decide +kernel
theorem dX1_omit_48 : decode cX1_omit 48 = .ok (.iadd, 1) := by decide +kernel
theorem dX1_omit_49 : decode cX1_omit 49 = .ok (.iastore, 1) := by decide +kernel
theorem dX1_omit_50 : decode cX1_omit 50 = .ok (.iload_n 1, 1) := by decide +kernel
theorem dX1_omit_51 : decode cX1_omit 51 = .ok (.istore_n 2, 1) := by decide +kernel
theorem dX1_omit_52 : decode cX1_omit 52 = .ok (.iload_n 2, 1) := by decide +kernel
theorem dX1_omit_53 : decode cX1_omit 53 = .ok (.iconst 1, 1) := by decide +kernel
theorem dX1_omit_54 : decode cX1_omit 54 = .ok (.iadd, 1) := by decide +kernel
theorem dX1_omit_55 : decode cX1_omit 55 = .ok (.aload_n 0, 1) := by decide +kernel
theorem dX1_omit_56 : decode cX1_omit 56 = .ok (.getfield 50, 3) := by decide +kernel
theorem dX1_omit_59 : decode cX1_omit 59 = .ok (.if_icmp .ge 51, 3) := by decide +kernel
theorem dX1_omit_62 : decode cX1_omit 62 = .ok (.aload_n 0, 1) := by decide +kernel
theorem dX1_omit_63 : decode cX1_omit 63 = .ok (.getfield 18, 3) := by decide +kernel
theorem dX1_omit_66 : decode cX1_omit 66 = .ok (.iload_n 2, 1) := by decide +kernel
theorem dX1_omit_67 : decode cX1_omit 67 = .ok (.aload_n 0, 1) := by decide +kernel
theorem dX1_omit_68 : decode cX1_omit 68 = .ok (.getfield 18, 3) := by decide +kernel
theorem dX1_omit_71 : decode cX1_omit 71 = .ok (.iload_n 2, 1) := by decide +kernel
theorem dX1_omit_72 : decode cX1_omit 72 = .ok (.iconst 1, 1) := by decide +kernel
theorem dX1_omit_73 : decode cX1_omit 73 = .ok (.iadd, 1) := by decide +kernel
theorem dX1_omit_74 : decode cX1_omit 74 = .ok (.iaload, 1) := by decide +kernel
theorem dX1_omit_75 : decode cX1_omit 75 = .ok (.iastore, 1) := by decide +kernel
theorem dX1_omit_76 : decode cX1_omit 76 = .ok (.aload_n 0, 1) := by decide +kernel
theorem dX1_omit_77 : decode cX1_omit 77 = .ok (.getfield 22, 3) := by decide +kernel
theorem dX1_omit_80 : decode cX1_omit 80 = .ok (.iload_n 2, 1) := by decide +kernel
theorem dX1_omit_81 : decode cX1_omit 81 = .ok (.aload_n 0, 1) := by decide +kernel
theorem dX1_omit_82 : decode cX1_omit 82 = .ok (.getfield 22, 3) := by decide +kernel
theorem dX1_omit_85 : decode cX1_omit 85 = .ok (.iload_n 2, 1) := by decide +kernel
theorem dX1_omit_86 : decode cX1_omit 86 = .ok (.iconst 1, 1) := by decide +kernel
theorem dX1_omit_87 : decode cX1_omit 87 = .ok (.iadd, 1) := by decide +kernel
theorem dX1_omit_88 : decode cX1_omit 88 = .ok (.iaload, 1) := by decide +kernel
theorem dX1_omit_89 : decode cX1_omit 89 = .ok (.iastore, 1) := by decide +kernel
theorem dX1_omit_90 : decode cX1_omit 90 = .ok (.aload_n 0, 1) := by decide +kernel
theorem dX1_omit_91 : decode cX1_omit 91 = .ok (.getfield 25, 3) := by decide +kernel
theorem dX1_omit_94 : decode cX1_omit 94 = .ok (.iload_n 2, 1) := by decide +kernel
theorem dX1_omit_95 : decode cX1_omit 95 = .ok (.aload_n 0, 1) := by decide +kernel
theorem dX1_omit_96 : decode cX1_omit 96 = .ok (.getfield 25, 3) := by decide +kernel
theorem dX1_omit_99 : decode cX1_omit 99 = .ok (.iload_n 2, 1) := by decide +kernel
theorem dX1_omit_100 : decode cX1_omit 100 = .ok (.iconst 1, 1) := by decide +kernel
theorem dX1_omit_101 : decode cX1_omit 101 = .ok (.iadd, 1) := by decide +kernel
theorem dX1_omit_102 : decode cX1_omit 102 = .ok (.iaload, 1) := by decide +kernel
theorem dX1_omit_103 : decode cX1_omit 103 = .ok (.iastore, 1) := by decide +kernel
theorem dX1_omit_104 : decode cX1_omit 104 = .ok (.iinc 2 1, 3) := by decide +kernel
theorem dX1_omit_107 : decode cX1_omit 107 = .ok (.goto (-55), 3) := by decide +kernel
theorem dX1_omit_110 : decode cX1_omit 110 = .ok (.aload_n 0, 1) := by decide +kernel
theorem dX1_omit_111 : decode cX1_omit 111 = .ok (.dup, 1) := by decide +kernel
theorem dX1_omit_112 : decode cX1_omit 112 = .ok (.getfield 50, 3) := by decide +kernel
theorem dX1_omit_115 : decode cX1_omit 115 = .ok (.iconst 1, 1) := by decide +kernel
theorem dX1_omit_116 : decode cX1_omit 116 = .ok (.isub, 1) := by decide +kernel
theorem dX1_omit_117 : decode cX1_omit 117 = .ok (.putfield 50, 3) := by decide +kernel
theorem dX1_omit_120 : decode cX1_omit 120 = .ok (.return_, 1) := by decide +kernel
theorem dX1_isHalt_0 : decode cX1_isHalt 0 = .ok (.iload_n 1, 1) := by decide +kernel
theorem dX1_isHalt_1 : decode cX1_isHalt 1 = .ok (.ifCond .lt 15, 3) := by decide +kernel
theorem dX1_isHalt_4 : decode cX1_isHalt 4 = .ok (.iload_n 1, 1) := by decide +kernel
theorem dX1_isHalt_5 : decode cX1_isHalt 5 = .ok (.aload_n 0, 1) := by decide +kernel
theorem dX1_isHalt_6 : decode cX1_isHalt 6 = .ok (.getfield 50, 3) := by decide +kernel
theorem dX1_isHalt_9 : decode cX1_isHalt 9 = .ok (.if_icmp .ge 7, 3) := by decide +kernel
theorem dX1_isHalt_12 : decode cX1_isHalt 12 = .ok (.iconst 1, 1) := by decide +kernel
theorem dX1_isHalt_13 : decode cX1_isHalt 13 = .ok (.goto 4, 3) := by decide +kernel
theorem dX1_isHalt_16 : decode cX1_isHalt 16 = .ok (.iconst 0, 1) := by decide +kernel
theorem dX1_isHalt_17 : decode cX1_isHalt 17 = .ok (.ireturn, 1) := by decide +kernel
theorem dX1_isStep_0 : decode cX1_isStep 0 = .ok (.iload_n 1, 1) := by decide +kernel
theorem dX1_isStep_1 : decode cX1_isStep 1 = .ok (.ifCond .lt 17, 3) := by decide +kernel
theorem dX1_isStep_4 : decode cX1_isStep 4 = .ok (.iload_n 1, 1) := by decide +kernel
theorem dX1_isStep_5 : decode cX1_isStep 5 = .ok (.aload_n 0, 1) := by decide +kernel
theorem dX1_isStep_6 : decode cX1_isStep 6 = .ok (.getfield 50, 3) := by decide +kernel
theorem dX1_isStep_9 : decode cX1_isStep 9 = .ok (.iconst 1, 1) := by decide +kernel
theorem dX1_isStep_10 : decode cX1_isStep 10 = .ok (.isub, 1) := by decide +kernel
theorem dX1_isStep_11 : decode cX1_isStep 11 = .ok (.if_icmp .ge 7, 3) := by decide +kernel
theorem dX1_isStep_14 : decode cX1_isStep 14 = .ok (.iconst 1, 1) := by decide +kernel
theorem dX1_isStep_15 : decode cX1_isStep 15 = .ok (.goto 4, 3) := by decide +kernel
theorem dX1_isStep_18 : decode cX1_isStep 18 = .ok (.iconst 0, 1) := by decide +kernel
theorem dX1_isStep_19 : decode cX1_isStep 19 = .ok (.ireturn, 1) := by decide +kernel
theorem dX1_goesTo_0 : decode cX1_goesTo 0 = .ok (.iconst 0, 1) := by decide +kernel
theorem dX1_goesTo_1 : decode cX1_goesTo 1 = .ok (.istore_n 2, 1) := by decide +kernel
theorem dX1_goesTo_2 : decode cX1_goesTo 2 = .ok (.iload_n 2, 1) := by decide +kernel
theorem dX1_goesTo_3 : decode cX1_goesTo 3 = .ok (.aload_n 0, 1) := by decide +kernel
theorem dX1_goesTo_4 : decode cX1_goesTo 4 = .ok (.getfield 50, 3) := by decide +kernel
theorem dX1_goesTo_7 : decode cX1_goesTo 7 = .ok (.if_icmp .ge 21, 3) := by decide +kernel
theorem dX1_goesTo_10 : decode cX1_goesTo 10 = .ok (.aload_n 0, 1) := by decide +kernel
theorem dX1_goesTo_11 : decode cX1_goesTo 11 = .ok (.getfield 18, 3) := by decide +kernel
theorem dX1_goesTo_14 : decode cX1_goesTo 14 = .ok (.iload_n 2, 1) := by decide +kernel
theorem dX1_goesTo_15 : decode cX1_goesTo 15 = .ok (.iaload, 1) := by decide +kernel
theorem dX1_goesTo_16 : decode cX1_goesTo 16 = .ok (.iload_n 1, 1) := by decide +kernel
theorem dX1_goesTo_17 : decode cX1_goesTo 17 = .ok (.if_icmp .ne 5, 3) := by decide +kernel
theorem dX1_goesTo_20 : decode cX1_goesTo 20 = .ok (.iconst 1, 1) := by decide +kernel
theorem dX1_goesTo_21 : decode cX1_goesTo 21 = .ok (.ireturn, 1) := by decide +kernel
theorem dX1_goesTo_22 : decode cX1_goesTo 22 = .ok (.iinc 2 1, 3) := by decide +kernel
theorem dX1_goesTo_25 : decode cX1_goesTo 25 = .ok (.goto (-23), 3) := by decide +kernel
theorem dX1_goesTo_28 : decode cX1_goesTo 28 = .ok (.iconst 0, 1) := by decide +kernel
theorem dX1_goesTo_29 : decode cX1_goesTo 29 = .ok (.ireturn, 1) := by decide +kernel
theorem dX1_time_0 : decode cX1_time 0 = .ok (.bipush 100, 2) := by decide +kernel
theorem dX1_time_2 : decode cX1_time 2 = .ok (.aload_n 0, 1) := by decide +kernel
theorem dX1_time_3 : decode cX1_time 3 = .ok (.getfield 22, 3) := by decide +kernel
theorem dX1_time_6 : decode cX1_time 6 = .ok (.iload_n 1, 1) := by decide +kernel
theorem dX1_time_7 : decode cX1_time 7 = .ok (.iaload, 1) := by decide +kernel
theorem dX1_time_8 : decode cX1_time 8 = .ok (.imul, 1) := by decide +kernel
theorem dX1_time_9 : decode cX1_time 9 = .ok (.aload_n 0, 1) := by decide +kernel
theorem dX1_time_10 : decode cX1_time 10 = .ok (.getfield 25, 3) := by decide +kernel
theorem dX1_time_13 : decode cX1_time 13 = .ok (.iload_n 1, 1) := by decide +kernel
theorem dX1_time_14 : decode cX1_time 14 = .ok (.iaload, 1) := by decide +kernel
theorem dX1_time_15 : decode cX1_time 15 = .ok (.iadd, 1) := by decide +kernel
theorem dX1_time_16 : decode cX1_time 16 = .ok (.ireturn, 1) := by decide +kernel
theorem dX1_timeBetween_0 : decode cX1_timeBetween 0 = .ok (.iconst 0, 1) := by decide +kernel
theorem dX1_timeBetween_1 : decode cX1_timeBetween 1 = .ok (.istore_n 3, 1) := by decide +kernel
theorem dX1_timeBetween_2 : decode cX1_timeBetween 2 = .ok (.iload_n 1, 1) := by decide +kernel
theorem dX1_timeBetween_3 : decode cX1_timeBetween 3 = .ok (.istore 4, 2) := by decide +kernel
theorem dX1_timeBetween_5 : decode cX1_timeBetween 5 = .ok (.iload 4, 2) := by decide +kernel
theorem dX1_timeBetween_7 : decode cX1_timeBetween 7 = .ok (.iload_n 2, 1) := by decide +kernel
theorem dX1_timeBetween_8 : decode cX1_timeBetween 8 = .ok (.if_icmp .ge 18, 3) := by decide +kernel
theorem dX1_timeBetween_11 : decode cX1_timeBetween 11 = .ok (.iload_n 3, 1) := by decide +kernel
theorem dX1_timeBetween_12 : decode cX1_timeBetween 12 = .ok (.aload_n 0, 1) := by decide +kernel
theorem dX1_timeBetween_13 : decode cX1_timeBetween 13 = .ok (.iload 4, 2) := by decide +kernel
theorem dX1_timeBetween_15 : decode cX1_timeBetween 15 = .ok (.invokevirtual 68, 3) := by decide +kernel
theorem dX1_timeBetween_18 : decode cX1_timeBetween 18 = .ok (.iadd, 1) := by decide +kernel
theorem dX1_timeBetween_19 : decode cX1_timeBetween 19 = .ok (.istore_n 3, 1) := by decide +kernel
theorem dX1_timeBetween_20 : decode cX1_timeBetween 20 = .ok (.iinc 4 1, 3) := by decide +kernel
theorem dX1_timeBetween_23 : decode cX1_timeBetween 23 = .ok (.goto (-18), 3) := by decide +kernel
theorem dX1_timeBetween_26 : decode cX1_timeBetween 26 = .ok (.iload_n 3, 1) := by decide +kernel
theorem dX1_timeBetween_27 : decode cX1_timeBetween 27 = .ok (.ireturn, 1) := by decide +kernel
theorem dX1_findRides_0 : decode cX1_findRides 0 = .ok (.iconst (-1), 1) := by decide +kernel
theorem dX1_findRides_1 : decode cX1_findRides 1 = .ok (.istore_n 2, 1) := by decide +kernel
theorem dX1_findRides_2 : decode cX1_findRides 2 = .ok (.aload_n 0, 1) := by decide +kernel
theorem dX1_findRides_3 : decode cX1_findRides 3 = .ok (.getfield 50, 3) := by decide +kernel
theorem dX1_findRides_6 : decode cX1_findRides 6 = .ok (.iconst 1, 1) := by decide +kernel
theorem dX1_findRides_7 : decode cX1_findRides 7 = .ok (.isub, 1) := by decide +kernel
theorem dX1_findRides_8 : decode cX1_findRides 8 = .ok (.istore_n 3, 1) := by decide +kernel
theorem dX1_findRides_9 : decode cX1_findRides 9 = .ok (.iload_n 3, 1) := by decide +kernel
theorem dX1_findRides_10 : decode cX1_findRides 10 = .ok (.ifCond .lt 102, 3) := by decide +kernel
theorem dX1_findRides_13 : decode cX1_findRides 13 = .ok (.iload_n 2, 1) := by decide +kernel
theorem dX1_findRides_14 : decode cX1_findRides 14 = .ok (.iconst (-1), 1) := by decide +kernel
theorem dX1_findRides_15 : decode cX1_findRides 15 = .ok (.if_icmp .ne 7, 3) := by decide +kernel
theorem dX1_findRides_18 : decode cX1_findRides 18 = .ok (.iconst (-1), 1) := by decide +kernel
theorem dX1_findRides_19 : decode cX1_findRides 19 = .ok (.goto 10, 3) := by decide +kernel
theorem dX1_findRides_22 : decode cX1_findRides 22 = .ok (.aload_n 0, 1) := by decide +kernel
theorem dX1_findRides_23 : decode cX1_findRides 23 = .ok (.iload_n 3, 1) := by decide +kernel
theorem dX1_findRides_24 : decode cX1_findRides 24 = .ok (.invokevirtual 68, 3) := by decide +kernel
theorem dX1_findRides_27 : decode cX1_findRides 27 = .ok (.iload_n 2, 1) := by decide +kernel
theorem dX1_findRides_28 : decode cX1_findRides 28 = .ok (.iadd, 1) := by decide +kernel
theorem dX1_findRides_29 : decode cX1_findRides 29 = .ok (.istore 4, 2) := by decide +kernel
theorem dX1_findRides_31 : decode cX1_findRides 31 = .ok (.aload_n 1, 1) := by decide +kernel
theorem dX1_findRides_32 : decode cX1_findRides 32 = .ok (.aload_n 0, 1) := by decide +kernel
theorem dX1_findRides_33 : decode cX1_findRides 33 = .ok (.getfield 18, 3) := by decide +kernel
theorem dX1_findRides_36 : decode cX1_findRides 36 = .ok (.iload_n 3, 1) := by decide +kernel
theorem dX1_findRides_37 : decode cX1_findRides 37 = .ok (.iaload, 1) := by decide +kernel
theorem dX1_findRides_38 : decode cX1_findRides 38 = .ok (.aaload, 1) := by decide +kernel
theorem dX1_findRides_39 : decode cX1_findRides 39 = .ok (.getfield 72, 3) := by decide +kernel
theorem dX1_findRides_42 : decode cX1_findRides 42 = .ok (.istore 5, 2) := by decide +kernel
theorem dX1_findRides_44 : decode cX1_findRides 44 = .ok (.iload 5, 2) := by decide +kernel
theorem dX1_findRides_46 : decode cX1_findRides 46 = .ok (.iconst (-1), 1) := by decide +kernel
theorem dX1_findRides_47 : decode cX1_findRides 47 = .ok (.if_icmp .eq 20, 3) := by decide +kernel
theorem dX1_findRides_50 : decode cX1_findRides 50 = .ok (.iload 4, 2) := by decide +kernel
theorem dX1_findRides_52 : decode cX1_findRides 52 = .ok (.iconst (-1), 1) := by decide +kernel
theorem dX1_findRides_53 : decode cX1_findRides 53 = .ok (.if_icmp .eq 10, 3) := by decide +kernel
theorem dX1_findRides_56 : decode cX1_findRides 56 = .ok (.iload 5, 2) := by decide +kernel
theorem dX1_findRides_58 : decode cX1_findRides 58 = .ok (.iload 4, 2) := by decide +kernel
theorem dX1_findRides_60 : decode cX1_findRides 60 = .ok (.if_icmp .gt 7, 3) := by decide +kernel
theorem dX1_findRides_63 : decode cX1_findRides 63 = .ok (.iconst 1, 1) := by decide +kernel
theorem dX1_findRides_64 : decode cX1_findRides 64 = .ok (.goto 4, 3) := by decide +kernel
theorem dX1_findRides_67 : decode cX1_findRides 67 = .ok (.iconst 0, 1) := by decide +kernel
theorem dX1_findRides_68 : decode cX1_findRides 68 = .ok (.istore 6, 2) := by decide +kernel
theorem dX1_findRides_70 : decode cX1_findRides 70 = .ok (.iload 6, 2) := by decide +kernel
theorem dX1_findRides_72 : decode cX1_findRides 72 = .ok (.ifCond .eq 8, 3) := by decide +kernel
theorem dX1_findRides_75 : decode cX1_findRides 75 = .ok (.iload 5, 2) := by decide +kernel
theorem dX1_findRides_77 : decode cX1_findRides 77 = .ok (.goto 5, 3) := by decide +kernel
theorem dX1_findRides_80 : decode cX1_findRides 80 = .ok (.iload 4, 2) := by decide +kernel
theorem dX1_findRides_82 : decode cX1_findRides 82 = .ok (.istore_n 2, 1) := by decide +kernel
theorem dX1_findRides_83 : decode cX1_findRides 83 = .ok (.aload_n 0, 1) := by decide +kernel
theorem dX1_findRides_84 : decode cX1_findRides 84 = .ok (.getfield 34, 3) := by decide +kernel
theorem dX1_findRides_87 : decode cX1_findRides 87 = .ok (.iload_n 3, 1) := by decide +kernel
theorem dX1_findRides_88 : decode cX1_findRides 88 = .ok (.iload 4, 2) := by decide +kernel
theorem dX1_findRides_90 : decode cX1_findRides 90 = .ok (.iastore, 1) := by decide +kernel
theorem dX1_findRides_91 : decode cX1_findRides 91 = .ok (.aload_n 0, 1) := by decide +kernel
theorem dX1_findRides_92 : decode cX1_findRides 92 = .ok (.getfield 31, 3) := by decide +kernel
theorem dX1_findRides_95 : decode cX1_findRides 95 = .ok (.iload_n 3, 1) := by decide +kernel
theorem dX1_findRides_96 : decode cX1_findRides 96 = .ok (.iload_n 2, 1) := by decide +kernel
theorem dX1_findRides_97 : decode cX1_findRides 97 = .ok (.iastore, 1) := by decide +kernel
theorem dX1_findRides_98 : decode cX1_findRides 98 = .ok (.aload_n 0, 1) := by decide +kernel
theorem dX1_findRides_99 : decode cX1_findRides 99 = .ok (.getfield 37, 3) := by decide +kernel
theorem dX1_findRides_102 : decode cX1_findRides 102 = .ok (.iload_n 3, 1) := by decide +kernel
theorem dX1_findRides_103 : decode cX1_findRides 103 = .ok (.iload 6, 2) := by decide +kernel
theorem dX1_findRides_105 : decode cX1_findRides 105 = .ok (.bastore, 1) := by decide +kernel
theorem dX1_findRides_106 : decode cX1_findRides 106 = .ok (.iinc 3 (-1), 3) := by decide +kernel
theorem dX1_findRides_109 : decode cX1_findRides 109 = .ok (.goto (-100), 3) := by decide +kernel
theorem dX1_findRides_112 : decode cX1_findRides 112 = .ok (.return_, 1) := by decide +kernel
theorem dX1_leftFrom_0 : decode cX1_leftFrom 0 = .ok (.iload_n 1, 1) := by decide +kernel
theorem dX1_leftFrom_1 : decode cX1_leftFrom 1 = .ok (.iconst 1, 1) := by decide +kernel
theorem dX1_leftFrom_2 : decode cX1_leftFrom 2 = .ok (.iadd, 1) := by decide +kernel
theorem dX1_leftFrom_3 : decode cX1_leftFrom 3 = .ok (.istore_n 2, 1) := by decide +kernel
theorem dX1_leftFrom_4 : decode cX1_leftFrom 4 = .ok (.iload_n 2, 1) := by decide +kernel
theorem dX1_leftFrom_5 : decode cX1_leftFrom 5 = .ok (.aload_n 0, 1) := by decide +kernel
theorem dX1_leftFrom_6 : decode cX1_leftFrom 6 = .ok (.getfield 50, 3) := by decide +kernel
theorem dX1_leftFrom_9 : decode cX1_leftFrom 9 = .ok (.if_icmp .ge 20, 3) := by decide +kernel
theorem dX1_leftFrom_12 : decode cX1_leftFrom 12 = .ok (.aload_n 0, 1) := by decide +kernel
theorem dX1_leftFrom_13 : decode cX1_leftFrom 13 = .ok (.getfield 37, 3) := by decide +kernel
theorem dX1_leftFrom_16 : decode cX1_leftFrom 16 = .ok (.iload_n 2, 1) := by decide +kernel
theorem dX1_leftFrom_17 : decode cX1_leftFrom 17 = .ok (.baload, 1) := by decide +kernel
theorem dX1_leftFrom_18 : decode cX1_leftFrom 18 = .ok (.ifCond .eq 5, 3) := by decide +kernel
theorem dX1_leftFrom_21 : decode cX1_leftFrom 21 = .ok (.iload_n 2, 1) := by decide +kernel
theorem dX1_leftFrom_22 : decode cX1_leftFrom 22 = .ok (.ireturn, 1) := by decide +kernel
theorem dX1_leftFrom_23 : decode cX1_leftFrom 23 = .ok (.iinc 2 1, 3) := by decide +kernel
theorem dX1_leftFrom_26 : decode cX1_leftFrom 26 = .ok (.goto (-22), 3) := by decide +kernel
theorem dX1_leftFrom_29 : decode cX1_leftFrom 29 = .ok (.iconst (-1), 1) := by decide +kernel
theorem dX1_leftFrom_30 : decode cX1_leftFrom 30 = .ok (.ireturn, 1) := by decide +kernel
theorem dX1_forgetLoads_0 : decode cX1_forgetLoads 0 = .ok (.iconst 0, 1) := by decide +kernel
theorem dX1_forgetLoads_1 : decode cX1_forgetLoads 1 = .ok (.istore_n 1, 1) := by decide +kernel
theorem dX1_forgetLoads_2 : decode cX1_forgetLoads 2 = .ok (.iload_n 1, 1) := by decide +kernel
theorem dX1_forgetLoads_3 : decode cX1_forgetLoads 3 = .ok (.bipush 8, 2) := by decide +kernel
theorem dX1_forgetLoads_5 : decode cX1_forgetLoads 5 = .ok (.if_icmp .ge 30, 3) := by decide +kernel
theorem dX1_forgetLoads_8 : decode cX1_forgetLoads 8 = .ok (.aload_n 0, 1) := by decide +kernel
theorem dX1_forgetLoads_9 : decode cX1_forgetLoads 9 = .ok (.getfield 41, 3) := by decide +kernel
theorem dX1_forgetLoads_12 : decode cX1_forgetLoads 12 = .ok (.iload_n 1, 1) := by decide +kernel
theorem dX1_forgetLoads_13 : decode cX1_forgetLoads 13 = .ok (.iconst 0, 1) := by decide +kernel
theorem dX1_forgetLoads_14 : decode cX1_forgetLoads 14 = .ok (.iastore, 1) := by decide +kernel
theorem dX1_forgetLoads_15 : decode cX1_forgetLoads 15 = .ok (.aload_n 0, 1) := by decide +kernel
theorem dX1_forgetLoads_16 : decode cX1_forgetLoads 16 = .ok (.getfield 44, 3) := by decide +kernel
theorem dX1_forgetLoads_19 : decode cX1_forgetLoads 19 = .ok (.iload_n 1, 1) := by decide +kernel
theorem dX1_forgetLoads_20 : decode cX1_forgetLoads 20 = .ok (.iconst 0, 1) := by decide +kernel
theorem dX1_forgetLoads_21 : decode cX1_forgetLoads 21 = .ok (.iastore, 1) := by decide +kernel
theorem dX1_forgetLoads_22 : decode cX1_forgetLoads 22 = .ok (.aload_n 0, 1) := by decide +kernel
theorem dX1_forgetLoads_23 : decode cX1_forgetLoads 23 = .ok (.getfield 47, 3) := by decide +kernel
theorem dX1_forgetLoads_26 : decode cX1_forgetLoads 26 = .ok (.iload_n 1, 1) := by decide +kernel
theorem dX1_forgetLoads_27 : decode cX1_forgetLoads 27 = .ok (.iconst 0, 1) := by decide +kernel
theorem dX1_forgetLoads_28 : decode cX1_forgetLoads 28 = .ok (.iastore, 1) := by decide +kernel
theorem dX1_forgetLoads_29 : decode cX1_forgetLoads 29 = .ok (.iinc 1 1, 3) := by decide +kernel
theorem dX1_forgetLoads_32 : decode cX1_forgetLoads 32 = .ok (.goto (-30), 3) := by decide +kernel
theorem dX1_forgetLoads_35 : decode cX1_forgetLoads 35 = .ok (.return_, 1) := by decide +kernel
theorem dX1_carry_0 : decode cX1_carry 0 = .ok (.aload_n 0, 1) := by decide +kernel
theorem dX1_carry_1 : decode cX1_carry 1 = .ok (.getfield 44, 3) := by decide +kernel
theorem dX1_carry_4 : decode cX1_carry 4 = .ok (.iload_n 1, 1) := by decide +kernel
theorem dX1_carry_5 : decode cX1_carry 5 = .ok (.dup2, 1) := by decide +kernel
theorem dX1_carry_6 : decode cX1_carry 6 = .ok (.iaload, 1) := by decide +kernel
theorem dX1_carry_7 : decode cX1_carry 7 = .ok (.iload_n 3, 1) := by decide +kernel
theorem dX1_carry_8 : decode cX1_carry 8 = .ok (.iadd, 1) := by decide +kernel
theorem dX1_carry_9 : decode cX1_carry 9 = .ok (.iastore, 1) := by decide +kernel
theorem dX1_carry_10 : decode cX1_carry 10 = .ok (.aload_n 0, 1) := by decide +kernel
theorem dX1_carry_11 : decode cX1_carry 11 = .ok (.getfield 47, 3) := by decide +kernel
theorem dX1_carry_14 : decode cX1_carry 14 = .ok (.iload_n 2, 1) := by decide +kernel
theorem dX1_carry_15 : decode cX1_carry 15 = .ok (.dup2, 1) := by decide +kernel
theorem dX1_carry_16 : decode cX1_carry 16 = .ok (.iaload, 1) := by decide +kernel
theorem dX1_carry_17 : decode cX1_carry 17 = .ok (.iload_n 3, 1) := by decide +kernel
theorem dX1_carry_18 : decode cX1_carry 18 = .ok (.iadd, 1) := by decide +kernel
theorem dX1_carry_19 : decode cX1_carry 19 = .ok (.iastore, 1) := by decide +kernel
theorem dX1_carry_20 : decode cX1_carry 20 = .ok (.iload_n 1, 1) := by decide +kernel
theorem dX1_carry_21 : decode cX1_carry 21 = .ok (.istore 4, 2) := by decide +kernel
theorem dX1_carry_23 : decode cX1_carry 23 = .ok (.iload 4, 2) := by decide +kernel
theorem dX1_carry_25 : decode cX1_carry 25 = .ok (.iload_n 2, 1) := by decide +kernel
theorem dX1_carry_26 : decode cX1_carry 26 = .ok (.if_icmp .ge 20, 3) := by decide +kernel
theorem dX1_carry_29 : decode cX1_carry 29 = .ok (.aload_n 0, 1) := by decide +kernel
theorem dX1_carry_30 : decode cX1_carry 30 = .ok (.getfield 41, 3) := by decide +kernel
theorem dX1_carry_33 : decode cX1_carry 33 = .ok (.iload 4, 2) := by decide +kernel
theorem dX1_carry_35 : decode cX1_carry 35 = .ok (.dup2, 1) := by decide +kernel
theorem dX1_carry_36 : decode cX1_carry 36 = .ok (.iaload, 1) := by decide +kernel
theorem dX1_carry_37 : decode cX1_carry 37 = .ok (.iload_n 3, 1) := by decide +kernel
theorem dX1_carry_38 : decode cX1_carry 38 = .ok (.iadd, 1) := by decide +kernel
theorem dX1_carry_39 : decode cX1_carry 39 = .ok (.iastore, 1) := by decide +kernel
theorem dX1_carry_40 : decode cX1_carry 40 = .ok (.iinc 4 1, 3) := by decide +kernel
theorem dX1_carry_43 : decode cX1_carry 43 = .ok (.goto (-20), 3) := by decide +kernel
theorem dX1_carry_46 : decode cX1_carry 46 = .ok (.return_, 1) := by decide +kernel
theorem dX1_allEntering_0 : decode cX1_allEntering 0 = .ok (.iconst 0, 1) := by decide +kernel
theorem dX1_allEntering_1 : decode cX1_allEntering 1 = .ok (.istore_n 1, 1) := by decide +kernel
theorem dX1_allEntering_2 : decode cX1_allEntering 2 = .ok (.iconst 0, 1) := by decide +kernel
theorem dX1_allEntering_3 : decode cX1_allEntering 3 = .ok (.istore_n 2, 1) := by decide +kernel
theorem dX1_allEntering_4 : decode cX1_allEntering 4 = .ok (.iload_n 2, 1) := by decide +kernel
theorem dX1_allEntering_5 : decode cX1_allEntering 5 = .ok (.aload_n 0, 1) := by decide +kernel
theorem dX1_allEntering_6 : decode cX1_allEntering 6 = .ok (.getfield 50, 3) := by decide +kernel
theorem dX1_allEntering_9 : decode cX1_allEntering 9 = .ok (.if_icmp .ge 18, 3) := by decide +kernel
theorem dX1_allEntering_12 : decode cX1_allEntering 12 = .ok (.iload_n 1, 1) := by decide +kernel
theorem dX1_allEntering_13 : decode cX1_allEntering 13 = .ok (.aload_n 0, 1) := by decide +kernel
theorem dX1_allEntering_14 : decode cX1_allEntering 14 = .ok (.getfield 44, 3) := by decide +kernel
theorem dX1_allEntering_17 : decode cX1_allEntering 17 = .ok (.iload_n 2, 1) := by decide +kernel
theorem dX1_allEntering_18 : decode cX1_allEntering 18 = .ok (.iaload, 1) := by decide +kernel
theorem dX1_allEntering_19 : decode cX1_allEntering 19 = .ok (.iadd, 1) := by decide +kernel
theorem dX1_allEntering_20 : decode cX1_allEntering 20 = .ok (.istore_n 1, 1) := by decide +kernel
theorem dX1_allEntering_21 : decode cX1_allEntering 21 = .ok (.iinc 2 1, 3) := by decide +kernel
theorem dX1_allEntering_24 : decode cX1_allEntering 24 = .ok (.goto (-20), 3) := by decide +kernel
theorem dX1_allEntering_27 : decode cX1_allEntering 27 = .ok (.iload_n 1, 1) := by decide +kernel
theorem dX1_allEntering_28 : decode cX1_allEntering 28 = .ok (.ireturn, 1) := by decide +kernel
theorem dX1_fullestStep_0 : decode cX1_fullestStep 0 = .ok (.iconst 0, 1) := by decide +kernel
theorem dX1_fullestStep_1 : decode cX1_fullestStep 1 = .ok (.istore_n 1, 1) := by decide +kernel
theorem dX1_fullestStep_2 : decode cX1_fullestStep 2 = .ok (.iconst 1, 1) := by decide +kernel
theorem dX1_fullestStep_3 : decode cX1_fullestStep 3 = .ok (.istore_n 2, 1) := by decide +kernel
theorem dX1_fullestStep_4 : decode cX1_fullestStep 4 = .ok (.iload_n 2, 1) := by decide +kernel
theorem dX1_fullestStep_5 : decode cX1_fullestStep 5 = .ok (.aload_n 0, 1) := by decide +kernel
theorem dX1_fullestStep_6 : decode cX1_fullestStep 6 = .ok (.getfield 50, 3) := by decide +kernel
theorem dX1_fullestStep_9 : decode cX1_fullestStep 9 = .ok (.iconst 1, 1) := by decide +kernel
theorem dX1_fullestStep_10 : decode cX1_fullestStep 10 = .ok (.isub, 1) := by decide +kernel
theorem dX1_fullestStep_11 : decode cX1_fullestStep 11 = .ok (.if_icmp .ge 26, 3) := by decide +kernel
theorem dX1_fullestStep_14 : decode cX1_fullestStep 14 = .ok (.aload_n 0, 1) := by decide +kernel
theorem dX1_fullestStep_15 : decode cX1_fullestStep 15 = .ok (.getfield 41, 3) := by decide +kernel
theorem dX1_fullestStep_18 : decode cX1_fullestStep 18 = .ok (.iload_n 2, 1) := by decide +kernel
theorem dX1_fullestStep_19 : decode cX1_fullestStep 19 = .ok (.iaload, 1) := by decide +kernel
theorem dX1_fullestStep_20 : decode cX1_fullestStep 20 = .ok (.aload_n 0, 1) := by decide +kernel
theorem dX1_fullestStep_21 : decode cX1_fullestStep 21 = .ok (.getfield 41, 3) := by decide +kernel
theorem dX1_fullestStep_24 : decode cX1_fullestStep 24 = .ok (.iload_n 1, 1) := by decide +kernel
theorem dX1_fullestStep_25 : decode cX1_fullestStep 25 = .ok (.iaload, 1) := by decide +kernel
theorem dX1_fullestStep_26 : decode cX1_fullestStep 26 = .ok (.if_icmp .le 5, 3) := by decide +kernel
theorem dX1_fullestStep_29 : decode cX1_fullestStep 29 = .ok (.iload_n 2, 1) := by decide +kernel
theorem dX1_fullestStep_30 : decode cX1_fullestStep 30 = .ok (.istore_n 1, 1) := by decide +kernel
theorem dX1_fullestStep_31 : decode cX1_fullestStep 31 = .ok (.iinc 2 1, 3) := by decide +kernel
theorem dX1_fullestStep_34 : decode cX1_fullestStep 34 = .ok (.goto (-30), 3) := by decide +kernel
theorem dX1_fullestStep_37 : decode cX1_fullestStep 37 = .ok (.iload_n 1, 1) := by decide +kernel
theorem dX1_fullestStep_38 : decode cX1_fullestStep 38 = .ok (.ireturn, 1) := by decide +kernel
theorem dX1_averageLoads_0 : decode cX1_averageLoads 0 = .ok (.iconst 0, 1) := by decide +kernel
theorem dX1_averageLoads_1 : decode cX1_averageLoads 1 = .ok (.istore_n 3, 1) := by decide +kernel
theorem dX1_averageLoads_2 : decode cX1_averageLoads 2 = .ok (.iconst 0, 1) := by decide +kernel
theorem dX1_averageLoads_3 : decode cX1_averageLoads 3 = .ok (.istore 4, 2) := by decide +kernel
theorem dX1_averageLoads_5 : decode cX1_averageLoads 5 = .ok (.iload 4, 2) := by decide +kernel
theorem dX1_averageLoads_7 : decode cX1_averageLoads 7 = .ok (.aload_n 0, 1) := by decide +kernel
theorem dX1_averageLoads_8 : decode cX1_averageLoads 8 = .ok (.getfield 50, 3) := by decide +kernel
theorem dX1_averageLoads_11 : decode cX1_averageLoads 11 = .ok (.iconst 1, 1) := by decide +kernel
theorem dX1_averageLoads_12 : decode cX1_averageLoads 12 = .ok (.isub, 1) := by decide +kernel
theorem dX1_averageLoads_13 : decode cX1_averageLoads 13 = .ok (.if_icmp .ge 96, 3) := by decide +kernel
theorem dX1_averageLoads_16 : decode cX1_averageLoads 16 = .ok (.aload_n 0, 1) := by decide +kernel
theorem dX1_averageLoads_17 : decode cX1_averageLoads 17 = .ok (.getfield 41, 3) := by decide +kernel
theorem dX1_averageLoads_20 : decode cX1_averageLoads 20 = .ok (.iload 4, 2) := by decide +kernel
theorem dX1_averageLoads_22 : decode cX1_averageLoads 22 = .ok (.iaload, 1) := by decide +kernel
theorem dX1_averageLoads_23 : decode cX1_averageLoads 23 = .ok (.aload_n 0, 1) := by decide +kernel
theorem dX1_averageLoads_24 : decode cX1_averageLoads 24 = .ok (.getfield 28, 3) := by decide +kernel
theorem dX1_averageLoads_27 : decode cX1_averageLoads 27 = .ok (.iload 4, 2) := by decide +kernel
theorem dX1_averageLoads_29 : decode cX1_averageLoads 29 = .ok (.iaload, 1) := by decide +kernel
theorem dX1_averageLoads_30 : decode cX1_averageLoads 30 = .ok (.isub, 1) := by decide +kernel
theorem dX1_averageLoads_31 : decode cX1_averageLoads 31 = .ok (.istore 5, 2) := by decide +kernel
theorem dX1_averageLoads_33 : decode cX1_averageLoads 33 = .ok (.iload_n 3, 1) := by decide +kernel
theorem dX1_averageLoads_34 : decode cX1_averageLoads 34 = .ok (.iload 5, 2) := by decide +kernel
theorem dX1_averageLoads_36 : decode cX1_averageLoads 36 = .ok (.invokestatic 77, 3) := by decide +kernel
theorem dX1_averageLoads_39 : decode cX1_averageLoads 39 = .ok (.iadd, 1) := by decide +kernel
theorem dX1_averageLoads_40 : decode cX1_averageLoads 40 = .ok (.istore_n 3, 1) := by decide +kernel
theorem dX1_averageLoads_41 : decode cX1_averageLoads 41 = .ok (.aload_n 0, 1) := by decide +kernel
theorem dX1_averageLoads_42 : decode cX1_averageLoads 42 = .ok (.getfield 28, 3) := by decide +kernel
theorem dX1_averageLoads_45 : decode cX1_averageLoads 45 = .ok (.iload 4, 2) := by decide +kernel
theorem dX1_averageLoads_47 : decode cX1_averageLoads 47 = .ok (.dup2, 1) := by decide +kernel
theorem dX1_averageLoads_48 : decode cX1_averageLoads 48 = .ok (.iaload, 1) := by decide +kernel
theorem dX1_averageLoads_49 : decode cX1_averageLoads 49 = .ok (.iload 5, 2) := by decide +kernel
theorem dX1_averageLoads_51 : decode cX1_averageLoads 51 = .ok (.i2l, 1) := by decide +kernel
theorem dX1_averageLoads_52 : decode cX1_averageLoads 52 = .ok (.iload_n 1, 1) := by decide +kernel
theorem dX1_averageLoads_53 : decode cX1_averageLoads 53 = .ok (.i2l, 1) := by decide +kernel
theorem dX1_averageLoads_54 : decode cX1_averageLoads 54 = .ok (.invokestatic 82, 3) := by decide +kernel
theorem dX1_averageLoads_57 : decode cX1_averageLoads 57 = .ok (.l2i, 1) := by decide +kernel
theorem dX1_averageLoads_58 : decode cX1_averageLoads 58 = .ok (.iadd, 1) := by decide +kernel
theorem dX1_averageLoads_59 : decode cX1_averageLoads 59 = .ok (.iastore, 1) := by decide +kernel
theorem dX1_averageLoads_60 : decode cX1_averageLoads 60 = .ok (.iload_n 2, 1) := by decide +kernel
theorem dX1_averageLoads_61 : decode cX1_averageLoads 61 = .ok (.i2l, 1) := by decide +kernel
theorem dX1_averageLoads_62 : decode cX1_averageLoads 62 = .ok (.aload_n 0, 1) := by decide +kernel
theorem dX1_averageLoads_63 : decode cX1_averageLoads 63 = .ok (.getfield 28, 3) := by decide +kernel
theorem dX1_averageLoads_66 : decode cX1_averageLoads 66 = .ok (.iload 4, 2) := by decide +kernel
theorem dX1_averageLoads_68 : decode cX1_averageLoads 68 = .ok (.iaload, 1) := by decide +kernel
theorem dX1_averageLoads_69 : decode cX1_averageLoads 69 = .ok (.i2l, 1) := by decide +kernel
theorem dX1_averageLoads_70 : decode cX1_averageLoads 70 = .ok (.lmul, 1) := by decide +kernel
theorem dX1_averageLoads_71 : decode cX1_averageLoads 71 = .ok (.aload_n 0, 1) := by decide +kernel
theorem dX1_averageLoads_72 : decode cX1_averageLoads 72 = .ok (.getfield 15, 3) := by decide +kernel
theorem dX1_averageLoads_75 : decode cX1_averageLoads 75 = .ok (.i2l, 1) := by decide +kernel
theorem dX1_averageLoads_76 : decode cX1_averageLoads 76 = .ok (.aload_n 0, 1) := by decide +kernel
theorem dX1_averageLoads_77 : decode cX1_averageLoads 77 = .ok (.getfield 9, 3) := by decide +kernel
theorem dX1_averageLoads_80 : decode cX1_averageLoads 80 = .ok (.i2l, 1) := by decide +kernel
theorem dX1_averageLoads_81 : decode cX1_averageLoads 81 = .ok (.lmul, 1) := by decide +kernel
theorem dX1_averageLoads_82 : decode cX1_averageLoads 82 = .ok (.invokestatic 82, 3) := by decide +kernel
theorem dX1_averageLoads_85 : decode cX1_averageLoads 85 = .ok (.lstore 6, 2) := by decide +kernel
theorem dX1_averageLoads_87 : decode cX1_averageLoads 87 = .ok (.aload_n 0, 1) := by decide +kernel
theorem dX1_averageLoads_88 : decode cX1_averageLoads 88 = .ok (.getfield 25, 3) := by decide +kernel
theorem dX1_averageLoads_91 : decode cX1_averageLoads 91 = .ok (.iload 4, 2) := by decide +kernel
theorem dX1_averageLoads_93 : decode cX1_averageLoads 93 = .ok (.lload 6, 2) := by decide +kernel
theorem dX1_averageLoads_95 : decode cX1_averageLoads 95 = .ok (.ldc2_w 86, 3) := by decide +kernel
theorem dX1_averageLoads_98 : decode cX1_averageLoads 98 = .ok (.invokestatic 88, 3) := by decide +kernel
theorem dX1_averageLoads_101 : decode cX1_averageLoads 101 = .ok (.l2i, 1) := by decide +kernel
theorem dX1_averageLoads_102 : decode cX1_averageLoads 102 = .ok (.iastore, 1) := by decide +kernel
theorem dX1_averageLoads_103 : decode cX1_averageLoads 103 = .ok (.iinc 4 1, 3) := by decide +kernel
theorem dX1_averageLoads_106 : decode cX1_averageLoads 106 = .ok (.goto (-101), 3) := by decide +kernel
theorem dX1_averageLoads_109 : decode cX1_averageLoads 109 = .ok (.iload_n 3, 1) := by decide +kernel
theorem dX1_averageLoads_110 : decode cX1_averageLoads 110 = .ok (.ireturn, 1) := by decide +kernel
theorem dX1_firstAt_0 : decode cX1_firstAt 0 = .ok (.bipush 100, 2) := by decide +kernel
theorem dX1_firstAt_2 : decode cX1_firstAt 2 = .ok (.aload_n 0, 1) := by decide +kernel
theorem dX1_firstAt_3 : decode cX1_firstAt 3 = .ok (.getfield 53, 3) := by decide +kernel
theorem dX1_firstAt_6 : decode cX1_firstAt 6 = .ok (.imul, 1) := by decide +kernel
theorem dX1_firstAt_7 : decode cX1_firstAt 7 = .ok (.aload_n 0, 1) := by decide +kernel
theorem dX1_firstAt_8 : decode cX1_firstAt 8 = .ok (.iconst 0, 1) := by decide +kernel
theorem dX1_firstAt_9 : decode cX1_firstAt 9 = .ok (.iload_n 1, 1) := by decide +kernel
theorem dX1_firstAt_10 : decode cX1_firstAt 10 = .ok (.invokevirtual 91, 3) := by decide +kernel
theorem dX1_firstAt_13 : decode cX1_firstAt 13 = .ok (.iadd, 1) := by decide +kernel
theorem dX1_firstAt_14 : decode cX1_firstAt 14 = .ok (.istore_n 3, 1) := by decide +kernel
theorem dX1_firstAt_15 : decode cX1_firstAt 15 = .ok (.iload_n 2, 1) := by decide +kernel
theorem dX1_firstAt_16 : decode cX1_firstAt 16 = .ok (.iload_n 3, 1) := by decide +kernel
theorem dX1_firstAt_17 : decode cX1_firstAt 17 = .ok (.if_icmp .gt 5, 3) := by decide +kernel
theorem dX1_firstAt_20 : decode cX1_firstAt 20 = .ok (.iload_n 3, 1) := by decide +kernel
theorem dX1_firstAt_21 : decode cX1_firstAt 21 = .ok (.ireturn, 1) := by decide +kernel
theorem dX1_firstAt_22 : decode cX1_firstAt 22 = .ok (.iload_n 2, 1) := by decide +kernel
theorem dX1_firstAt_23 : decode cX1_firstAt 23 = .ok (.iload_n 3, 1) := by decide +kernel
theorem dX1_firstAt_24 : decode cX1_firstAt 24 = .ok (.isub, 1) := by decide +kernel
theorem dX1_firstAt_25 : decode cX1_firstAt 25 = .ok (.i2l, 1) := by decide +kernel
theorem dX1_firstAt_26 : decode cX1_firstAt 26 = .ok (.aload_n 0, 1) := by decide +kernel
theorem dX1_firstAt_27 : decode cX1_firstAt 27 = .ok (.getfield 9, 3) := by decide +kernel
theorem dX1_firstAt_30 : decode cX1_firstAt 30 = .ok (.i2l, 1) := by decide +kernel
theorem dX1_firstAt_31 : decode cX1_firstAt 31 = .ok (.lmul, 1) := by decide +kernel
theorem dX1_firstAt_32 : decode cX1_firstAt 32 = .ok (.ldc2_w 95, 3) := by decide +kernel
theorem dX1_firstAt_35 : decode cX1_firstAt 35 = .ok (.ladd, 1) := by decide +kernel
theorem dX1_firstAt_36 : decode cX1_firstAt 36 = .ok (.lconst 1, 1) := by decide +kernel
theorem dX1_firstAt_37 : decode cX1_firstAt 37 = .ok (.lsub, 1) := by decide +kernel
theorem dX1_firstAt_38 : decode cX1_firstAt 38 = .ok (.ldc2_w 95, 3) := by decide +kernel
theorem dX1_firstAt_41 : decode cX1_firstAt 41 = .ok (.invokestatic 82, 3) := by decide +kernel
theorem dX1_firstAt_44 : decode cX1_firstAt 44 = .ok (.lstore 4, 2) := by decide +kernel
theorem dX1_firstAt_46 : decode cX1_firstAt 46 = .ok (.iload_n 3, 1) := by decide +kernel
theorem dX1_firstAt_47 : decode cX1_firstAt 47 = .ok (.lload 4, 2) := by decide +kernel
theorem dX1_firstAt_49 : decode cX1_firstAt 49 = .ok (.ldc2_w 95, 3) := by decide +kernel
theorem dX1_firstAt_52 : decode cX1_firstAt 52 = .ok (.lmul, 1) := by decide +kernel
theorem dX1_firstAt_53 : decode cX1_firstAt 53 = .ok (.aload_n 0, 1) := by decide +kernel
theorem dX1_firstAt_54 : decode cX1_firstAt 54 = .ok (.getfield 9, 3) := by decide +kernel
theorem dX1_firstAt_57 : decode cX1_firstAt 57 = .ok (.i2l, 1) := by decide +kernel
theorem dX1_firstAt_58 : decode cX1_firstAt 58 = .ok (.invokestatic 82, 3) := by decide +kernel
theorem dX1_firstAt_61 : decode cX1_firstAt 61 = .ok (.l2i, 1) := by decide +kernel
theorem dX1_firstAt_62 : decode cX1_firstAt 62 = .ok (.iadd, 1) := by decide +kernel
theorem dX1_firstAt_63 : decode cX1_firstAt 63 = .ok (.ireturn, 1) := by decide +kernel
theorem dX2_init_0 : decode cX2_init 0 = .ok (.aload_n 0, 1) := by decide +kernel
theorem dX2_init_1 : decode cX2_init 1 = .ok (.invokespecial 3, 3) := by decide +kernel
theorem dX2_init_4 : decode cX2_init 4 = .ok (.aload_n 0, 1) := by decide +kernel
theorem dX2_init_5 : decode cX2_init 5 = .ok (.invokestatic 9, 3) := by decide +kernel
theorem dX2_init_8 : decode cX2_init 8 = .ok (.putfield 13, 3) := by decide +kernel
theorem dX2_init_11 : decode cX2_init 11 = .ok (.aload_n 0, 1) := by decide +kernel
theorem dX2_init_12 : decode cX2_init 12 = .ok (.bipush 10, 2) := by decide +kernel
theorem dX2_init_14 : decode cX2_init 14 = .ok (.anewarray 19, 3) := by decide +kernel
theorem dX2_init_17 : decode cX2_init 17 = .ok (.putfield 21, 3) := by decide +kernel
theorem dX2_init_20 : decode cX2_init 20 = .ok (.aload_n 0, 1) := by decide +kernel
theorem dX2_init_21 : decode cX2_init 21 = .ok (.bipush 50, 2) := by decide +kernel
theorem dX2_init_23 : decode cX2_init 23 = .ok (.putfield 25, 3) := by decide +kernel
theorem dX2_init_26 : decode cX2_init 26 = .ok (.aload_n 0, 1) := by decide +kernel
theorem dX2_init_27 : decode cX2_init 27 = .ok (.bipush 10, 2) := by decide +kernel
theorem dX2_init_29 : decode cX2_init 29 = .ok (.newarray .int, 2) := by decide +kernel
theorem dX2_init_31 : decode cX2_init 31 = .ok (.putfield 29, 3) := by decide +kernel
theorem dX2_init_34 : decode cX2_init 34 = .ok (.aload_n 0, 1) := by decide +kernel
theorem dX2_init_35 : decode cX2_init 35 = .ok (.new 33, 3) := by decide +kernel
theorem dX2_init_38 : decode cX2_init 38 = .ok (.dup, 1) := by decide +kernel
theorem dX2_init_39 : decode cX2_init 39 = .ok (.invokespecial 35, 3) := by decide +kernel
theorem dX2_init_42 : decode cX2_init 42 = .ok (.putfield 36, 3) := by decide +kernel
theorem dX2_init_45 : decode cX2_init 45 = .ok (.iconst 0, 1) := by decide +kernel
theorem dX2_init_46 : decode cX2_init 46 = .ok (.istore_n 1, 1) := by decide +kernel
theorem dX2_init_47 : decode cX2_init 47 = .ok (.iload_n 1, 1) := by decide +kernel
theorem dX2_init_48 : decode cX2_init 48 = .ok (.bipush 10, 2) := by decide +kernel
theorem dX2_init_50 : decode cX2_init 50 = .ok (.if_icmp .ge 22, 3) := by decide +kernel
theorem dX2_init_53 : decode cX2_init 53 = .ok (.aload_n 0, 1) := by decide +kernel
theorem dX2_init_54 : decode cX2_init 54 = .ok (.getfield 21, 3) := by decide +kernel
theorem dX2_init_57 : decode cX2_init 57 = .ok (.iload_n 1, 1) := by decide +kernel
theorem dX2_init_58 : decode cX2_init 58 = .ok (.new 19, 3) := by decide +kernel
theorem dX2_init_61 : decode cX2_init 61 = .ok (.dup, 1) := by decide +kernel
theorem dX2_init_62 : decode cX2_init 62 = .ok (.invokespecial 40, 3) := by decide +kernel
theorem dX2_init_65 : decode cX2_init 65 = .ok (.aastore, 1) := by decide +kernel
theorem dX2_init_66 : decode cX2_init 66 = .ok (.iinc 1 1, 3) := by decide +kernel
theorem dX2_init_69 : decode cX2_init 69 = .ok (.goto (-22), 3) := by decide +kernel
theorem dX2_init_72 : decode cX2_init 72 = .ok (.return_, 1) := by decide +kernel
theorem dX2_hasLine_0 : decode cX2_hasLine 0 = .ok (.iload_n 1, 1) := by decide +kernel
theorem dX2_hasLine_1 : decode cX2_hasLine 1 = .ok (.ifCond .lt 15, 3) := by decide +kernel
theorem dX2_hasLine_4 : decode cX2_hasLine 4 = .ok (.iload_n 1, 1) := by decide +kernel
theorem dX2_hasLine_5 : decode cX2_hasLine 5 = .ok (.aload_n 0, 1) := by decide +kernel
theorem dX2_hasLine_6 : decode cX2_hasLine 6 = .ok (.getfield 41, 3) := by decide +kernel
theorem dX2_hasLine_9 : decode cX2_hasLine 9 = .ok (.if_icmp .ge 7, 3) := by decide +kernel
theorem dX2_hasLine_12 : decode cX2_hasLine 12 = .ok (.iconst 1, 1) := by decide +kernel
theorem dX2_hasLine_13 : decode cX2_hasLine 13 = .ok (.goto 4, 3) := by decide +kernel
theorem dX2_hasLine_16 : decode cX2_hasLine 16 = .ok (.iconst 0, 1) := by decide +kernel
theorem dX2_hasLine_17 : decode cX2_hasLine 17 = .ok (.ireturn, 1) := by decide +kernel
theorem dX2_hasHalt_0 : decode cX2_hasHalt 0 = .ok (.aload_n 0, 1) := by decide +kernel
theorem dX2_hasHalt_1 : decode cX2_hasHalt 1 = .ok (.iload_n 1, 1) := by decide +kernel
theorem dX2_hasHalt_2 : decode cX2_hasHalt 2 = .ok (.invokevirtual 44, 3) := by decide +kernel
theorem dX2_hasHalt_5 : decode cX2_hasHalt 5 = .ok (.ifCond .eq 20, 3) := by decide +kernel
theorem dX2_hasHalt_8 : decode cX2_hasHalt 8 = .ok (.aload_n 0, 1) := by decide +kernel
theorem dX2_hasHalt_9 : decode cX2_hasHalt 9 = .ok (.getfield 13, 3) := by decide +kernel
theorem dX2_hasHalt_12 : decode cX2_hasHalt 12 = .ok (.iload_n 1, 1) := by decide +kernel
theorem dX2_hasHalt_13 : decode cX2_hasHalt 13 = .ok (.aaload, 1) := by decide +kernel
theorem dX2_hasHalt_14 : decode cX2_hasHalt 14 = .ok (.iload_n 2, 1) := by decide +kernel
theorem dX2_hasHalt_15 : decode cX2_hasHalt 15 = .ok (.invokevirtual 48, 3) := by decide +kernel
theorem dX2_hasHalt_18 : decode cX2_hasHalt 18 = .ok (.ifCond .eq 7, 3) := by decide +kernel
theorem dX2_hasHalt_21 : decode cX2_hasHalt 21 = .ok (.iconst 1, 1) := by decide +kernel
theorem dX2_hasHalt_22 : decode cX2_hasHalt 22 = .ok (.goto 4, 3) := by decide +kernel
theorem dX2_hasHalt_25 : decode cX2_hasHalt 25 = .ok (.iconst 0, 1) := by decide +kernel
theorem dX2_hasHalt_26 : decode cX2_hasHalt 26 = .ok (.ireturn, 1) := by decide +kernel
theorem dX2_hasStep_0 : decode cX2_hasStep 0 = .ok (.aload_n 0, 1) := by decide +kernel
theorem dX2_hasStep_1 : decode cX2_hasStep 1 = .ok (.iload_n 1, 1) := by decide +kernel
theorem dX2_hasStep_2 : decode cX2_hasStep 2 = .ok (.invokevirtual 44, 3) := by decide +kernel
theorem dX2_hasStep_5 : decode cX2_hasStep 5 = .ok (.ifCond .eq 20, 3) := by decide +kernel
theorem dX2_hasStep_8 : decode cX2_hasStep 8 = .ok (.aload_n 0, 1) := by decide +kernel
theorem dX2_hasStep_9 : decode cX2_hasStep 9 = .ok (.getfield 13, 3) := by decide +kernel
theorem dX2_hasStep_12 : decode cX2_hasStep 12 = .ok (.iload_n 1, 1) := by decide +kernel
theorem dX2_hasStep_13 : decode cX2_hasStep 13 = .ok (.aaload, 1) := by decide +kernel
theorem dX2_hasStep_14 : decode cX2_hasStep 14 = .ok (.iload_n 2, 1) := by decide +kernel
theorem dX2_hasStep_15 : decode cX2_hasStep 15 = .ok (.invokevirtual 51, 3) := by decide +kernel
theorem dX2_hasStep_18 : decode cX2_hasStep 18 = .ok (.ifCond .eq 7, 3) := by decide +kernel
theorem dX2_hasStep_21 : decode cX2_hasStep 21 = .ok (.iconst 1, 1) := by decide +kernel
theorem dX2_hasStep_22 : decode cX2_hasStep 22 = .ok (.goto 4, 3) := by decide +kernel
theorem dX2_hasStep_25 : decode cX2_hasStep 25 = .ok (.iconst 0, 1) := by decide +kernel
theorem dX2_hasStep_26 : decode cX2_hasStep 26 = .ok (.ireturn, 1) := by decide +kernel
theorem dX2_replaceLines_0 : decode cX2_replaceLines 0 = .ok (.aload_n 0, 1) := by decide +kernel
theorem dX2_replaceLines_1 : decode cX2_replaceLines 1 = .ok (.getfield 13, 3) := by decide +kernel
theorem dX2_replaceLines_4 : decode cX2_replaceLines 4 = .ok (.astore_n 2, 1) := by decide +kernel
theorem dX2_replaceLines_5 : decode cX2_replaceLines 5 = .ok (.aload_n 0, 1) := by decide +kernel
theorem dX2_replaceLines_6 : decode cX2_replaceLines 6 = .ok (.aload_n 1, 1) := by decide +kernel
theorem dX2_replaceLines_7 : decode cX2_replaceLines 7 = .ok (.getfield 54, 3) := by decide +kernel
theorem dX2_replaceLines_10 : decode cX2_replaceLines 10 = .ok (.putfield 13, 3) := by decide +kernel
theorem dX2_replaceLines_13 : decode cX2_replaceLines 13 = .ok (.aload_n 1, 1) := by decide +kernel
theorem dX2_replaceLines_14 : decode cX2_replaceLines 14 = .ok (.aload_n 2, 1) := by decide +kernel
theorem dX2_replaceLines_15 : decode cX2_replaceLines 15 = .ok (.putfield 54, 3) := by decide +kernel
theorem dX2_replaceLines_18 : decode cX2_replaceLines 18 = .ok (.aload_n 0, 1) := by decide +kernel
theorem dX2_replaceLines_19 : decode cX2_replaceLines 19 = .ok (.aload_n 1, 1) := by decide +kernel
theorem dX2_replaceLines_20 : decode cX2_replaceLines 20 = .ok (.getfield 57, 3) := by decide +kernel
theorem dX2_replaceLines_23 : decode cX2_replaceLines 23 = .ok (.putfield 41, 3) := by decide +kernel
theorem dX2_replaceLines_26 : decode cX2_replaceLines 26 = .ok (.aload_n 0, 1) := by decide +kernel
theorem dX2_replaceLines_27 : decode cX2_replaceLines 27 = .ok (.iconst 0, 1) := by decide +kernel
theorem dX2_replaceLines_28 : decode cX2_replaceLines 28 = .ok (.putfield 60, 3) := by decide +kernel
theorem dX2_replaceLines_31 : decode cX2_replaceLines 31 = .ok (.iconst 0, 1) := by decide +kernel
theorem dX2_replaceLines_32 : decode cX2_replaceLines 32 = .ok (.istore_n 3, 1) := by decide +kernel
theorem dX2_replaceLines_33 : decode cX2_replaceLines 33 = .ok (.iload_n 3, 1) := by decide +kernel
theorem dX2_replaceLines_34 : decode cX2_replaceLines 34 = .ok (.bipush 10, 2) := by decide +kernel
theorem dX2_replaceLines_36 : decode cX2_replaceLines 36 = .ok (.if_icmp .ge 19, 3) := by decide +kernel
theorem dX2_replaceLines_39 : decode cX2_replaceLines 39 = .ok (.aload_n 0, 1) := by decide +kernel
theorem dX2_replaceLines_40 : decode cX2_replaceLines 40 = .ok (.getfield 21, 3) := by decide +kernel
theorem dX2_replaceLines_43 : decode cX2_replaceLines 43 = .ok (.iload_n 3, 1) := by decide +kernel
theorem dX2_replaceLines_44 : decode cX2_replaceLines 44 = .ok (.aaload, 1) := by decide +kernel
theorem dX2_replaceLines_45 : decode cX2_replaceLines 45 = .ok (.iconst 0, 1) := by decide +kernel
theorem dX2_replaceLines_46 : decode cX2_replaceLines 46 = .ok (.putfield 63, 3) := by decide +kernel
theorem dX2_replaceLines_49 : decode cX2_replaceLines 49 = .ok (.iinc 3 1, 3) := by decide +kernel
theorem dX2_replaceLines_52 : decode cX2_replaceLines 52 = .ok (.goto (-19), 3) := by decide +kernel
theorem dX2_replaceLines_55 : decode cX2_replaceLines 55 = .ok (.return_, 1) := by decide +kernel
theorem dX2_appendLines_0 : decode cX2_appendLines 0 = .ok (.iconst 0, 1) := by decide +kernel
theorem dX2_appendLines_1 : decode cX2_appendLines 1 = .ok (.istore_n 2, 1) := by decide +kernel
theorem dX2_appendLines_2 : decode cX2_appendLines 2 = .ok (.iload_n 2, 1) := by decide +kernel
theorem dX2_appendLines_3 : decode cX2_appendLines 3 = .ok (.aload_n 1, 1) := by decide +kernel
theorem dX2_appendLines_4 : decode cX2_appendLines 4 = .ok (.getfield 57, 3) := by decide +kernel
theorem dX2_appendLines_7 : decode cX2_appendLines 7 = .ok (.if_icmp .ge 60, 3) := by decide +kernel
theorem dX2_appendLines_10 : decode cX2_appendLines 10 = .ok (.aload_n 0, 1) := by decide +kernel
theorem dX2_appendLines_11 : decode cX2_appendLines 11 = .ok (.getfield 41, 3) := by decide +kernel
theorem dX2_appendLines_14 : decode cX2_appendLines 14 = .ok (.bipush 12, 2) := by decide +kernel
theorem dX2_appendLines_16 : decode cX2_appendLines 16 = .ok (.if_icmp .ge 51, 3) := by decide +kernel
theorem dX2_appendLines_19 : decode cX2_appendLines 19 = .ok (.aload_n 0, 1) := by decide +kernel
theorem dX2_appendLines_20 : decode cX2_appendLines 20 = .ok (.getfield 13, 3) := by decide +kernel
theorem dX2_appendLines_23 : decode cX2_appendLines 23 = .ok (.aload_n 0, 1) := by decide +kernel
theorem dX2_appendLines_24 : decode cX2_appendLines 24 = .ok (.getfield 41, 3) := by decide +kernel
theorem dX2_appendLines_27 : decode cX2_appendLines 27 = .ok (.aaload, 1) := by decide +kernel
theorem dX2_appendLines_28 : decode cX2_appendLines 28 = .ok (.astore_n 3, 1) := by decide +kernel
theorem dX2_appendLines_29 : decode cX2_appendLines 29 = .ok (.aload_n 0, 1) := by decide +kernel
theorem dX2_appendLines_30 : decode cX2_appendLines 30 = .ok (.getfield 13, 3) := by decide +kernel
theorem dX2_appendLines_33 : decode cX2_appendLines 33 = .ok (.aload_n 0, 1) := by decide +kernel
theorem dX2_appendLines_34 : decode cX2_appendLines 34 = .ok (.getfield 41, 3) := by decide +kernel
theorem dX2_appendLines_37 : decode cX2_appendLines 37 = .ok (.aload_n 1, 1) := by decide +kernel
theorem dX2_appendLines_38 : decode cX2_appendLines 38 = .ok (.getfield 54, 3) := by decide +kernel
theorem dX2_appendLines_41 : decode cX2_appendLines 41 = .ok (.iload_n 2, 1) := by decide +kernel
theorem dX2_appendLines_42 : decode cX2_appendLines 42 = .ok (.aaload, 1) := by decide +kernel
theorem dX2_appendLines_43 : decode cX2_appendLines 43 = .ok (.aastore, 1) := by decide +kernel
theorem dX2_appendLines_44 : decode cX2_appendLines 44 = .ok (.aload_n 1, 1) := by decide +kernel
theorem dX2_appendLines_45 : decode cX2_appendLines 45 = .ok (.getfield 54, 3) := by decide +kernel
theorem dX2_appendLines_48 : decode cX2_appendLines 48 = .ok (.iload_n 2, 1) := by decide +kernel
theorem dX2_appendLines_49 : decode cX2_appendLines 49 = .ok (.aload_n 3, 1) := by decide +kernel
theorem dX2_appendLines_50 : decode cX2_appendLines 50 = .ok (.aastore, 1) := by decide +kernel
theorem dX2_appendLines_51 : decode cX2_appendLines 51 = .ok (.aload_n 0, 1) := by decide +kernel
theorem dX2_appendLines_52 : decode cX2_appendLines 52 = .ok (.dup, 1) := by decide +kernel
theorem dX2_appendLines_53 : decode cX2_appendLines 53 = .ok (.getfield 41, 3) := by decide +kernel
theorem dX2_appendLines_56 : decode cX2_appendLines 56 = .ok (.iconst 1, 1) := by decide +kernel
theorem dX2_appendLines_57 : decode cX2_appendLines 57 = .ok (.iadd, 1) := by decide +kernel
theorem dX2_appendLines_58 : decode cX2_appendLines 58 = .ok (.putfield 41, 3) := by decide +kernel
theorem dX2_appendLines_61 : decode cX2_appendLines 61 = .ok (.iinc 2 1, 3) := by decide +kernel
theorem dX2_appendLines_64 : decode cX2_appendLines 64 = .ok (.goto (-62), 3) := by decide +kernel
theorem dX2_appendLines_67 : decode cX2_appendLines 67 = .ok (.return_, 1) := by decide +kernel
theorem dX2_removeLine_0 : decode cX2_removeLine 0 = .ok (.aload_n 0, 1) := by decide +kernel
theorem dX2_removeLine_1 : decode cX2_removeLine 1 = .ok (.getfield 13, 3) := by decide +kernel
theorem dX2_removeLine_4 : decode cX2_removeLine 4 = .ok (.iload_n 1, 1) := by decide +kernel
theorem dX2_removeLine_5 : decode cX2_removeLine 5 = .ok (.aaload, 1) := by decide +kernel
theorem dX2_removeLine_6 : decode cX2_removeLine 6 = .ok (.astore_n 2, 1) := by decide +kernel
theorem dX2_removeLine_7 : decode cX2_removeLine 7 = .ok (.iload_n 1, 1) := by decide +kernel
theorem dX2_removeLine_8 : decode cX2_removeLine 8 = .ok (.istore_n 3, 1) := by decide +kernel
theorem dX2_removeLine_9 : decode cX2_removeLine 9 = .ok (.iload_n 3, 1) := by decide +kernel
theorem dX2_removeLine_10 : decode cX2_removeLine 10 = .ok (.iconst 1, 1) := by decide +kernel
theorem dX2_removeLine_11 : decode cX2_removeLine 11 = .ok (.iadd, 1) := by decide +kernel
theorem dX2_removeLine_12 : decode cX2_removeLine 12 = .ok (.aload_n 0, 1) := by decide +kernel
theorem dX2_removeLine_13 : decode cX2_removeLine 13 = .ok (.getfield 41, 3) := by decide +kernel
theorem dX2_removeLine_16 : decode cX2_removeLine 16 = .ok (.if_icmp .ge 23, 3) := by decide +kernel
theorem dX2_removeLine_19 : decode cX2_removeLine 19 = .ok (.aload_n 0, 1) := by decide +kernel
theorem dX2_removeLine_20 : decode cX2_removeLine 20 = .ok (.getfield 13, 3) := by decide +kernel
theorem dX2_removeLine_23 : decode cX2_removeLine 23 = .ok (.iload_n 3, 1) := by decide +kernel
theorem dX2_removeLine_24 : decode cX2_removeLine 24 = .ok (.aload_n 0, 1) := by decide +kernel
theorem dX2_removeLine_25 : decode cX2_removeLine 25 = .ok (.getfield 13, 3) := by decide +kernel
theorem dX2_removeLine_28 : decode cX2_removeLine 28 = .ok (.iload_n 3, 1) := by decide +kernel
theorem dX2_removeLine_29 : decode cX2_removeLine 29 = .ok (.iconst 1, 1) := by decide +kernel
theorem dX2_removeLine_30 : decode cX2_removeLine 30 = .ok (.iadd, 1) := by decide +kernel
theorem dX2_removeLine_31 : decode cX2_removeLine 31 = .ok (.aaload, 1) := by decide +kernel
theorem dX2_removeLine_32 : decode cX2_removeLine 32 = .ok (.aastore, 1) := by decide +kernel
theorem dX2_removeLine_33 : decode cX2_removeLine 33 = .ok (.iinc 3 1, 3) := by decide +kernel
theorem dX2_removeLine_36 : decode cX2_removeLine 36 = .ok (.goto (-27), 3) := by decide +kernel
theorem dX2_removeLine_39 : decode cX2_removeLine 39 = .ok (.aload_n 0, 1) := by decide +kernel
theorem dX2_removeLine_40 : decode cX2_removeLine 40 = .ok (.dup, 1) := by decide +kernel
theorem dX2_removeLine_41 : decode cX2_removeLine 41 = .ok (.getfield 41, 3) := by decide +kernel
theorem dX2_removeLine_44 : decode cX2_removeLine 44 = .ok (.iconst 1, 1) := by decide +kernel
theorem dX2_removeLine_45 : decode cX2_removeLine 45 = .ok (.isub, 1) := by decide +kernel
theorem dX2_removeLine_46 : decode cX2_removeLine 46 = .ok (.putfield 41, 3) := by decide +kernel
theorem dX2_removeLine_49 : decode cX2_removeLine 49 = .ok (.aload_n 0, 1) := by decide +kernel
theorem dX2_removeLine_50 : decode cX2_removeLine 50 = .ok (.getfield 13, 3) := by decide +kernel
theorem dX2_removeLine_53 : decode cX2_removeLine 53 = .ok (.aload_n 0, 1) := by decide +kernel
theorem dX2_removeLine_54 : decode cX2_removeLine 54 = .ok (.getfield 41, 3) := by decide +kernel
theorem dX2_removeLine_57 : decode cX2_removeLine 57 = .ok (.aload_n 2, 1) := by decide +kernel
theorem dX2_removeLine_58 : decode cX2_removeLine 58 = .ok (.aastore, 1) := by decide +kernel
theorem dX2_removeLine_59 : decode cX2_removeLine 59 = .ok (.return_, 1) := by decide +kernel
theorem dX2_outLines_0 : decode cX2_outLines 0 = .ok (.iconst 0, 1) := by decide +kernel
theorem dX2_outLines_1 : decode cX2_outLines 1 = .ok (.istore_n 1, 1) := by decide +kernel
theorem dX2_outLines_2 : decode cX2_outLines 2 = .ok (.iconst 0, 1) := by decide +kernel
theorem dX2_outLines_3 : decode cX2_outLines 3 = .ok (.istore_n 2, 1) := by decide +kernel
theorem dX2_outLines_4 : decode cX2_outLines 4 = .ok (.iload_n 2, 1) := by decide +kernel
theorem dX2_outLines_5 : decode cX2_outLines 5 = .ok (.aload_n 0, 1) := by decide +kernel
theorem dX2_outLines_6 : decode cX2_outLines 6 = .ok (.getfield 41, 3) := by decide +kernel
theorem dX2_outLines_9 : decode cX2_outLines 9 = .ok (.if_icmp .ge 26, 3) := by decide +kernel
theorem dX2_outLines_12 : decode cX2_outLines 12 = .ok (.iload_n 1, 1) := by decide +kernel
theorem dX2_outLines_13 : decode cX2_outLines 13 = .ok (.aload_n 0, 1) := by decide +kernel
theorem dX2_outLines_14 : decode cX2_outLines 14 = .ok (.getfield 13, 3) := by decide +kernel
theorem dX2_outLines_17 : decode cX2_outLines 17 = .ok (.iload_n 2, 1) := by decide +kernel
theorem dX2_outLines_18 : decode cX2_outLines 18 = .ok (.aaload, 1) := by decide +kernel
theorem dX2_outLines_19 : decode cX2_outLines 19 = .ok (.getfield 67, 3) := by decide +kernel
theorem dX2_outLines_22 : decode cX2_outLines 22 = .ok (.invokestatic 70, 3) := by decide +kernel
theorem dX2_outLines_25 : decode cX2_outLines 25 = .ok (.iload_n 2, 1) := by decide +kernel
theorem dX2_outLines_26 : decode cX2_outLines 26 = .ok (.ishl, 1) := by decide +kernel
theorem dX2_outLines_27 : decode cX2_outLines 27 = .ok (.ior, 1) := by decide +kernel
theorem dX2_outLines_28 : decode cX2_outLines 28 = .ok (.istore_n 1, 1) := by decide +kernel
theorem dX2_outLines_29 : decode cX2_outLines 29 = .ok (.iinc 2 1, 3) := by decide +kernel
theorem dX2_outLines_32 : decode cX2_outLines 32 = .ok (.goto (-28), 3) := by decide +kernel
theorem dX2_outLines_35 : decode cX2_outLines 35 = .ok (.iload_n 1, 1) := by decide +kernel
theorem dX2_outLines_36 : decode cX2_outLines 36 = .ok (.ireturn, 1) := by decide +kernel
theorem dX2_bringBack_0 : decode cX2_bringBack 0 = .ok (.iconst 0, 1) := by decide +kernel
theorem dX2_bringBack_1 : decode cX2_bringBack 1 = .ok (.istore_n 2, 1) := by decide +kernel
theorem dX2_bringBack_2 : decode cX2_bringBack 2 = .ok (.iload_n 2, 1) := by decide +kernel
theorem dX2_bringBack_3 : decode cX2_bringBack 3 = .ok (.aload_n 0, 1) := by decide +kernel
theorem dX2_bringBack_4 : decode cX2_bringBack 4 = .ok (.getfield 41, 3) := by decide +kernel
theorem dX2_bringBack_7 : decode cX2_bringBack 7 = .ok (.if_icmp .ge 28, 3) := by decide +kernel
theorem dX2_bringBack_10 : decode cX2_bringBack 10 = .ok (.iload_n 1, 1) := by decide +kernel
theorem dX2_bringBack_11 : decode cX2_bringBack 11 = .ok (.iload_n 2, 1) := by decide +kernel
theorem dX2_bringBack_12 : decode cX2_bringBack 12 = .ok (.ishr, 1) := by decide +kernel
theorem dX2_bringBack_13 : decode cX2_bringBack 13 = .ok (.iconst 1, 1) := by decide +kernel
theorem dX2_bringBack_14 : decode cX2_bringBack 14 = .ok (.iand, 1) := by decide +kernel
theorem dX2_bringBack_15 : decode cX2_bringBack 15 = .ok (.iconst 1, 1) := by decide +kernel
theorem dX2_bringBack_16 : decode cX2_bringBack 16 = .ok (.if_icmp .ne 13, 3) := by decide +kernel
theorem dX2_bringBack_19 : decode cX2_bringBack 19 = .ok (.aload_n 0, 1) := by decide +kernel
theorem dX2_bringBack_20 : decode cX2_bringBack 20 = .ok (.getfield 13, 3) := by decide +kernel
theorem dX2_bringBack_23 : decode cX2_bringBack 23 = .ok (.iload_n 2, 1) := by decide +kernel
theorem dX2_bringBack_24 : decode cX2_bringBack 24 = .ok (.aaload, 1) := by decide +kernel
theorem dX2_bringBack_25 : decode cX2_bringBack 25 = .ok (.iconst 0, 1) := by decide +kernel
theorem dX2_bringBack_26 : decode cX2_bringBack 26 = .ok (.putfield 67, 3) := by decide +kernel
theorem dX2_bringBack_29 : decode cX2_bringBack 29 = .ok (.iinc 2 1, 3) := by decide +kernel
theorem dX2_bringBack_32 : decode cX2_bringBack 32 = .ok (.goto (-30), 3) := by decide +kernel
theorem dX2_bringBack_35 : decode cX2_bringBack 35 = .ok (.return_, 1) := by decide +kernel
theorem dX2_closedStops_0 : decode cX2_closedStops 0 = .ok (.iconst 0, 1) := by decide +kernel
theorem dX2_closedStops_1 : decode cX2_closedStops 1 = .ok (.istore_n 1, 1) := by decide +kernel
theorem dX2_closedStops_2 : decode cX2_closedStops 2 = .ok (.iconst 0, 1) := by decide +kernel
theorem dX2_closedStops_3 : decode cX2_closedStops 3 = .ok (.istore_n 2, 1) := by decide +kernel
theorem dX2_closedStops_4 : decode cX2_closedStops 4 = .ok (.iload_n 2, 1) := by decide +kernel
theorem dX2_closedStops_5 : decode cX2_closedStops 5 = .ok (.bipush 10, 2) := by decide +kernel
theorem dX2_closedStops_7 : decode cX2_closedStops 7 = .ok (.if_icmp .ge 26, 3) := by decide +kernel
theorem dX2_closedStops_10 : decode cX2_closedStops 10 = .ok (.iload_n 1, 1) := by decide +kernel
theorem dX2_closedStops_11 : decode cX2_closedStops 11 = .ok (.aload_n 0, 1) := by decide +kernel
theorem dX2_closedStops_12 : decode cX2_closedStops 12 = .ok (.getfield 21, 3) := by decide +kernel
theorem dX2_closedStops_15 : decode cX2_closedStops 15 = .ok (.iload_n 2, 1) := by decide +kernel
theorem dX2_closedStops_16 : decode cX2_closedStops 16 = .ok (.aaload, 1) := by decide +kernel
theorem dX2_closedStops_17 : decode cX2_closedStops 17 = .ok (.getfield 63, 3) := by decide +kernel
theorem dX2_closedStops_20 : decode cX2_closedStops 20 = .ok (.invokestatic 70, 3) := by decide +kernel
theorem dX2_closedStops_23 : decode cX2_closedStops 23 = .ok (.iload_n 2, 1) := by decide +kernel
theorem dX2_closedStops_24 : decode cX2_closedStops 24 = .ok (.ishl, 1) := by decide +kernel
theorem dX2_closedStops_25 : decode cX2_closedStops 25 = .ok (.ior, 1) := by decide +kernel
theorem dX2_closedStops_26 : decode cX2_closedStops 26 = .ok (.istore_n 1, 1) := by decide +kernel
theorem dX2_closedStops_27 : decode cX2_closedStops 27 = .ok (.iinc 2 1, 3) := by decide +kernel
theorem dX2_closedStops_30 : decode cX2_closedStops 30 = .ok (.goto (-26), 3) := by decide +kernel
theorem dX2_closedStops_33 : decode cX2_closedStops 33 = .ok (.iload_n 1, 1) := by decide +kernel
theorem dX2_closedStops_34 : decode cX2_closedStops 34 = .ok (.ireturn, 1) := by decide +kernel
theorem dX2_allRiders_0 : decode cX2_allRiders 0 = .ok (.iconst 0, 1) := by decide +kernel
theorem dX2_allRiders_1 : decode cX2_allRiders 1 = .ok (.istore_n 1, 1) := by decide +kernel
theorem dX2_allRiders_2 : decode cX2_allRiders 2 = .ok (.iconst 0, 1) := by decide +kernel
theorem dX2_allRiders_3 : decode cX2_allRiders 3 = .ok (.istore_n 2, 1) := by decide +kernel
theorem dX2_allRiders_4 : decode cX2_allRiders 4 = .ok (.iload_n 2, 1) := by decide +kernel
theorem dX2_allRiders_5 : decode cX2_allRiders 5 = .ok (.bipush 10, 2) := by decide +kernel
theorem dX2_allRiders_7 : decode cX2_allRiders 7 = .ok (.if_icmp .ge 21, 3) := by decide +kernel
theorem dX2_allRiders_10 : decode cX2_allRiders 10 = .ok (.iload_n 1, 1) := by decide +kernel
theorem dX2_allRiders_11 : decode cX2_allRiders 11 = .ok (.aload_n 0, 1) := by decide +kernel
theorem dX2_allRiders_12 : decode cX2_allRiders 12 = .ok (.getfield 21, 3) := by decide +kernel
theorem dX2_allRiders_15 : decode cX2_allRiders 15 = .ok (.iload_n 2, 1) := by decide +kernel
theorem dX2_allRiders_16 : decode cX2_allRiders 16 = .ok (.aaload, 1) := by decide +kernel
theorem dX2_allRiders_17 : decode cX2_allRiders 17 = .ok (.getfield 74, 3) := by decide +kernel
theorem dX2_allRiders_20 : decode cX2_allRiders 20 = .ok (.iadd, 1) := by decide +kernel
theorem dX2_allRiders_21 : decode cX2_allRiders 21 = .ok (.istore_n 1, 1) := by decide +kernel
theorem dX2_allRiders_22 : decode cX2_allRiders 22 = .ok (.iinc 2 1, 3) := by decide +kernel
theorem dX2_allRiders_25 : decode cX2_allRiders 25 = .ok (.goto (-21), 3) := by decide +kernel
theorem dX2_allRiders_28 : decode cX2_allRiders 28 = .ok (.iload_n 1, 1) := by decide +kernel
theorem dX2_allRiders_29 : decode cX2_allRiders 29 = .ok (.ireturn, 1) := by decide +kernel
theorem dX2_allSteps_0 : decode cX2_allSteps 0 = .ok (.iconst 0, 1) := by decide +kernel
theorem dX2_allSteps_1 : decode cX2_allSteps 1 = .ok (.istore_n 1, 1) := by decide +kernel
theorem dX2_allSteps_2 : decode cX2_allSteps 2 = .ok (.iconst 0, 1) := by decide +kernel
theorem dX2_allSteps_3 : decode cX2_allSteps 3 = .ok (.istore_n 2, 1) := by decide +kernel
theorem dX2_allSteps_4 : decode cX2_allSteps 4 = .ok (.iload_n 2, 1) := by decide +kernel
theorem dX2_allSteps_5 : decode cX2_allSteps 5 = .ok (.aload_n 0, 1) := by decide +kernel
theorem dX2_allSteps_6 : decode cX2_allSteps 6 = .ok (.getfield 41, 3) := by decide +kernel
theorem dX2_allSteps_9 : decode cX2_allSteps 9 = .ok (.if_icmp .ge 23, 3) := by decide +kernel
theorem dX2_allSteps_12 : decode cX2_allSteps 12 = .ok (.iload_n 1, 1) := by decide +kernel
theorem dX2_allSteps_13 : decode cX2_allSteps 13 = .ok (.aload_n 0, 1) := by decide +kernel
theorem dX2_allSteps_14 : decode cX2_allSteps 14 = .ok (.getfield 13, 3) := by decide +kernel
theorem dX2_allSteps_17 : decode cX2_allSteps 17 = .ok (.iload_n 2, 1) := by decide +kernel
theorem dX2_allSteps_18 : decode cX2_allSteps 18 = .ok (.aaload, 1) := by decide +kernel
theorem dX2_allSteps_19 : decode cX2_allSteps 19 = .ok (.getfield 77, 3) := by decide +kernel
theorem dX2_allSteps_22 : decode cX2_allSteps 22 = .ok (.iconst 1, 1) := by decide +kernel
theorem dX2_allSteps_23 : decode cX2_allSteps 23 = .ok (.isub, 1) := by decide +kernel
theorem dX2_allSteps_24 : decode cX2_allSteps 24 = .ok (.iadd, 1) := by decide +kernel
theorem dX2_allSteps_25 : decode cX2_allSteps 25 = .ok (.istore_n 1, 1) := by decide +kernel
theorem dX2_allSteps_26 : decode cX2_allSteps 26 = .ok (.iinc 2 1, 3) := by decide +kernel
theorem dX2_allSteps_29 : decode cX2_allSteps 29 = .ok (.goto (-25), 3) := by decide +kernel
theorem dX2_allSteps_32 : decode cX2_allSteps 32 = .ok (.iload_n 1, 1) := by decide +kernel
theorem dX2_allSteps_33 : decode cX2_allSteps 33 = .ok (.ireturn, 1) := by decide +kernel
theorem dX2_waitingWeight_0 : decode cX2_waitingWeight 0 = .ok (.ldc2_w 80, 3) := by decide +kernel
theorem dX2_waitingWeight_3 : decode cX2_waitingWeight 3 = .ok (.aload_n 0, 1) := by decide +kernel
theorem dX2_waitingWeight_4 : decode cX2_waitingWeight 4 = .ok (.getfield 25, 3) := by decide +kernel
theorem dX2_waitingWeight_7 : decode cX2_waitingWeight 7 = .ok (.i2l, 1) := by decide +kernel
theorem dX2_waitingWeight_8 : decode cX2_waitingWeight 8 = .ok (.lmul, 1) := by decide +kernel
theorem dX2_waitingWeight_9 : decode cX2_waitingWeight 9 = .ok (.lreturn, 1) := by decide +kernel
theorem dX2_findCosts_0 : decode cX2_findCosts 0 = .ok (.iconst 0, 1) := by decide +kernel
theorem dX2_findCosts_1 : decode cX2_findCosts 1 = .ok (.istore_n 1, 1) := by decide +kernel
theorem dX2_findCosts_2 : decode cX2_findCosts 2 = .ok (.iload_n 1, 1) := by decide +kernel
theorem dX2_findCosts_3 : decode cX2_findCosts 3 = .ok (.bipush 10, 2) := by decide +kernel
theorem dX2_findCosts_5 : decode cX2_findCosts 5 = .ok (.if_icmp .ge 43, 3) := by decide +kernel
theorem dX2_findCosts_8 : decode cX2_findCosts 8 = .ok (.aload_n 0, 1) := by decide +kernel
theorem dX2_findCosts_9 : decode cX2_findCosts 9 = .ok (.getfield 21, 3) := by decide +kernel
theorem dX2_findCosts_12 : decode cX2_findCosts 12 = .ok (.iload_n 1, 1) := by decide +kernel
theorem dX2_findCosts_13 : decode cX2_findCosts 13 = .ok (.aaload, 1) := by decide +kernel
theorem dX2_findCosts_14 : decode cX2_findCosts 14 = .ok (.iload_n 1, 1) := by decide +kernel
theorem dX2_findCosts_15 : decode cX2_findCosts 15 = .ok (.aload_n 0, 1) := by decide +kernel
theorem dX2_findCosts_16 : decode cX2_findCosts 16 = .ok (.getfield 82, 3) := by decide +kernel
theorem dX2_findCosts_19 : decode cX2_findCosts 19 = .ok (.if_icmp .ne 19, 3) := by decide +kernel
theorem dX2_findCosts_22 : decode cX2_findCosts 22 = .ok (.aload_n 0, 1) := by decide +kernel
theorem dX2_findCosts_23 : decode cX2_findCosts 23 = .ok (.getfield 21, 3) := by decide +kernel
theorem dX2_findCosts_26 : decode cX2_findCosts 26 = .ok (.iload_n 1, 1) := by decide +kernel
theorem dX2_findCosts_27 : decode cX2_findCosts 27 = .ok (.aaload, 1) := by decide +kernel
theorem dX2_findCosts_28 : decode cX2_findCosts 28 = .ok (.getfield 63, 3) := by decide +kernel
theorem dX2_findCosts_31 : decode cX2_findCosts 31 = .ok (.ifCond .ne 7, 3) := by decide +kernel
theorem dX2_findCosts_34 : decode cX2_findCosts 34 = .ok (.iconst 0, 1) := by decide +kernel
theorem dX2_findCosts_35 : decode cX2_findCosts 35 = .ok (.goto 4, 3) := by decide +kernel
theorem dX2_findCosts_38 : decode cX2_findCosts 38 = .ok (.iconst (-1), 1) := by decide +kernel
theorem dX2_findCosts_39 : decode cX2_findCosts 39 = .ok (.putfield 85, 3) := by decide +kernel
theorem dX2_findCosts_42 : decode cX2_findCosts 42 = .ok (.iinc 1 1, 3) := by decide +kernel
theorem dX2_findCosts_45 : decode cX2_findCosts 45 = .ok (.goto (-43), 3) := by decide +kernel
theorem dX2_findCosts_48 : decode cX2_findCosts 48 = .ok (.aload_n 0, 1) := by decide +kernel
theorem dX2_findCosts_49 : decode cX2_findCosts 49 = .ok (.iconst 0, 1) := by decide +kernel
theorem dX2_findCosts_50 : decode cX2_findCosts 50 = .ok (.putfield 88, 3) := by decide +kernel
theorem dX2_findCosts_53 : decode cX2_findCosts 53 = .ok (.iconst 1, 1) := by decide +kernel
theorem dX2_findCosts_54 : decode cX2_findCosts 54 = .ok (.istore_n 1, 1) := by decide +kernel
theorem dX2_findCosts_55 : decode cX2_findCosts 55 = .ok (.iload_n 1, 1) := by decide +kernel
theorem dX2_findCosts_56 : decode cX2_findCosts 56 = .ok (.ifCond .eq 35, 3) := by decide +kernel
theorem dX2_findCosts_59 : decode cX2_findCosts 59 = .ok (.aload_n 0, 1) := by decide +kernel
theorem dX2_findCosts_60 : decode cX2_findCosts 60 = .ok (.getfield 88, 3) := by decide +kernel
theorem dX2_findCosts_63 : decode cX2_findCosts 63 = .ok (.sipush 1000, 3) := by decide +kernel
theorem dX2_findCosts_66 : decode cX2_findCosts 66 = .ok (.if_icmp .ge 25, 3) := by decide +kernel
theorem dX2_findCosts_69 : decode cX2_findCosts 69 = .ok (.aload_n 0, 1) := by decide +kernel
theorem dX2_findCosts_70 : decode cX2_findCosts 70 = .ok (.invokevirtual 91, 3) := by decide +kernel
theorem dX2_findCosts_73 : decode cX2_findCosts 73 = .ok (.aload_n 0, 1) := by decide +kernel
theorem dX2_findCosts_74 : decode cX2_findCosts 74 = .ok (.invokevirtual 94, 3) := by decide +kernel
theorem dX2_findCosts_77 : decode cX2_findCosts 77 = .ok (.istore_n 1, 1) := by decide +kernel
theorem dX2_findCosts_78 : decode cX2_findCosts 78 = .ok (.aload_n 0, 1) := by decide +kernel
theorem dX2_findCosts_79 : decode cX2_findCosts 79 = .ok (.dup, 1) := by decide +kernel
theorem dX2_findCosts_80 : decode cX2_findCosts 80 = .ok (.getfield 88, 3) := by decide +kernel
theorem dX2_findCosts_83 : decode cX2_findCosts 83 = .ok (.iconst 1, 1) := by decide +kernel
theorem dX2_findCosts_84 : decode cX2_findCosts 84 = .ok (.iadd, 1) := by decide +kernel
theorem dX2_findCosts_85 : decode cX2_findCosts 85 = .ok (.putfield 88, 3) := by decide +kernel
theorem dX2_findCosts_88 : decode cX2_findCosts 88 = .ok (.goto (-33), 3) := by decide +kernel
theorem dX2_findCosts_91 : decode cX2_findCosts 91 = .ok (.return_, 1) := by decide +kernel
theorem dX2_collectOffers_0 : decode cX2_collectOffers 0 = .ok (.iconst 0, 1) := by decide +kernel
theorem dX2_collectOffers_1 : decode cX2_collectOffers 1 = .ok (.istore_n 1, 1) := by decide +kernel
theorem dX2_collectOffers_2 : decode cX2_collectOffers 2 = .ok (.iload_n 1, 1) := by decide +kernel
theorem dX2_collectOffers_3 : decode cX2_collectOffers 3 = .ok (.bipush 10, 2) := by decide +kernel
theorem dX2_collectOffers_5 : decode cX2_collectOffers 5 = .ok (.if_icmp .ge 18, 3) := by decide +kernel
theorem dX2_collectOffers_8 : decode cX2_collectOffers 8 = .ok (.aload_n 0, 1) := by decide +kernel
theorem dX2_collectOffers_9 : decode cX2_collectOffers 9 = .ok (.getfield 21, 3) := by decide +kernel
theorem dX2_collectOffers_12 : decode cX2_collectOffers 12 = .ok (.iload_n 1, 1) := by decide +kernel
theorem dX2_collectOffers_13 : decode cX2_collectOffers 13 = .ok (.aaload, 1) := by decide +kernel
theorem dX2_collectOffers_14 : decode cX2_collectOffers 14 = .ok (.invokevirtual 98, 3) := by decide +kernel
theorem dX2_collectOffers_17 : decode cX2_collectOffers 17 = .ok (.iinc 1 1, 3) := by decide +kernel
theorem dX2_collectOffers_20 : decode cX2_collectOffers 20 = .ok (.goto (-18), 3) := by decide +kernel
theorem dX2_collectOffers_23 : decode cX2_collectOffers 23 = .ok (.iconst 0, 1) := by decide +kernel
theorem dX2_collectOffers_24 : decode cX2_collectOffers 24 = .ok (.istore_n 1, 1) := by decide +kernel
theorem dX2_collectOffers_25 : decode cX2_collectOffers 25 = .ok (.iload_n 1, 1) := by decide +kernel
theorem dX2_collectOffers_26 : decode cX2_collectOffers 26 = .ok (.aload_n 0, 1) := by decide +kernel
theorem dX2_collectOffers_27 : decode cX2_collectOffers 27 = .ok (.getfield 41, 3) := by decide +kernel
theorem dX2_collectOffers_30 : decode cX2_collectOffers 30 = .ok (.if_icmp .ge 107, 3) := by decide +kernel
theorem dX2_collectOffers_33 : decode cX2_collectOffers 33 = .ok (.aload_n 0, 1) := by decide +kernel
theorem dX2_collectOffers_34 : decode cX2_collectOffers 34 = .ok (.getfield 13, 3) := by decide +kernel
theorem dX2_collectOffers_37 : decode cX2_collectOffers 37 = .ok (.iload_n 1, 1) := by decide +kernel
theorem dX2_collectOffers_38 : decode cX2_collectOffers 38 = .ok (.aaload, 1) := by decide +kernel
theorem dX2_collectOffers_39 : decode cX2_collectOffers 39 = .ok (.astore_n 2, 1) := by decide +kernel
theorem dX2_collectOffers_40 : decode cX2_collectOffers 40 = .ok (.aload_n 2, 1) := by decide +kernel
theorem dX2_collectOffers_41 : decode cX2_collectOffers 41 = .ok (.aload_n 0, 1) := by decide +kernel
theorem dX2_collectOffers_42 : decode cX2_collectOffers 42 = .ok (.getfield 21, 3) := by decide +kernel
theorem dX2_collectOffers_45 : decode cX2_collectOffers 45 = .ok (.invokevirtual 101, 3) := by decide +kernel
theorem dX2_collectOffers_48 : decode cX2_collectOffers 48 = .ok (.iconst 0, 1) := by decide +kernel
theorem dX2_collectOffers_49 : decode cX2_collectOffers 49 = .ok (.istore_n 3, 1) := by decide +kernel
theorem dX2_collectOffers_50 : decode cX2_collectOffers 50 = .ok (.iload_n 3, 1) := by decide +kernel
theorem dX2_collectOffers_51 : decode cX2_collectOffers 51 = .ok (.aload_n 2, 1) := by decide +kernel
theorem dX2_collectOffers_52 : decode cX2_collectOffers 52 = .ok (.getfield 77, 3) := by decide +kernel
theorem dX2_collectOffers_55 : decode cX2_collectOffers 55 = .ok (.iconst 1, 1) := by decide +kernel
theorem dX2_collectOffers_56 : decode cX2_collectOffers 56 = .ok (.isub, 1) := by decide +kernel
theorem dX2_collectOffers_57 : decode cX2_collectOffers 57 = .ok (.if_icmp .ge 74, 3) := by decide +kernel
theorem dX2_collectOffers_60 : decode cX2_collectOffers 60 = .ok (.aload_n 2, 1) := by decide +kernel
theorem dX2_collectOffers_61 : decode cX2_collectOffers 61 = .ok (.getfield 67, 3) := by decide +kernel
theorem dX2_collectOffers_64 : decode cX2_collectOffers 64 = .ok (.ifCond .ne 67, 3) := by decide +kernel
theorem dX2_collectOffers_67 : decode cX2_collectOffers 67 = .ok (.aload_n 2, 1) := by decide +kernel
theorem dX2_collectOffers_68 : decode cX2_collectOffers 68 = .ok (.getfield 105, 3) := by decide +kernel
theorem dX2_collectOffers_71 : decode cX2_collectOffers 71 = .ok (.iload_n 3, 1) := by decide +kernel
theorem dX2_collectOffers_72 : decode cX2_collectOffers 72 = .ok (.iaload, 1) := by decide +kernel
theorem dX2_collectOffers_73 : decode cX2_collectOffers 73 = .ok (.istore 4, 2) := by decide +kernel
theorem dX2_collectOffers_75 : decode cX2_collectOffers 75 = .ok (.aload_n 2, 1) := by decide +kernel
theorem dX2_collectOffers_76 : decode cX2_collectOffers 76 = .ok (.getfield 107, 3) := by decide +kernel
theorem dX2_collectOffers_79 : decode cX2_collectOffers 79 = .ok (.iload_n 3, 1) := by decide +kernel
theorem dX2_collectOffers_80 : decode cX2_collectOffers 80 = .ok (.iaload, 1) := by decide +kernel
theorem dX2_collectOffers_81 : decode cX2_collectOffers 81 = .ok (.iconst (-1), 1) := by decide +kernel
theorem dX2_collectOffers_82 : decode cX2_collectOffers 82 = .ok (.if_icmp .eq 43, 3) := by decide +kernel
theorem dX2_collectOffers_85 : decode cX2_collectOffers 85 = .ok (.iload 4, 2) := by decide +kernel
theorem dX2_collectOffers_87 : decode cX2_collectOffers 87 = .ok (.aload_n 0, 1) := by decide +kernel
theorem dX2_collectOffers_88 : decode cX2_collectOffers 88 = .ok (.getfield 82, 3) := by decide +kernel
theorem dX2_collectOffers_91 : decode cX2_collectOffers 91 = .ok (.if_icmp .eq 34, 3) := by decide +kernel
theorem dX2_collectOffers_94 : decode cX2_collectOffers 94 = .ok (.aload_n 0, 1) := by decide +kernel
theorem dX2_collectOffers_95 : decode cX2_collectOffers 95 = .ok (.getfield 21, 3) := by decide +kernel
theorem dX2_collectOffers_98 : decode cX2_collectOffers 98 = .ok (.iload 4, 2) := by decide +kernel
theorem dX2_collectOffers_100 : decode cX2_collectOffers 100 = .ok (.aaload, 1) := by decide +kernel
theorem dX2_collectOffers_101 : decode cX2_collectOffers 101 = .ok (.getfield 63, 3) := by decide +kernel
theorem dX2_collectOffers_104 : decode cX2_collectOffers 104 = .ok (.ifCond .ne 21, 3) := by decide +kernel
theorem dX2_collectOffers_107 : decode cX2_collectOffers 107 = .ok (.aload_n 0, 1) := by decide +kernel
theorem dX2_collectOffers_108 : decode cX2_collectOffers 108 = .ok (.getfield 21, 3) := by decide +kernel
theorem dX2_collectOffers_111 : decode cX2_collectOffers 111 = .ok (.iload 4, 2) := by decide +kernel
theorem dX2_collectOffers_113 : decode cX2_collectOffers 113 = .ok (.aaload, 1) := by decide +kernel
theorem dX2_collectOffers_114 : decode cX2_collectOffers 114 = .ok (.iload_n 1, 1) := by decide +kernel
theorem dX2_collectOffers_115 : decode cX2_collectOffers 115 = .ok (.iload_n 3, 1) := by decide +kernel
theorem dX2_collectOffers_116 : decode cX2_collectOffers 116 = .ok (.aload_n 2, 1) := by decide +kernel
theorem dX2_collectOffers_117 : decode cX2_collectOffers 117 = .ok (.getfield 107, 3) := by decide +kernel
theorem dX2_collectOffers_120 : decode cX2_collectOffers 120 = .ok (.iload_n 3, 1) := by decide +kernel
theorem dX2_collectOffers_121 : decode cX2_collectOffers 121 = .ok (.iaload, 1) := by decide +kernel
theorem dX2_collectOffers_122 : decode cX2_collectOffers 122 = .ok (.invokevirtual 110, 3) := by decide +kernel
theorem dX2_collectOffers_125 : decode cX2_collectOffers 125 = .ok (.iinc 3 1, 3) := by decide +kernel
theorem dX2_collectOffers_128 : decode cX2_collectOffers 128 = .ok (.goto (-78), 3) := by decide +kernel
theorem dX2_collectOffers_131 : decode cX2_collectOffers 131 = .ok (.iinc 1 1, 3) := by decide +kernel
theorem dX2_collectOffers_134 : decode cX2_collectOffers 134 = .ok (.goto (-109), 3) := by decide +kernel
theorem dX2_collectOffers_137 : decode cX2_collectOffers 137 = .ok (.return_, 1) := by decide +kernel
theorem dX2_chooseAll_0 : decode cX2_chooseAll 0 = .ok (.iconst 0, 1) := by decide +kernel
theorem dX2_chooseAll_1 : decode cX2_chooseAll 1 = .ok (.istore_n 1, 1) := by decide +kernel
theorem dX2_chooseAll_2 : decode cX2_chooseAll 2 = .ok (.iconst 0, 1) := by decide +kernel
theorem dX2_chooseAll_3 : decode cX2_chooseAll 3 = .ok (.istore_n 2, 1) := by decide +kernel
theorem dX2_chooseAll_4 : decode cX2_chooseAll 4 = .ok (.iload_n 2, 1) := by decide +kernel
theorem dX2_chooseAll_5 : decode cX2_chooseAll 5 = .ok (.bipush 10, 2) := by decide +kernel
theorem dX2_chooseAll_7 : decode cX2_chooseAll 7 = .ok (.if_icmp .ge 72, 3) := by decide +kernel
theorem dX2_chooseAll_10 : decode cX2_chooseAll 10 = .ok (.aload_n 0, 1) := by decide +kernel
theorem dX2_chooseAll_11 : decode cX2_chooseAll 11 = .ok (.getfield 21, 3) := by decide +kernel
theorem dX2_chooseAll_14 : decode cX2_chooseAll 14 = .ok (.iload_n 2, 1) := by decide +kernel
theorem dX2_chooseAll_15 : decode cX2_chooseAll 15 = .ok (.aaload, 1) := by decide +kernel
theorem dX2_chooseAll_16 : decode cX2_chooseAll 16 = .ok (.astore_n 3, 1) := by decide +kernel
theorem dX2_chooseAll_17 : decode cX2_chooseAll 17 = .ok (.iload_n 2, 1) := by decide +kernel
theorem dX2_chooseAll_18 : decode cX2_chooseAll 18 = .ok (.aload_n 0, 1) := by decide +kernel
theorem dX2_chooseAll_19 : decode cX2_chooseAll 19 = .ok (.getfield 82, 3) := by decide +kernel
theorem dX2_chooseAll_22 : decode cX2_chooseAll 22 = .ok (.if_icmp .eq 51, 3) := by decide +kernel
theorem dX2_chooseAll_25 : decode cX2_chooseAll 25 = .ok (.aload_n 3, 1) := by decide +kernel
theorem dX2_chooseAll_26 : decode cX2_chooseAll 26 = .ok (.getfield 63, 3) := by decide +kernel
theorem dX2_chooseAll_29 : decode cX2_chooseAll 29 = .ok (.ifCond .ne 44, 3) := by decide +kernel
theorem dX2_chooseAll_32 : decode cX2_chooseAll 32 = .ok (.aload_n 3, 1) := by decide +kernel
theorem dX2_chooseAll_33 : decode cX2_chooseAll 33 = .ok (.getfield 85, 3) := by decide +kernel
theorem dX2_chooseAll_36 : decode cX2_chooseAll 36 = .ok (.istore 4, 2) := by decide +kernel
theorem dX2_chooseAll_38 : decode cX2_chooseAll 38 = .ok (.aload_n 3, 1) := by decide +kernel
theorem dX2_chooseAll_39 : decode cX2_chooseAll 39 = .ok (.aload_n 3, 1) := by decide +kernel
theorem dX2_chooseAll_40 : decode cX2_chooseAll 40 = .ok (.aload_n 0, 1) := by decide +kernel
theorem dX2_chooseAll_41 : decode cX2_chooseAll 41 = .ok (.invokevirtual 114, 3) := by decide +kernel
theorem dX2_chooseAll_44 : decode cX2_chooseAll 44 = .ok (.aload_n 0, 1) := by decide +kernel
theorem dX2_chooseAll_45 : decode cX2_chooseAll 45 = .ok (.getfield 13, 3) := by decide +kernel
theorem dX2_chooseAll_48 : decode cX2_chooseAll 48 = .ok (.invokevirtual 118, 3) := by decide +kernel
theorem dX2_chooseAll_51 : decode cX2_chooseAll 51 = .ok (.putfield 85, 3) := by decide +kernel
theorem dX2_chooseAll_54 : decode cX2_chooseAll 54 = .ok (.iload_n 1, 1) := by decide +kernel
theorem dX2_chooseAll_55 : decode cX2_chooseAll 55 = .ok (.ifCond .ne 12, 3) := by decide +kernel
theorem dX2_chooseAll_58 : decode cX2_chooseAll 58 = .ok (.aload_n 3, 1) := by decide +kernel
theorem dX2_chooseAll_59 : decode cX2_chooseAll 59 = .ok (.getfield 85, 3) := by decide +kernel
theorem dX2_chooseAll_62 : decode cX2_chooseAll 62 = .ok (.iload 4, 2) := by decide +kernel
theorem dX2_chooseAll_64 : decode cX2_chooseAll 64 = .ok (.if_icmp .eq 7, 3) := by decide +kernel
theorem dX2_chooseAll_67 : decode cX2_chooseAll 67 = .ok (.iconst 1, 1) := by decide +kernel
theorem dX2_chooseAll_68 : decode cX2_chooseAll 68 = .ok (.goto 4, 3) := by decide +kernel
theorem dX2_chooseAll_71 : decode cX2_chooseAll 71 = .ok (.iconst 0, 1) := by decide +kernel
theorem dX2_chooseAll_72 : decode cX2_chooseAll 72 = .ok (.istore_n 1, 1) := by decide +kernel
theorem dX2_chooseAll_73 : decode cX2_chooseAll 73 = .ok (.iinc 2 1, 3) := by decide +kernel
theorem dX2_chooseAll_76 : decode cX2_chooseAll 76 = .ok (.goto (-72), 3) := by decide +kernel
theorem dX2_chooseAll_79 : decode cX2_chooseAll 79 = .ok (.iload_n 1, 1) := by decide +kernel
theorem dX2_chooseAll_80 : decode cX2_chooseAll 80 = .ok (.ireturn, 1) := by decide +kernel
theorem dX2_isTaken_0 : decode cX2_isTaken 0 = .ok (.aload_n 0, 1) := by decide +kernel
theorem dX2_isTaken_1 : decode cX2_isTaken 1 = .ok (.getfield 21, 3) := by decide +kernel
theorem dX2_isTaken_4 : decode cX2_isTaken 4 = .ok (.aload_n 0, 1) := by decide +kernel
theorem dX2_isTaken_5 : decode cX2_isTaken 5 = .ok (.getfield 13, 3) := by decide +kernel
theorem dX2_isTaken_8 : decode cX2_isTaken 8 = .ok (.iload_n 1, 1) := by decide +kernel
theorem dX2_isTaken_9 : decode cX2_isTaken 9 = .ok (.aaload, 1) := by decide +kernel
theorem dX2_isTaken_10 : decode cX2_isTaken 10 = .ok (.getfield 105, 3) := by decide +kernel
theorem dX2_isTaken_13 : decode cX2_isTaken 13 = .ok (.iload_n 2, 1) := by decide +kernel
theorem dX2_isTaken_14 : decode cX2_isTaken 14 = .ok (.iaload, 1) := by decide +kernel
theorem dX2_isTaken_15 : decode cX2_isTaken 15 = .ok (.aaload, 1) := by decide +kernel
theorem dX2_isTaken_16 : decode cX2_isTaken 16 = .ok (.iload_n 1, 1) := by decide +kernel
theorem dX2_isTaken_17 : decode cX2_isTaken 17 = .ok (.invokevirtual 122, 3) := by decide +kernel
theorem dX2_isTaken_20 : decode cX2_isTaken 20 = .ok (.ireturn, 1) := by decide +kernel
theorem dX2_stopsWithin_0 : decode cX2_stopsWithin 0 = .ok (.iconst 0, 1) := by decide +kernel
theorem dX2_stopsWithin_1 : decode cX2_stopsWithin 1 = .ok (.istore_n 2, 1) := by decide +kernel
theorem dX2_stopsWithin_2 : decode cX2_stopsWithin 2 = .ok (.iconst 0, 1) := by decide +kernel
theorem dX2_stopsWithin_3 : decode cX2_stopsWithin 3 = .ok (.istore_n 3, 1) := by decide +kernel
theorem dX2_stopsWithin_4 : decode cX2_stopsWithin 4 = .ok (.iload_n 3, 1) := by decide +kernel
theorem dX2_stopsWithin_5 : decode cX2_stopsWithin 5 = .ok (.bipush 10, 2) := by decide +kernel
theorem dX2_stopsWithin_7 : decode cX2_stopsWithin 7 = .ok (.if_icmp .ge 45, 3) := by decide +kernel
theorem dX2_stopsWithin_10 : decode cX2_stopsWithin 10 = .ok (.aload_n 0, 1) := by decide +kernel
theorem dX2_stopsWithin_11 : decode cX2_stopsWithin 11 = .ok (.getfield 21, 3) := by decide +kernel
theorem dX2_stopsWithin_14 : decode cX2_stopsWithin 14 = .ok (.iload_n 3, 1) := by decide +kernel
theorem dX2_stopsWithin_15 : decode cX2_stopsWithin 15 = .ok (.aaload, 1) := by decide +kernel
theorem dX2_stopsWithin_16 : decode cX2_stopsWithin 16 = .ok (.getfield 85, 3) := by decide +kernel
theorem dX2_stopsWithin_19 : decode cX2_stopsWithin 19 = .ok (.istore 4, 2) := by decide +kernel
theorem dX2_stopsWithin_21 : decode cX2_stopsWithin 21 = .ok (.iload_n 2, 1) := by decide +kernel
theorem dX2_stopsWithin_22 : decode cX2_stopsWithin 22 = .ok (.iload 4, 2) := by decide +kernel
theorem dX2_stopsWithin_24 : decode cX2_stopsWithin 24 = .ok (.iconst (-1), 1) := by decide +kernel
theorem dX2_stopsWithin_25 : decode cX2_stopsWithin 25 = .ok (.if_icmp .eq 13, 3) := by decide +kernel
theorem dX2_stopsWithin_28 : decode cX2_stopsWithin 28 = .ok (.iload 4, 2) := by decide +kernel
theorem dX2_stopsWithin_30 : decode cX2_stopsWithin 30 = .ok (.iload_n 1, 1) := by decide +kernel
theorem dX2_stopsWithin_31 : decode cX2_stopsWithin 31 = .ok (.if_icmp .gt 7, 3) := by decide +kernel
theorem dX2_stopsWithin_34 : decode cX2_stopsWithin 34 = .ok (.iconst 1, 1) := by decide +kernel
theorem dX2_stopsWithin_35 : decode cX2_stopsWithin 35 = .ok (.goto 4, 3) := by decide +kernel
theorem dX2_stopsWithin_38 : decode cX2_stopsWithin 38 = .ok (.iconst 0, 1) := by decide +kernel
theorem dX2_stopsWithin_39 : decode cX2_stopsWithin 39 = .ok (.invokestatic 70, 3) := by decide +kernel
theorem dX2_stopsWithin_42 : decode cX2_stopsWithin 42 = .ok (.iload_n 3, 1) := by decide +kernel
theorem dX2_stopsWithin_43 : decode cX2_stopsWithin 43 = .ok (.ishl, 1) := by decide +kernel
theorem dX2_stopsWithin_44 : decode cX2_stopsWithin 44 = .ok (.ior, 1) := by decide +kernel
theorem dX2_stopsWithin_45 : decode cX2_stopsWithin 45 = .ok (.istore_n 2, 1) := by decide +kernel
theorem dX2_stopsWithin_46 : decode cX2_stopsWithin 46 = .ok (.iinc 3 1, 3) := by decide +kernel
theorem dX2_stopsWithin_49 : decode cX2_stopsWithin 49 = .ok (.goto (-45), 3) := by decide +kernel
theorem dX2_stopsWithin_52 : decode cX2_stopsWithin 52 = .ok (.iload_n 2, 1) := by decide +kernel
theorem dX2_stopsWithin_53 : decode cX2_stopsWithin 53 = .ok (.ireturn, 1) := by decide +kernel
theorem dX2_linesInNoSet_0 : decode cX2_linesInNoSet 0 = .ok (.iconst 0, 1) := by decide +kernel
theorem dX2_linesInNoSet_1 : decode cX2_linesInNoSet 1 = .ok (.istore_n 1, 1) := by decide +kernel
theorem dX2_linesInNoSet_2 : decode cX2_linesInNoSet 2 = .ok (.iconst 0, 1) := by decide +kernel
theorem dX2_linesInNoSet_3 : decode cX2_linesInNoSet 3 = .ok (.istore_n 2, 1) := by decide +kernel
theorem dX2_linesInNoSet_4 : decode cX2_linesInNoSet 4 = .ok (.iload_n 2, 1) := by decide +kernel
theorem dX2_linesInNoSet_5 : decode cX2_linesInNoSet 5 = .ok (.bipush 10, 2) := by decide +kernel
theorem dX2_linesInNoSet_7 : decode cX2_linesInNoSet 7 = .ok (.if_icmp .ge 21, 3) := by decide +kernel
theorem dX2_linesInNoSet_10 : decode cX2_linesInNoSet 10 = .ok (.iload_n 1, 1) := by decide +kernel
theorem dX2_linesInNoSet_11 : decode cX2_linesInNoSet 11 = .ok (.aload_n 0, 1) := by decide +kernel
theorem dX2_linesInNoSet_12 : decode cX2_linesInNoSet 12 = .ok (.getfield 21, 3) := by decide +kernel
theorem dX2_linesInNoSet_15 : decode cX2_linesInNoSet 15 = .ok (.iload_n 2, 1) := by decide +kernel
theorem dX2_linesInNoSet_16 : decode cX2_linesInNoSet 16 = .ok (.aaload, 1) := by decide +kernel
theorem dX2_linesInNoSet_17 : decode cX2_linesInNoSet 17 = .ok (.invokevirtual 125, 3) := by decide +kernel
theorem dX2_linesInNoSet_20 : decode cX2_linesInNoSet 20 = .ok (.ior, 1) := by decide +kernel
theorem dX2_linesInNoSet_21 : decode cX2_linesInNoSet 21 = .ok (.istore_n 1, 1) := by decide +kernel
theorem dX2_linesInNoSet_22 : decode cX2_linesInNoSet 22 = .ok (.iinc 2 1, 3) := by decide +kernel
theorem dX2_linesInNoSet_25 : decode cX2_linesInNoSet 25 = .ok (.goto (-21), 3) := by decide +kernel
theorem dX2_linesInNoSet_28 : decode cX2_linesInNoSet 28 = .ok (.iconst 1, 1) := by decide +kernel
theorem dX2_linesInNoSet_29 : decode cX2_linesInNoSet 29 = .ok (.aload_n 0, 1) := by decide +kernel
theorem dX2_linesInNoSet_30 : decode cX2_linesInNoSet 30 = .ok (.getfield 41, 3) := by decide +kernel
theorem dX2_linesInNoSet_33 : decode cX2_linesInNoSet 33 = .ok (.ishl, 1) := by decide +kernel
theorem dX2_linesInNoSet_34 : decode cX2_linesInNoSet 34 = .ok (.iconst 1, 1) := by decide +kernel
theorem dX2_linesInNoSet_35 : decode cX2_linesInNoSet 35 = .ok (.isub, 1) := by decide +kernel
theorem dX2_linesInNoSet_36 : decode cX2_linesInNoSet 36 = .ok (.iload_n 1, 1) := by decide +kernel
theorem dX2_linesInNoSet_37 : decode cX2_linesInNoSet 37 = .ok (.iconst (-1), 1) := by decide +kernel
theorem dX2_linesInNoSet_38 : decode cX2_linesInNoSet 38 = .ok (.ixor, 1) := by decide +kernel
theorem dX2_linesInNoSet_39 : decode cX2_linesInNoSet 39 = .ok (.iand, 1) := by decide +kernel
theorem dX2_linesInNoSet_40 : decode cX2_linesInNoSet 40 = .ok (.ireturn, 1) := by decide +kernel
theorem dX2_orderStops_0 : decode cX2_orderStops 0 = .ok (.aload_n 0, 1) := by decide +kernel
theorem dX2_orderStops_1 : decode cX2_orderStops 1 = .ok (.iconst 0, 1) := by decide +kernel
theorem dX2_orderStops_2 : decode cX2_orderStops 2 = .ok (.putfield 129, 3) := by decide +kernel
theorem dX2_orderStops_5 : decode cX2_orderStops 5 = .ok (.iconst 0, 1) := by decide +kernel
theorem dX2_orderStops_6 : decode cX2_orderStops 6 = .ok (.istore_n 1, 1) := by decide +kernel
theorem dX2_orderStops_7 : decode cX2_orderStops 7 = .ok (.iload_n 1, 1) := by decide +kernel
theorem dX2_orderStops_8 : decode cX2_orderStops 8 = .ok (.bipush 10, 2) := by decide +kernel
theorem dX2_orderStops_10 : decode cX2_orderStops 10 = .ok (.if_icmp .ge 104, 3) := by decide +kernel
theorem dX2_orderStops_13 : decode cX2_orderStops 13 = .ok (.iload_n 1, 1) := by decide +kernel
theorem dX2_orderStops_14 : decode cX2_orderStops 14 = .ok (.aload_n 0, 1) := by decide +kernel
theorem dX2_orderStops_15 : decode cX2_orderStops 15 = .ok (.getfield 82, 3) := by decide +kernel
theorem dX2_orderStops_18 : decode cX2_orderStops 18 = .ok (.if_icmp .eq 90, 3) := by decide +kernel
theorem dX2_orderStops_21 : decode cX2_orderStops 21 = .ok (.aload_n 0, 1) := by decide +kernel
theorem dX2_orderStops_22 : decode cX2_orderStops 22 = .ok (.getfield 21, 3) := by decide +kernel
theorem dX2_orderStops_25 : decode cX2_orderStops 25 = .ok (.iload_n 1, 1) := by decide +kernel
theorem dX2_orderStops_26 : decode cX2_orderStops 26 = .ok (.aaload, 1) := by decide +kernel
theorem dX2_orderStops_27 : decode cX2_orderStops 27 = .ok (.getfield 85, 3) := by decide +kernel
theorem dX2_orderStops_30 : decode cX2_orderStops 30 = .ok (.iconst (-1), 1) := by decide +kernel
theorem dX2_orderStops_31 : decode cX2_orderStops 31 = .ok (.if_icmp .eq 77, 3) := by decide +kernel
theorem dX2_orderStops_34 : decode cX2_orderStops 34 = .ok (.aload_n 0, 1) := by decide +kernel
theorem dX2_orderStops_35 : decode cX2_orderStops 35 = .ok (.getfield 129, 3) := by decide +kernel
theorem dX2_orderStops_38 : decode cX2_orderStops 38 = .ok (.istore_n 2, 1) := by decide +kernel
theorem dX2_orderStops_39 : decode cX2_orderStops 39 = .ok (.iload_n 2, 1) := by decide +kernel
theorem dX2_orderStops_40 : decode cX2_orderStops 40 = .ok (.ifCond .le 51, 3) := by decide +kernel
theorem dX2_orderStops_43 : decode cX2_orderStops 43 = .ok (.aload_n 0, 1) := by decide +kernel
theorem dX2_orderStops_44 : decode cX2_orderStops 44 = .ok (.getfield 21, 3) := by decide +kernel
theorem dX2_orderStops_47 : decode cX2_orderStops 47 = .ok (.aload_n 0, 1) := by decide +kernel
theorem dX2_orderStops_48 : decode cX2_orderStops 48 = .ok (.getfield 29, 3) := by decide +kernel
theorem dX2_orderStops_51 : decode cX2_orderStops 51 = .ok (.iload_n 2, 1) := by decide +kernel
theorem dX2_orderStops_52 : decode cX2_orderStops 52 = .ok (.iconst 1, 1) := by decide +kernel
theorem dX2_orderStops_53 : decode cX2_orderStops 53 = .ok (.isub, 1) := by decide +kernel
theorem dX2_orderStops_54 : decode cX2_orderStops 54 = .ok (.iaload, 1) := by decide +kernel
theorem dX2_orderStops_55 : decode cX2_orderStops 55 = .ok (.aaload, 1) := by decide +kernel
theorem dX2_orderStops_56 : decode cX2_orderStops 56 = .ok (.getfield 85, 3) := by decide +kernel
theorem dX2_orderStops_59 : decode cX2_orderStops 59 = .ok (.aload_n 0, 1) := by decide +kernel
theorem dX2_orderStops_60 : decode cX2_orderStops 60 = .ok (.getfield 21, 3) := by decide +kernel
theorem dX2_orderStops_63 : decode cX2_orderStops 63 = .ok (.iload_n 1, 1) := by decide +kernel
theorem dX2_orderStops_64 : decode cX2_orderStops 64 = .ok (.aaload, 1) := by decide +kernel
theorem dX2_orderStops_65 : decode cX2_orderStops 65 = .ok (.getfield 85, 3) := by decide +kernel
theorem dX2_orderStops_68 : decode cX2_orderStops 68 = .ok (.if_icmp .ge 23, 3) := by decide +kernel
theorem dX2_orderStops_71 : decode cX2_orderStops 71 = .ok (.aload_n 0, 1) := by decide +kernel
theorem dX2_orderStops_72 : decode cX2_orderStops 72 = .ok (.getfield 29, 3) := by decide +kernel
theorem dX2_orderStops_75 : decode cX2_orderStops 75 = .ok (.iload_n 2, 1) := by decide +kernel
theorem dX2_orderStops_76 : decode cX2_orderStops 76 = .ok (.aload_n 0, 1) := by decide +kernel
theorem dX2_orderStops_77 : decode cX2_orderStops 77 = .ok (.getfield 29, 3) := by decide +kernel
theorem dX2_orderStops_80 : decode cX2_orderStops 80 = .ok (.iload_n 2, 1) := by decide +kernel
theorem dX2_orderStops_81 : decode cX2_orderStops 81 = .ok (.iconst 1, 1) := by decide +kernel
theorem dX2_orderStops_82 : decode cX2_orderStops 82 = .ok (.isub, 1) := by decide +kernel
theorem dX2_orderStops_83 : decode cX2_orderStops 83 = .ok (.iaload, 1) := by decide +kernel
theorem dX2_orderStops_84 : decode cX2_orderStops 84 = .ok (.iastore, 1) := by decide +kernel
theorem dX2_orderStops_85 : decode cX2_orderStops 85 = .ok (.iinc 2 (-1), 3) := by decide +kernel
theorem dX2_orderStops_88 : decode cX2_orderStops 88 = .ok (.goto (-49), 3) := by decide +kernel
theorem dX2_orderStops_91 : decode cX2_orderStops 91 = .ok (.aload_n 0, 1) := by decide +kernel
theorem dX2_orderStops_92 : decode cX2_orderStops 92 = .ok (.getfield 29, 3) := by decide +kernel
theorem dX2_orderStops_95 : decode cX2_orderStops 95 = .ok (.iload_n 2, 1) := by decide +kernel
theorem dX2_orderStops_96 : decode cX2_orderStops 96 = .ok (.iload_n 1, 1) := by decide +kernel
theorem dX2_orderStops_97 : decode cX2_orderStops 97 = .ok (.iastore, 1) := by decide +kernel
theorem dX2_orderStops_98 : decode cX2_orderStops 98 = .ok (.aload_n 0, 1) := by decide +kernel
theorem dX2_orderStops_99 : decode cX2_orderStops 99 = .ok (.dup, 1) := by decide +kernel
theorem dX2_orderStops_100 : decode cX2_orderStops 100 = .ok (.getfield 129, 3) := by decide +kernel
theorem dX2_orderStops_103 : decode cX2_orderStops 103 = .ok (.iconst 1, 1) := by decide +kernel
theorem dX2_orderStops_104 : decode cX2_orderStops 104 = .ok (.iadd, 1) := by decide +kernel
theorem dX2_orderStops_105 : decode cX2_orderStops 105 = .ok (.putfield 129, 3) := by decide +kernel
theorem dX2_orderStops_108 : decode cX2_orderStops 108 = .ok (.iinc 1 1, 3) := by decide +kernel
theorem dX2_orderStops_111 : decode cX2_orderStops 111 = .ok (.goto (-104), 3) := by decide +kernel
theorem dX2_orderStops_114 : decode cX2_orderStops 114 = .ok (.return_, 1) := by decide +kernel
theorem dX2_findBoards_0 : decode cX2_findBoards 0 = .ok (.aload_n 0, 1) := by decide +kernel
theorem dX2_findBoards_1 : decode cX2_findBoards 1 = .ok (.invokevirtual 132, 3) := by decide +kernel
theorem dX2_findBoards_4 : decode cX2_findBoards 4 = .ok (.aload_n 0, 1) := by decide +kernel
theorem dX2_findBoards_5 : decode cX2_findBoards 5 = .ok (.getfield 21, 3) := by decide +kernel
theorem dX2_findBoards_8 : decode cX2_findBoards 8 = .ok (.aload_n 0, 1) := by decide +kernel
theorem dX2_findBoards_9 : decode cX2_findBoards 9 = .ok (.getfield 82, 3) := by decide +kernel
theorem dX2_findBoards_12 : decode cX2_findBoards 12 = .ok (.aaload, 1) := by decide +kernel
theorem dX2_findBoards_13 : decode cX2_findBoards 13 = .ok (.iconst 0, 1) := by decide +kernel
theorem dX2_findBoards_14 : decode cX2_findBoards 14 = .ok (.putfield 135, 3) := by decide +kernel
theorem dX2_findBoards_17 : decode cX2_findBoards 17 = .ok (.aload_n 0, 1) := by decide +kernel
theorem dX2_findBoards_18 : decode cX2_findBoards 18 = .ok (.getfield 129, 3) := by decide +kernel
theorem dX2_findBoards_21 : decode cX2_findBoards 21 = .ok (.iconst 1, 1) := by decide +kernel
theorem dX2_findBoards_22 : decode cX2_findBoards 22 = .ok (.isub, 1) := by decide +kernel
theorem dX2_findBoards_23 : decode cX2_findBoards 23 = .ok (.istore_n 1, 1) := by decide +kernel
theorem dX2_findBoards_24 : decode cX2_findBoards 24 = .ok (.iload_n 1, 1) := by decide +kernel
theorem dX2_findBoards_25 : decode cX2_findBoards 25 = .ok (.ifCond .lt 38, 3) := by decide +kernel
theorem dX2_findBoards_28 : decode cX2_findBoards 28 = .ok (.aload_n 0, 1) := by decide +kernel
theorem dX2_findBoards_29 : decode cX2_findBoards 29 = .ok (.getfield 21, 3) := by decide +kernel
theorem dX2_findBoards_32 : decode cX2_findBoards 32 = .ok (.aload_n 0, 1) := by decide +kernel
theorem dX2_findBoards_33 : decode cX2_findBoards 33 = .ok (.getfield 29, 3) := by decide +kernel
theorem dX2_findBoards_36 : decode cX2_findBoards 36 = .ok (.iload_n 1, 1) := by decide +kernel
theorem dX2_findBoards_37 : decode cX2_findBoards 37 = .ok (.iaload, 1) := by decide +kernel
theorem dX2_findBoards_38 : decode cX2_findBoards 38 = .ok (.aaload, 1) := by decide +kernel
theorem dX2_findBoards_39 : decode cX2_findBoards 39 = .ok (.aload_n 0, 1) := by decide +kernel
theorem dX2_findBoards_40 : decode cX2_findBoards 40 = .ok (.aload_n 0, 1) := by decide +kernel
theorem dX2_findBoards_41 : decode cX2_findBoards 41 = .ok (.getfield 21, 3) := by decide +kernel
theorem dX2_findBoards_44 : decode cX2_findBoards 44 = .ok (.aload_n 0, 1) := by decide +kernel
theorem dX2_findBoards_45 : decode cX2_findBoards 45 = .ok (.getfield 29, 3) := by decide +kernel
theorem dX2_findBoards_48 : decode cX2_findBoards 48 = .ok (.iload_n 1, 1) := by decide +kernel
theorem dX2_findBoards_49 : decode cX2_findBoards 49 = .ok (.iaload, 1) := by decide +kernel
theorem dX2_findBoards_50 : decode cX2_findBoards 50 = .ok (.aaload, 1) := by decide +kernel
theorem dX2_findBoards_51 : decode cX2_findBoards 51 = .ok (.invokevirtual 138, 3) := by decide +kernel
theorem dX2_findBoards_54 : decode cX2_findBoards 54 = .ok (.putfield 135, 3) := by decide +kernel
theorem dX2_findBoards_57 : decode cX2_findBoards 57 = .ok (.iinc 1 (-1), 3) := by decide +kernel
theorem dX2_findBoards_60 : decode cX2_findBoards 60 = .ok (.goto (-36), 3) := by decide +kernel
theorem dX2_findBoards_63 : decode cX2_findBoards 63 = .ok (.return_, 1) := by decide +kernel
theorem dX2_boardsBySet_0 : decode cX2_boardsBySet 0 = .ok (.lconst 0, 1) := by decide +kernel
theorem dX2_boardsBySet_1 : decode cX2_boardsBySet 1 = .ok (.lstore_n 2, 1) := by decide +kernel
theorem dX2_boardsBySet_2 : decode cX2_boardsBySet 2 = .ok (.iconst 0, 1) := by decide +kernel
theorem dX2_boardsBySet_3 : decode cX2_boardsBySet 3 = .ok (.istore 4, 2) := by decide +kernel
theorem dX2_boardsBySet_5 : decode cX2_boardsBySet 5 = .ok (.iload 4, 2) := by decide +kernel
theorem dX2_boardsBySet_7 : decode cX2_boardsBySet 7 = .ok (.aload_n 1, 1) := by decide +kernel
theorem dX2_boardsBySet_8 : decode cX2_boardsBySet 8 = .ok (.getfield 142, 3) := by decide +kernel
theorem dX2_boardsBySet_11 : decode cX2_boardsBySet 11 = .ok (.if_icmp .ge 74, 3) := by decide +kernel
theorem dX2_boardsBySet_14 : decode cX2_boardsBySet 14 = .ok (.aload_n 0, 1) := by decide +kernel
theorem dX2_boardsBySet_15 : decode cX2_boardsBySet 15 = .ok (.getfield 13, 3) := by decide +kernel
theorem dX2_boardsBySet_18 : decode cX2_boardsBySet 18 = .ok (.aload_n 1, 1) := by decide +kernel
theorem dX2_boardsBySet_19 : decode cX2_boardsBySet 19 = .ok (.getfield 145, 3) := by decide +kernel
theorem dX2_boardsBySet_22 : decode cX2_boardsBySet 22 = .ok (.iload 4, 2) := by decide +kernel
theorem dX2_boardsBySet_24 : decode cX2_boardsBySet 24 = .ok (.iaload, 1) := by decide +kernel
theorem dX2_boardsBySet_25 : decode cX2_boardsBySet 25 = .ok (.aaload, 1) := by decide +kernel
theorem dX2_boardsBySet_26 : decode cX2_boardsBySet 26 = .ok (.astore 5, 2) := by decide +kernel
theorem dX2_boardsBySet_28 : decode cX2_boardsBySet 28 = .ok (.aload 5, 2) := by decide +kernel
theorem dX2_boardsBySet_30 : decode cX2_boardsBySet 30 = .ok (.aload_n 1, 1) := by decide +kernel
theorem dX2_boardsBySet_31 : decode cX2_boardsBySet 31 = .ok (.getfield 147, 3) := by decide +kernel
theorem dX2_boardsBySet_34 : decode cX2_boardsBySet 34 = .ok (.iload 4, 2) := by decide +kernel
theorem dX2_boardsBySet_36 : decode cX2_boardsBySet 36 = .ok (.iaload, 1) := by decide +kernel
theorem dX2_boardsBySet_37 : decode cX2_boardsBySet 37 = .ok (.invokevirtual 150, 3) := by decide +kernel
theorem dX2_boardsBySet_40 : decode cX2_boardsBySet 40 = .ok (.istore 6, 2) := by decide +kernel
theorem dX2_boardsBySet_42 : decode cX2_boardsBySet 42 = .ok (.iload 6, 2) := by decide +kernel
theorem dX2_boardsBySet_44 : decode cX2_boardsBySet 44 = .ok (.iconst (-1), 1) := by decide +kernel
theorem dX2_boardsBySet_45 : decode cX2_boardsBySet 45 = .ok (.if_icmp .eq 34, 3) := by decide +kernel
theorem dX2_boardsBySet_48 : decode cX2_boardsBySet 48 = .ok (.lload_n 2, 1) := by decide +kernel
theorem dX2_boardsBySet_49 : decode cX2_boardsBySet 49 = .ok (.aload 5, 2) := by decide +kernel
theorem dX2_boardsBySet_51 : decode cX2_boardsBySet 51 = .ok (.getfield 154, 3) := by decide +kernel
theorem dX2_boardsBySet_54 : decode cX2_boardsBySet 54 = .ok (.i2l, 1) := by decide +kernel
theorem dX2_boardsBySet_55 : decode cX2_boardsBySet 55 = .ok (.sipush 1000, 3) := by decide +kernel
theorem dX2_boardsBySet_58 : decode cX2_boardsBySet 58 = .ok (.aload_n 0, 1) := by decide +kernel
theorem dX2_boardsBySet_59 : decode cX2_boardsBySet 59 = .ok (.getfield 21, 3) := by decide +kernel
theorem dX2_boardsBySet_62 : decode cX2_boardsBySet 62 = .ok (.aload 5, 2) := by decide +kernel
theorem dX2_boardsBySet_64 : decode cX2_boardsBySet 64 = .ok (.getfield 105, 3) := by decide +kernel
theorem dX2_boardsBySet_67 : decode cX2_boardsBySet 67 = .ok (.iload 6, 2) := by decide +kernel
theorem dX2_boardsBySet_69 : decode cX2_boardsBySet 69 = .ok (.iaload, 1) := by decide +kernel
theorem dX2_boardsBySet_70 : decode cX2_boardsBySet 70 = .ok (.aaload, 1) := by decide +kernel
theorem dX2_boardsBySet_71 : decode cX2_boardsBySet 71 = .ok (.getfield 135, 3) := by decide +kernel
theorem dX2_boardsBySet_74 : decode cX2_boardsBySet 74 = .ok (.iadd, 1) := by decide +kernel
theorem dX2_boardsBySet_75 : decode cX2_boardsBySet 75 = .ok (.i2l, 1) := by decide +kernel
theorem dX2_boardsBySet_76 : decode cX2_boardsBySet 76 = .ok (.lmul, 1) := by decide +kernel
theorem dX2_boardsBySet_77 : decode cX2_boardsBySet 77 = .ok (.ladd, 1) := by decide +kernel
theorem dX2_boardsBySet_78 : decode cX2_boardsBySet 78 = .ok (.lstore_n 2, 1) := by decide +kernel
theorem dX2_boardsBySet_79 : decode cX2_boardsBySet 79 = .ok (.iinc 4 1, 3) := by decide +kernel
theorem dX2_boardsBySet_82 : decode cX2_boardsBySet 82 = .ok (.goto (-77), 3) := by decide +kernel
theorem dX2_boardsBySet_85 : decode cX2_boardsBySet 85 = .ok (.lload_n 2, 1) := by decide +kernel
theorem dX2_boardsBySet_86 : decode cX2_boardsBySet 86 = .ok (.aload_n 1, 1) := by decide +kernel
theorem dX2_boardsBySet_87 : decode cX2_boardsBySet 87 = .ok (.getfield 157, 3) := by decide +kernel
theorem dX2_boardsBySet_90 : decode cX2_boardsBySet 90 = .ok (.i2l, 1) := by decide +kernel
theorem dX2_boardsBySet_91 : decode cX2_boardsBySet 91 = .ok (.invokestatic 160, 3) := by decide +kernel
theorem dX2_boardsBySet_94 : decode cX2_boardsBySet 94 = .ok (.l2i, 1) := by decide +kernel
theorem dX2_boardsBySet_95 : decode cX2_boardsBySet 95 = .ok (.ireturn, 1) := by decide +kernel
theorem dX2_findLoads_0 : decode cX2_findLoads 0 = .ok (.aload_n 0, 1) := by decide +kernel
theorem dX2_findLoads_1 : decode cX2_findLoads 1 = .ok (.invokevirtual 164, 3) := by decide +kernel
theorem dX2_findLoads_4 : decode cX2_findLoads 4 = .ok (.aload_n 0, 1) := by decide +kernel
theorem dX2_findLoads_5 : decode cX2_findLoads 5 = .ok (.invokevirtual 167, 3) := by decide +kernel
theorem dX2_findLoads_8 : decode cX2_findLoads 8 = .ok (.return_, 1) := by decide +kernel
theorem dX2_spreadLoads_0 : decode cX2_spreadLoads 0 = .ok (.iconst 0, 1) := by decide +kernel
theorem dX2_spreadLoads_1 : decode cX2_spreadLoads 1 = .ok (.istore_n 1, 1) := by decide +kernel
theorem dX2_spreadLoads_2 : decode cX2_spreadLoads 2 = .ok (.iload_n 1, 1) := by decide +kernel
theorem dX2_spreadLoads_3 : decode cX2_spreadLoads 3 = .ok (.aload_n 0, 1) := by decide +kernel
theorem dX2_spreadLoads_4 : decode cX2_spreadLoads 4 = .ok (.getfield 41, 3) := by decide +kernel
theorem dX2_spreadLoads_7 : decode cX2_spreadLoads 7 = .ok (.if_icmp .ge 18, 3) := by decide +kernel
theorem dX2_spreadLoads_10 : decode cX2_spreadLoads 10 = .ok (.aload_n 0, 1) := by decide +kernel
theorem dX2_spreadLoads_11 : decode cX2_spreadLoads 11 = .ok (.getfield 13, 3) := by decide +kernel
theorem dX2_spreadLoads_14 : decode cX2_spreadLoads 14 = .ok (.iload_n 1, 1) := by decide +kernel
theorem dX2_spreadLoads_15 : decode cX2_spreadLoads 15 = .ok (.aaload, 1) := by decide +kernel
theorem dX2_spreadLoads_16 : decode cX2_spreadLoads 16 = .ok (.invokevirtual 170, 3) := by decide +kernel
theorem dX2_spreadLoads_19 : decode cX2_spreadLoads 19 = .ok (.iinc 1 1, 3) := by decide +kernel
theorem dX2_spreadLoads_22 : decode cX2_spreadLoads 22 = .ok (.goto (-20), 3) := by decide +kernel
theorem dX2_spreadLoads_25 : decode cX2_spreadLoads 25 = .ok (.iconst 0, 1) := by decide +kernel
theorem dX2_spreadLoads_26 : decode cX2_spreadLoads 26 = .ok (.istore_n 1, 1) := by decide +kernel
theorem dX2_spreadLoads_27 : decode cX2_spreadLoads 27 = .ok (.iload_n 1, 1) := by decide +kernel
theorem dX2_spreadLoads_28 : decode cX2_spreadLoads 28 = .ok (.bipush 10, 2) := by decide +kernel
theorem dX2_spreadLoads_30 : decode cX2_spreadLoads 30 = .ok (.if_icmp .ge 19, 3) := by decide +kernel
theorem dX2_spreadLoads_33 : decode cX2_spreadLoads 33 = .ok (.aload_n 0, 1) := by decide +kernel
theorem dX2_spreadLoads_34 : decode cX2_spreadLoads 34 = .ok (.getfield 21, 3) := by decide +kernel
theorem dX2_spreadLoads_37 : decode cX2_spreadLoads 37 = .ok (.iload_n 1, 1) := by decide +kernel
theorem dX2_spreadLoads_38 : decode cX2_spreadLoads 38 = .ok (.aaload, 1) := by decide +kernel
theorem dX2_spreadLoads_39 : decode cX2_spreadLoads 39 = .ok (.iconst 0, 1) := by decide +kernel
theorem dX2_spreadLoads_40 : decode cX2_spreadLoads 40 = .ok (.putfield 173, 3) := by decide +kernel
theorem dX2_spreadLoads_43 : decode cX2_spreadLoads 43 = .ok (.iinc 1 1, 3) := by decide +kernel
theorem dX2_spreadLoads_46 : decode cX2_spreadLoads 46 = .ok (.goto (-19), 3) := by decide +kernel
theorem dX2_spreadLoads_49 : decode cX2_spreadLoads 49 = .ok (.aload_n 0, 1) := by decide +kernel
theorem dX2_spreadLoads_50 : decode cX2_spreadLoads 50 = .ok (.invokevirtual 132, 3) := by decide +kernel
theorem dX2_spreadLoads_53 : decode cX2_spreadLoads 53 = .ok (.iconst 0, 1) := by decide +kernel
theorem dX2_spreadLoads_54 : decode cX2_spreadLoads 54 = .ok (.istore_n 1, 1) := by decide +kernel
theorem dX2_spreadLoads_55 : decode cX2_spreadLoads 55 = .ok (.iload_n 1, 1) := by decide +kernel
theorem dX2_spreadLoads_56 : decode cX2_spreadLoads 56 = .ok (.aload_n 0, 1) := by decide +kernel
theorem dX2_spreadLoads_57 : decode cX2_spreadLoads 57 = .ok (.getfield 129, 3) := by decide +kernel
theorem dX2_spreadLoads_60 : decode cX2_spreadLoads 60 = .ok (.if_icmp .ge 24, 3) := by decide +kernel
theorem dX2_spreadLoads_63 : decode cX2_spreadLoads 63 = .ok (.aload_n 0, 1) := by decide +kernel
theorem dX2_spreadLoads_64 : decode cX2_spreadLoads 64 = .ok (.aload_n 0, 1) := by decide +kernel
theorem dX2_spreadLoads_65 : decode cX2_spreadLoads 65 = .ok (.getfield 21, 3) := by decide +kernel
theorem dX2_spreadLoads_68 : decode cX2_spreadLoads 68 = .ok (.aload_n 0, 1) := by decide +kernel
theorem dX2_spreadLoads_69 : decode cX2_spreadLoads 69 = .ok (.getfield 29, 3) := by decide +kernel
theorem dX2_spreadLoads_72 : decode cX2_spreadLoads 72 = .ok (.iload_n 1, 1) := by decide +kernel
theorem dX2_spreadLoads_73 : decode cX2_spreadLoads 73 = .ok (.iaload, 1) := by decide +kernel
theorem dX2_spreadLoads_74 : decode cX2_spreadLoads 74 = .ok (.aaload, 1) := by decide +kernel
theorem dX2_spreadLoads_75 : decode cX2_spreadLoads 75 = .ok (.invokevirtual 176, 3) := by decide +kernel
theorem dX2_spreadLoads_78 : decode cX2_spreadLoads 78 = .ok (.iinc 1 1, 3) := by decide +kernel
theorem dX2_spreadLoads_81 : decode cX2_spreadLoads 81 = .ok (.goto (-26), 3) := by decide +kernel
theorem dX2_spreadLoads_84 : decode cX2_spreadLoads 84 = .ok (.return_, 1) := by decide +kernel
theorem dX2_boardAll_0 : decode cX2_boardAll 0 = .ok (.aload_n 1, 1) := by decide +kernel
theorem dX2_boardAll_1 : decode cX2_boardAll 1 = .ok (.getfield 74, 3) := by decide +kernel
theorem dX2_boardAll_4 : decode cX2_boardAll 4 = .ok (.aload_n 1, 1) := by decide +kernel
theorem dX2_boardAll_5 : decode cX2_boardAll 5 = .ok (.getfield 173, 3) := by decide +kernel
theorem dX2_boardAll_8 : decode cX2_boardAll 8 = .ok (.iadd, 1) := by decide +kernel
theorem dX2_boardAll_9 : decode cX2_boardAll 9 = .ok (.istore_n 2, 1) := by decide +kernel
theorem dX2_boardAll_10 : decode cX2_boardAll 10 = .ok (.iload_n 2, 1) := by decide +kernel
theorem dX2_boardAll_11 : decode cX2_boardAll 11 = .ok (.istore_n 3, 1) := by decide +kernel
theorem dX2_boardAll_12 : decode cX2_boardAll 12 = .ok (.iconst 0, 1) := by decide +kernel
theorem dX2_boardAll_13 : decode cX2_boardAll 13 = .ok (.istore 4, 2) := by decide +kernel
theorem dX2_boardAll_15 : decode cX2_boardAll 15 = .ok (.iload 4, 2) := by decide +kernel
theorem dX2_boardAll_17 : decode cX2_boardAll 17 = .ok (.aload_n 1, 1) := by decide +kernel
theorem dX2_boardAll_18 : decode cX2_boardAll 18 = .ok (.getfield 142, 3) := by decide +kernel
theorem dX2_boardAll_21 : decode cX2_boardAll 21 = .ok (.if_icmp .ge 20, 3) := by decide +kernel
theorem dX2_boardAll_24 : decode cX2_boardAll 24 = .ok (.iload_n 3, 1) := by decide +kernel
theorem dX2_boardAll_25 : decode cX2_boardAll 25 = .ok (.aload_n 0, 1) := by decide +kernel
theorem dX2_boardAll_26 : decode cX2_boardAll 26 = .ok (.aload_n 1, 1) := by decide +kernel
theorem dX2_boardAll_27 : decode cX2_boardAll 27 = .ok (.iload 4, 2) := by decide +kernel
theorem dX2_boardAll_29 : decode cX2_boardAll 29 = .ok (.iload_n 2, 1) := by decide +kernel
theorem dX2_boardAll_30 : decode cX2_boardAll 30 = .ok (.invokevirtual 180, 3) := by decide +kernel
theorem dX2_boardAll_33 : decode cX2_boardAll 33 = .ok (.isub, 1) := by decide +kernel
theorem dX2_boardAll_34 : decode cX2_boardAll 34 = .ok (.istore_n 3, 1) := by decide +kernel
theorem dX2_boardAll_35 : decode cX2_boardAll 35 = .ok (.iinc 4 1, 3) := by decide +kernel
theorem dX2_boardAll_38 : decode cX2_boardAll 38 = .ok (.goto (-23), 3) := by decide +kernel
theorem dX2_boardAll_41 : decode cX2_boardAll 41 = .ok (.iconst 0, 1) := by decide +kernel
theorem dX2_boardAll_42 : decode cX2_boardAll 42 = .ok (.istore 4, 2) := by decide +kernel
theorem dX2_boardAll_44 : decode cX2_boardAll 44 = .ok (.iload 4, 2) := by decide +kernel
theorem dX2_boardAll_46 : decode cX2_boardAll 46 = .ok (.aload_n 1, 1) := by decide +kernel
theorem dX2_boardAll_47 : decode cX2_boardAll 47 = .ok (.getfield 142, 3) := by decide +kernel
theorem dX2_boardAll_50 : decode cX2_boardAll 50 = .ok (.if_icmp .ge 56, 3) := by decide +kernel
theorem dX2_boardAll_53 : decode cX2_boardAll 53 = .ok (.aload_n 0, 1) := by decide +kernel
theorem dX2_boardAll_54 : decode cX2_boardAll 54 = .ok (.aload_n 1, 1) := by decide +kernel
theorem dX2_boardAll_55 : decode cX2_boardAll 55 = .ok (.iload 4, 2) := by decide +kernel
theorem dX2_boardAll_57 : decode cX2_boardAll 57 = .ok (.iload_n 2, 1) := by decide +kernel
theorem dX2_boardAll_58 : decode cX2_boardAll 58 = .ok (.invokevirtual 180, 3) := by decide +kernel
theorem dX2_boardAll_61 : decode cX2_boardAll 61 = .ok (.istore 5, 2) := by decide +kernel
theorem dX2_boardAll_63 : decode cX2_boardAll 63 = .ok (.aload_n 0, 1) := by decide +kernel
theorem dX2_boardAll_64 : decode cX2_boardAll 64 = .ok (.aload_n 0, 1) := by decide +kernel
theorem dX2_boardAll_65 : decode cX2_boardAll 65 = .ok (.getfield 13, 3) := by decide +kernel
theorem dX2_boardAll_68 : decode cX2_boardAll 68 = .ok (.aload_n 1, 1) := by decide +kernel
theorem dX2_boardAll_69 : decode cX2_boardAll 69 = .ok (.getfield 145, 3) := by decide +kernel
theorem dX2_boardAll_72 : decode cX2_boardAll 72 = .ok (.iload 4, 2) := by decide +kernel
theorem dX2_boardAll_74 : decode cX2_boardAll 74 = .ok (.iaload, 1) := by decide +kernel
theorem dX2_boardAll_75 : decode cX2_boardAll 75 = .ok (.aaload, 1) := by decide +kernel
theorem dX2_boardAll_76 : decode cX2_boardAll 76 = .ok (.aload_n 1, 1) := by decide +kernel
theorem dX2_boardAll_77 : decode cX2_boardAll 77 = .ok (.getfield 147, 3) := by decide +kernel
theorem dX2_boardAll_80 : decode cX2_boardAll 80 = .ok (.iload 4, 2) := by decide +kernel
theorem dX2_boardAll_82 : decode cX2_boardAll 82 = .ok (.iaload, 1) := by decide +kernel
theorem dX2_boardAll_83 : decode cX2_boardAll 83 = .ok (.iload 4, 2) := by decide +kernel
theorem dX2_boardAll_85 : decode cX2_boardAll 85 = .ok (.ifCond .ne 10, 3) := by decide +kernel
theorem dX2_boardAll_88 : decode cX2_boardAll 88 = .ok (.iload 5, 2) := by decide +kernel
theorem dX2_boardAll_90 : decode cX2_boardAll 90 = .ok (.iload_n 3, 1) := by decide +kernel
theorem dX2_boardAll_91 : decode cX2_boardAll 91 = .ok (.iadd, 1) := by decide +kernel
theorem dX2_boardAll_92 : decode cX2_boardAll 92 = .ok (.goto 5, 3) := by decide +kernel
theorem dX2_boardAll_95 : decode cX2_boardAll 95 = .ok (.iload 5, 2) := by decide +kernel
theorem dX2_boardAll_97 : decode cX2_boardAll 97 = .ok (.invokevirtual 184, 3) := by decide +kernel
theorem dX2_boardAll_100 : decode cX2_boardAll 100 = .ok (.iinc 4 1, 3) := by decide +kernel
theorem dX2_boardAll_103 : decode cX2_boardAll 103 = .ok (.goto (-59), 3) := by decide +kernel
theorem dX2_boardAll_106 : decode cX2_boardAll 106 = .ok (.return_, 1) := by decide +kernel
theorem dX2_shareOf_0 : decode cX2_shareOf 0 = .ok (.iload_n 3, 1) := by decide +kernel
theorem dX2_shareOf_1 : decode cX2_shareOf 1 = .ok (.i2l, 1) := by decide +kernel
theorem dX2_shareOf_2 : decode cX2_shareOf 2 = .ok (.aload_n 0, 1) := by decide +kernel
theorem dX2_shareOf_3 : decode cX2_shareOf 3 = .ok (.getfield 13, 3) := by decide +kernel
theorem dX2_shareOf_6 : decode cX2_shareOf 6 = .ok (.aload_n 1, 1) := by decide +kernel
theorem dX2_shareOf_7 : decode cX2_shareOf 7 = .ok (.getfield 145, 3) := by decide +kernel
theorem dX2_shareOf_10 : decode cX2_shareOf 10 = .ok (.iload_n 2, 1) := by decide +kernel
theorem dX2_shareOf_11 : decode cX2_shareOf 11 = .ok (.iaload, 1) := by decide +kernel
theorem dX2_shareOf_12 : decode cX2_shareOf 12 = .ok (.aaload, 1) := by decide +kernel
theorem dX2_shareOf_13 : decode cX2_shareOf 13 = .ok (.getfield 154, 3) := by decide +kernel
theorem dX2_shareOf_16 : decode cX2_shareOf 16 = .ok (.i2l, 1) := by decide +kernel
theorem dX2_shareOf_17 : decode cX2_shareOf 17 = .ok (.lmul, 1) := by decide +kernel
theorem dX2_shareOf_18 : decode cX2_shareOf 18 = .ok (.aload_n 1, 1) := by decide +kernel
theorem dX2_shareOf_19 : decode cX2_shareOf 19 = .ok (.getfield 157, 3) := by decide +kernel
theorem dX2_shareOf_22 : decode cX2_shareOf 22 = .ok (.i2l, 1) := by decide +kernel
theorem dX2_shareOf_23 : decode cX2_shareOf 23 = .ok (.invokestatic 160, 3) := by decide +kernel
theorem dX2_shareOf_26 : decode cX2_shareOf 26 = .ok (.l2i, 1) := by decide +kernel
theorem dX2_shareOf_27 : decode cX2_shareOf 27 = .ok (.ireturn, 1) := by decide +kernel
theorem dX2_carry_0 : decode cX2_carry 0 = .ok (.aload_n 1, 1) := by decide +kernel
theorem dX2_carry_1 : decode cX2_carry 1 = .ok (.iload_n 2, 1) := by decide +kernel
theorem dX2_carry_2 : decode cX2_carry 2 = .ok (.invokevirtual 150, 3) := by decide +kernel
theorem dX2_carry_5 : decode cX2_carry 5 = .ok (.istore 4, 2) := by decide +kernel
theorem dX2_carry_7 : decode cX2_carry 7 = .ok (.iload 4, 2) := by decide +kernel
theorem dX2_carry_9 : decode cX2_carry 9 = .ok (.iconst (-1), 1) := by decide +kernel
theorem dX2_carry_10 : decode cX2_carry 10 = .ok (.if_icmp .eq 32, 3) := by decide +kernel
theorem dX2_carry_13 : decode cX2_carry 13 = .ok (.aload_n 1, 1) := by decide +kernel
theorem dX2_carry_14 : decode cX2_carry 14 = .ok (.iload_n 2, 1) := by decide +kernel
theorem dX2_carry_15 : decode cX2_carry 15 = .ok (.iload 4, 2) := by decide +kernel
theorem dX2_carry_17 : decode cX2_carry 17 = .ok (.iload_n 3, 1) := by decide +kernel
theorem dX2_carry_18 : decode cX2_carry 18 = .ok (.invokevirtual 188, 3) := by decide +kernel
theorem dX2_carry_21 : decode cX2_carry 21 = .ok (.aload_n 0, 1) := by decide +kernel
theorem dX2_carry_22 : decode cX2_carry 22 = .ok (.getfield 21, 3) := by decide +kernel
theorem dX2_carry_25 : decode cX2_carry 25 = .ok (.aload_n 1, 1) := by decide +kernel
theorem dX2_carry_26 : decode cX2_carry 26 = .ok (.getfield 105, 3) := by decide +kernel
theorem dX2_carry_29 : decode cX2_carry 29 = .ok (.iload 4, 2) := by decide +kernel
theorem dX2_carry_31 : decode cX2_carry 31 = .ok (.iaload, 1) := by decide +kernel
theorem dX2_carry_32 : decode cX2_carry 32 = .ok (.aaload, 1) := by decide +kernel
theorem dX2_carry_33 : decode cX2_carry 33 = .ok (.dup, 1) := by decide +kernel
theorem dX2_carry_34 : decode cX2_carry 34 = .ok (.getfield 173, 3) := by decide +kernel
theorem dX2_carry_37 : decode cX2_carry 37 = .ok (.iload_n 3, 1) := by decide +kernel
theorem dX2_carry_38 : decode cX2_carry 38 = .ok (.iadd, 1) := by decide +kernel
theorem dX2_carry_39 : decode cX2_carry 39 = .ok (.putfield 173, 3) := by decide +kernel
theorem dX2_carry_42 : decode cX2_carry 42 = .ok (.return_, 1) := by decide +kernel
theorem dX2_spreadLoadsOf_0 : decode cX2_spreadLoadsOf 0 = .ok (.iconst 0, 1) := by decide +kernel
theorem dX2_spreadLoadsOf_1 : decode cX2_spreadLoadsOf 1 = .ok (.istore_n 3, 1) := by decide +kernel
theorem dX2_spreadLoadsOf_2 : decode cX2_spreadLoadsOf 2 = .ok (.iload_n 3, 1) := by decide +kernel
theorem dX2_spreadLoadsOf_3 : decode cX2_spreadLoadsOf 3 = .ok (.bipush 10, 2) := by decide +kernel
theorem dX2_spreadLoadsOf_5 : decode cX2_spreadLoadsOf 5 = .ok (.if_icmp .ge 46, 3) := by decide +kernel
theorem dX2_spreadLoadsOf_8 : decode cX2_spreadLoadsOf 8 = .ok (.aload_n 0, 1) := by decide +kernel
theorem dX2_spreadLoadsOf_9 : decode cX2_spreadLoadsOf 9 = .ok (.getfield 21, 3) := by decide +kernel
theorem dX2_spreadLoadsOf_12 : decode cX2_spreadLoadsOf 12 = .ok (.iload_n 3, 1) := by decide +kernel
theorem dX2_spreadLoadsOf_13 : decode cX2_spreadLoadsOf 13 = .ok (.aaload, 1) := by decide +kernel
theorem dX2_spreadLoadsOf_14 : decode cX2_spreadLoadsOf 14 = .ok (.aload_n 0, 1) := by decide +kernel
theorem dX2_spreadLoadsOf_15 : decode cX2_spreadLoadsOf 15 = .ok (.getfield 21, 3) := by decide +kernel
theorem dX2_spreadLoadsOf_18 : decode cX2_spreadLoadsOf 18 = .ok (.iload_n 3, 1) := by decide +kernel
theorem dX2_spreadLoadsOf_19 : decode cX2_spreadLoadsOf 19 = .ok (.aaload, 1) := by decide +kernel
theorem dX2_spreadLoadsOf_20 : decode cX2_spreadLoadsOf 20 = .ok (.getfield 74, 3) := by decide +kernel
theorem dX2_spreadLoadsOf_23 : decode cX2_spreadLoadsOf 23 = .ok (.putfield 190, 3) := by decide +kernel
theorem dX2_spreadLoadsOf_26 : decode cX2_spreadLoadsOf 26 = .ok (.aload_n 0, 1) := by decide +kernel
theorem dX2_spreadLoadsOf_27 : decode cX2_spreadLoadsOf 27 = .ok (.getfield 21, 3) := by decide +kernel
theorem dX2_spreadLoadsOf_30 : decode cX2_spreadLoadsOf 30 = .ok (.iload_n 3, 1) := by decide +kernel
theorem dX2_spreadLoadsOf_31 : decode cX2_spreadLoadsOf 31 = .ok (.aaload, 1) := by decide +kernel
theorem dX2_spreadLoadsOf_32 : decode cX2_spreadLoadsOf 32 = .ok (.iload_n 3, 1) := by decide +kernel
theorem dX2_spreadLoadsOf_33 : decode cX2_spreadLoadsOf 33 = .ok (.iload_n 1, 1) := by decide +kernel
theorem dX2_spreadLoadsOf_34 : decode cX2_spreadLoadsOf 34 = .ok (.if_icmp .ne 7, 3) := by decide +kernel
theorem dX2_spreadLoadsOf_37 : decode cX2_spreadLoadsOf 37 = .ok (.iload_n 2, 1) := by decide +kernel
theorem dX2_spreadLoadsOf_38 : decode cX2_spreadLoadsOf 38 = .ok (.goto 4, 3) := by decide +kernel
theorem dX2_spreadLoadsOf_41 : decode cX2_spreadLoadsOf 41 = .ok (.iconst 0, 1) := by decide +kernel
theorem dX2_spreadLoadsOf_42 : decode cX2_spreadLoadsOf 42 = .ok (.putfield 74, 3) := by decide +kernel
theorem dX2_spreadLoadsOf_45 : decode cX2_spreadLoadsOf 45 = .ok (.iinc 3 1, 3) := by decide +kernel
theorem dX2_spreadLoadsOf_48 : decode cX2_spreadLoadsOf 48 = .ok (.goto (-46), 3) := by decide +kernel
theorem dX2_spreadLoadsOf_51 : decode cX2_spreadLoadsOf 51 = .ok (.aload_n 0, 1) := by decide +kernel
theorem dX2_spreadLoadsOf_52 : decode cX2_spreadLoadsOf 52 = .ok (.invokevirtual 167, 3) := by decide +kernel
theorem dX2_spreadLoadsOf_55 : decode cX2_spreadLoadsOf 55 = .ok (.iconst 0, 1) := by decide +kernel
theorem dX2_spreadLoadsOf_56 : decode cX2_spreadLoadsOf 56 = .ok (.istore_n 3, 1) := by decide +kernel
theorem dX2_spreadLoadsOf_57 : decode cX2_spreadLoadsOf 57 = .ok (.iload_n 3, 1) := by decide +kernel
theorem dX2_spreadLoadsOf_58 : decode cX2_spreadLoadsOf 58 = .ok (.bipush 10, 2) := by decide +kernel
theorem dX2_spreadLoadsOf_60 : decode cX2_spreadLoadsOf 60 = .ok (.if_icmp .ge 27, 3) := by decide +kernel
theorem dX2_spreadLoadsOf_63 : decode cX2_spreadLoadsOf 63 = .ok (.aload_n 0, 1) := by decide +kernel
theorem dX2_spreadLoadsOf_64 : decode cX2_spreadLoadsOf 64 = .ok (.getfield 21, 3) := by decide +kernel
theorem dX2_spreadLoadsOf_67 : decode cX2_spreadLoadsOf 67 = .ok (.iload_n 3, 1) := by decide +kernel
theorem dX2_spreadLoadsOf_68 : decode cX2_spreadLoadsOf 68 = .ok (.aaload, 1) := by decide +kernel
theorem dX2_spreadLoadsOf_69 : decode cX2_spreadLoadsOf 69 = .ok (.aload_n 0, 1) := by decide +kernel
theorem dX2_spreadLoadsOf_70 : decode cX2_spreadLoadsOf 70 = .ok (.getfield 21, 3) := by decide +kernel
theorem dX2_spreadLoadsOf_73 : decode cX2_spreadLoadsOf 73 = .ok (.iload_n 3, 1) := by decide +kernel
theorem dX2_spreadLoadsOf_74 : decode cX2_spreadLoadsOf 74 = .ok (.aaload, 1) := by decide +kernel
theorem dX2_spreadLoadsOf_75 : decode cX2_spreadLoadsOf 75 = .ok (.getfield 190, 3) := by decide +kernel
theorem dX2_spreadLoadsOf_78 : decode cX2_spreadLoadsOf 78 = .ok (.putfield 74, 3) := by decide +kernel
theorem dX2_spreadLoadsOf_81 : decode cX2_spreadLoadsOf 81 = .ok (.iinc 3 1, 3) := by decide +kernel
theorem dX2_spreadLoadsOf_84 : decode cX2_spreadLoadsOf 84 = .ok (.goto (-27), 3) := by decide +kernel
theorem dX2_spreadLoadsOf_87 : decode cX2_spreadLoadsOf 87 = .ok (.return_, 1) := by decide +kernel
theorem dX2_changing_0 : decode cX2_changing 0 = .ok (.iconst 0, 1) := by decide +kernel
theorem dX2_changing_1 : decode cX2_changing 1 = .ok (.istore_n 1, 1) := by decide +kernel
theorem dX2_changing_2 : decode cX2_changing 2 = .ok (.iconst 0, 1) := by decide +kernel
theorem dX2_changing_3 : decode cX2_changing 3 = .ok (.istore_n 2, 1) := by decide +kernel
theorem dX2_changing_4 : decode cX2_changing 4 = .ok (.iload_n 2, 1) := by decide +kernel
theorem dX2_changing_5 : decode cX2_changing 5 = .ok (.bipush 10, 2) := by decide +kernel
theorem dX2_changing_7 : decode cX2_changing 7 = .ok (.if_icmp .ge 33, 3) := by decide +kernel
theorem dX2_changing_10 : decode cX2_changing 10 = .ok (.iload_n 1, 1) := by decide +kernel
theorem dX2_changing_11 : decode cX2_changing 11 = .ok (.iload_n 2, 1) := by decide +kernel
theorem dX2_changing_12 : decode cX2_changing 12 = .ok (.aload_n 0, 1) := by decide +kernel
theorem dX2_changing_13 : decode cX2_changing 13 = .ok (.getfield 82, 3) := by decide +kernel
theorem dX2_changing_16 : decode cX2_changing 16 = .ok (.if_icmp .ne 7, 3) := by decide +kernel
theorem dX2_changing_19 : decode cX2_changing 19 = .ok (.iconst 0, 1) := by decide +kernel
theorem dX2_changing_20 : decode cX2_changing 20 = .ok (.goto 12, 3) := by decide +kernel
theorem dX2_changing_23 : decode cX2_changing 23 = .ok (.aload_n 0, 1) := by decide +kernel
theorem dX2_changing_24 : decode cX2_changing 24 = .ok (.getfield 21, 3) := by decide +kernel
theorem dX2_changing_27 : decode cX2_changing 27 = .ok (.iload_n 2, 1) := by decide +kernel
theorem dX2_changing_28 : decode cX2_changing 28 = .ok (.aaload, 1) := by decide +kernel
theorem dX2_changing_29 : decode cX2_changing 29 = .ok (.getfield 173, 3) := by decide +kernel
theorem dX2_changing_32 : decode cX2_changing 32 = .ok (.iadd, 1) := by decide +kernel
theorem dX2_changing_33 : decode cX2_changing 33 = .ok (.istore_n 1, 1) := by decide +kernel
theorem dX2_changing_34 : decode cX2_changing 34 = .ok (.iinc 2 1, 3) := by decide +kernel
theorem dX2_changing_37 : decode cX2_changing 37 = .ok (.goto (-33), 3) := by decide +kernel
theorem dX2_changing_40 : decode cX2_changing 40 = .ok (.iload_n 1, 1) := by decide +kernel
theorem dX2_changing_41 : decode cX2_changing 41 = .ok (.ireturn, 1) := by decide +kernel
theorem dX2_ridingPoints_0 : decode cX2_ridingPoints 0 = .ok (.lconst 0, 1) := by decide +kernel
theorem dX2_ridingPoints_1 : decode cX2_ridingPoints 1 = .ok (.lstore_n 1, 1) := by decide +kernel
theorem dX2_ridingPoints_2 : decode cX2_ridingPoints 2 = .ok (.iconst 0, 1) := by decide +kernel
theorem dX2_ridingPoints_3 : decode cX2_ridingPoints 3 = .ok (.istore_n 3, 1) := by decide +kernel
theorem dX2_ridingPoints_4 : decode cX2_ridingPoints 4 = .ok (.iload_n 3, 1) := by decide +kernel
theorem dX2_ridingPoints_5 : decode cX2_ridingPoints 5 = .ok (.aload_n 0, 1) := by decide +kernel
theorem dX2_ridingPoints_6 : decode cX2_ridingPoints 6 = .ok (.getfield 41, 3) := by decide +kernel
theorem dX2_ridingPoints_9 : decode cX2_ridingPoints 9 = .ok (.if_icmp .ge 63, 3) := by decide +kernel
theorem dX2_ridingPoints_12 : decode cX2_ridingPoints 12 = .ok (.iconst 0, 1) := by decide +kernel
theorem dX2_ridingPoints_13 : decode cX2_ridingPoints 13 = .ok (.istore 4, 2) := by decide +kernel
theorem dX2_ridingPoints_15 : decode cX2_ridingPoints 15 = .ok (.iload 4, 2) := by decide +kernel
theorem dX2_ridingPoints_17 : decode cX2_ridingPoints 17 = .ok (.aload_n 0, 1) := by decide +kernel
theorem dX2_ridingPoints_18 : decode cX2_ridingPoints 18 = .ok (.getfield 13, 3) := by decide +kernel
theorem dX2_ridingPoints_21 : decode cX2_ridingPoints 21 = .ok (.iload_n 3, 1) := by decide +kernel
theorem dX2_ridingPoints_22 : decode cX2_ridingPoints 22 = .ok (.aaload, 1) := by decide +kernel
theorem dX2_ridingPoints_23 : decode cX2_ridingPoints 23 = .ok (.getfield 77, 3) := by decide +kernel
theorem dX2_ridingPoints_26 : decode cX2_ridingPoints 26 = .ok (.iconst 1, 1) := by decide +kernel
theorem dX2_ridingPoints_27 : decode cX2_ridingPoints 27 = .ok (.isub, 1) := by decide +kernel
theorem dX2_ridingPoints_28 : decode cX2_ridingPoints 28 = .ok (.if_icmp .ge 38, 3) := by decide +kernel
theorem dX2_ridingPoints_31 : decode cX2_ridingPoints 31 = .ok (.lload_n 1, 1) := by decide +kernel
theorem dX2_ridingPoints_32 : decode cX2_ridingPoints 32 = .ok (.aload_n 0, 1) := by decide +kernel
theorem dX2_ridingPoints_33 : decode cX2_ridingPoints 33 = .ok (.getfield 13, 3) := by decide +kernel
theorem dX2_ridingPoints_36 : decode cX2_ridingPoints 36 = .ok (.iload_n 3, 1) := by decide +kernel
theorem dX2_ridingPoints_37 : decode cX2_ridingPoints 37 = .ok (.aaload, 1) := by decide +kernel
theorem dX2_ridingPoints_38 : decode cX2_ridingPoints 38 = .ok (.getfield 193, 3) := by decide +kernel
theorem dX2_ridingPoints_41 : decode cX2_ridingPoints 41 = .ok (.iload 4, 2) := by decide +kernel
theorem dX2_ridingPoints_43 : decode cX2_ridingPoints 43 = .ok (.iaload, 1) := by decide +kernel
theorem dX2_ridingPoints_44 : decode cX2_ridingPoints 44 = .ok (.i2l, 1) := by decide +kernel
theorem dX2_ridingPoints_45 : decode cX2_ridingPoints 45 = .ok (.aload_n 0, 1) := by decide +kernel
theorem dX2_ridingPoints_46 : decode cX2_ridingPoints 46 = .ok (.getfield 13, 3) := by decide +kernel
theorem dX2_ridingPoints_49 : decode cX2_ridingPoints 49 = .ok (.iload_n 3, 1) := by decide +kernel
theorem dX2_ridingPoints_50 : decode cX2_ridingPoints 50 = .ok (.aaload, 1) := by decide +kernel
theorem dX2_ridingPoints_51 : decode cX2_ridingPoints 51 = .ok (.iload 4, 2) := by decide +kernel
theorem dX2_ridingPoints_53 : decode cX2_ridingPoints 53 = .ok (.invokevirtual 196, 3) := by decide +kernel
theorem dX2_ridingPoints_56 : decode cX2_ridingPoints 56 = .ok (.i2l, 1) := by decide +kernel
theorem dX2_ridingPoints_57 : decode cX2_ridingPoints 57 = .ok (.lmul, 1) := by decide +kernel
theorem dX2_ridingPoints_58 : decode cX2_ridingPoints 58 = .ok (.ladd, 1) := by decide +kernel
theorem dX2_ridingPoints_59 : decode cX2_ridingPoints 59 = .ok (.lstore_n 1, 1) := by decide +kernel
theorem dX2_ridingPoints_60 : decode cX2_ridingPoints 60 = .ok (.iinc 4 1, 3) := by decide +kernel
theorem dX2_ridingPoints_63 : decode cX2_ridingPoints 63 = .ok (.goto (-48), 3) := by decide +kernel
theorem dX2_ridingPoints_66 : decode cX2_ridingPoints 66 = .ok (.iinc 3 1, 3) := by decide +kernel
theorem dX2_ridingPoints_69 : decode cX2_ridingPoints 69 = .ok (.goto (-65), 3) := by decide +kernel
theorem dX2_ridingPoints_72 : decode cX2_ridingPoints 72 = .ok (.lload_n 1, 1) := by decide +kernel
theorem dX2_ridingPoints_73 : decode cX2_ridingPoints 73 = .ok (.lreturn, 1) := by decide +kernel
theorem dX2_findTotal_0 : decode cX2_findTotal 0 = .ok (.aload_n 0, 1) := by decide +kernel
theorem dX2_findTotal_1 : decode cX2_findTotal 1 = .ok (.invokevirtual 164, 3) := by decide +kernel
theorem dX2_findTotal_4 : decode cX2_findTotal 4 = .ok (.aload_n 0, 1) := by decide +kernel
theorem dX2_findTotal_5 : decode cX2_findTotal 5 = .ok (.lconst 0, 1) := by decide +kernel
theorem dX2_findTotal_6 : decode cX2_findTotal 6 = .ok (.putfield 199, 3) := by decide +kernel
theorem dX2_findTotal_9 : decode cX2_findTotal 9 = .ok (.aload_n 0, 1) := by decide +kernel
theorem dX2_findTotal_10 : decode cX2_findTotal 10 = .ok (.lconst 0, 1) := by decide +kernel
theorem dX2_findTotal_11 : decode cX2_findTotal 11 = .ok (.putfield 203, 3) := by decide +kernel
theorem dX2_findTotal_14 : decode cX2_findTotal 14 = .ok (.iconst 0, 1) := by decide +kernel
theorem dX2_findTotal_15 : decode cX2_findTotal 15 = .ok (.istore_n 1, 1) := by decide +kernel
theorem dX2_findTotal_16 : decode cX2_findTotal 16 = .ok (.iload_n 1, 1) := by decide +kernel
theorem dX2_findTotal_17 : decode cX2_findTotal 17 = .ok (.bipush 10, 2) := by decide +kernel
theorem dX2_findTotal_19 : decode cX2_findTotal 19 = .ok (.if_icmp .ge 69, 3) := by decide +kernel
theorem dX2_findTotal_22 : decode cX2_findTotal 22 = .ok (.aload_n 0, 1) := by decide +kernel
theorem dX2_findTotal_23 : decode cX2_findTotal 23 = .ok (.getfield 21, 3) := by decide +kernel
theorem dX2_findTotal_26 : decode cX2_findTotal 26 = .ok (.iload_n 1, 1) := by decide +kernel
theorem dX2_findTotal_27 : decode cX2_findTotal 27 = .ok (.aaload, 1) := by decide +kernel
theorem dX2_findTotal_28 : decode cX2_findTotal 28 = .ok (.astore_n 2, 1) := by decide +kernel
theorem dX2_findTotal_29 : decode cX2_findTotal 29 = .ok (.aload_n 2, 1) := by decide +kernel
theorem dX2_findTotal_30 : decode cX2_findTotal 30 = .ok (.getfield 85, 3) := by decide +kernel
theorem dX2_findTotal_33 : decode cX2_findTotal 33 = .ok (.iconst (-1), 1) := by decide +kernel
theorem dX2_findTotal_34 : decode cX2_findTotal 34 = .ok (.if_icmp .eq 26, 3) := by decide +kernel
theorem dX2_findTotal_37 : decode cX2_findTotal 37 = .ok (.aload_n 0, 1) := by decide +kernel
theorem dX2_findTotal_38 : decode cX2_findTotal 38 = .ok (.dup, 1) := by decide +kernel
theorem dX2_findTotal_39 : decode cX2_findTotal 39 = .ok (.getfield 199, 3) := by decide +kernel
theorem dX2_findTotal_42 : decode cX2_findTotal 42 = .ok (.aload_n 2, 1) := by decide +kernel
theorem dX2_findTotal_43 : decode cX2_findTotal 43 = .ok (.getfield 74, 3) := by decide +kernel
theorem dX2_findTotal_46 : decode cX2_findTotal 46 = .ok (.i2l, 1) := by decide +kernel
theorem dX2_findTotal_47 : decode cX2_findTotal 47 = .ok (.aload_n 2, 1) := by decide +kernel
theorem dX2_findTotal_48 : decode cX2_findTotal 48 = .ok (.getfield 85, 3) := by decide +kernel
theorem dX2_findTotal_51 : decode cX2_findTotal 51 = .ok (.i2l, 1) := by decide +kernel
theorem dX2_findTotal_52 : decode cX2_findTotal 52 = .ok (.lmul, 1) := by decide +kernel
theorem dX2_findTotal_53 : decode cX2_findTotal 53 = .ok (.ladd, 1) := by decide +kernel
theorem dX2_findTotal_54 : decode cX2_findTotal 54 = .ok (.putfield 199, 3) := by decide +kernel
theorem dX2_findTotal_57 : decode cX2_findTotal 57 = .ok (.goto 25, 3) := by decide +kernel
theorem dX2_findTotal_60 : decode cX2_findTotal 60 = .ok (.iload_n 1, 1) := by decide +kernel
theorem dX2_findTotal_61 : decode cX2_findTotal 61 = .ok (.aload_n 0, 1) := by decide +kernel
theorem dX2_findTotal_62 : decode cX2_findTotal 62 = .ok (.getfield 82, 3) := by decide +kernel
theorem dX2_findTotal_65 : decode cX2_findTotal 65 = .ok (.if_icmp .eq 17, 3) := by decide +kernel
theorem dX2_findTotal_68 : decode cX2_findTotal 68 = .ok (.aload_n 0, 1) := by decide +kernel
theorem dX2_findTotal_69 : decode cX2_findTotal 69 = .ok (.dup, 1) := by decide +kernel
theorem dX2_findTotal_70 : decode cX2_findTotal 70 = .ok (.getfield 203, 3) := by decide +kernel
theorem dX2_findTotal_73 : decode cX2_findTotal 73 = .ok (.aload_n 2, 1) := by decide +kernel
theorem dX2_findTotal_74 : decode cX2_findTotal 74 = .ok (.getfield 74, 3) := by decide +kernel
theorem dX2_findTotal_77 : decode cX2_findTotal 77 = .ok (.i2l, 1) := by decide +kernel
theorem dX2_findTotal_78 : decode cX2_findTotal 78 = .ok (.ladd, 1) := by decide +kernel
theorem dX2_findTotal_79 : decode cX2_findTotal 79 = .ok (.putfield 203, 3) := by decide +kernel
theorem dX2_findTotal_82 : decode cX2_findTotal 82 = .ok (.iinc 1 1, 3) := by decide +kernel
theorem dX2_findTotal_85 : decode cX2_findTotal 85 = .ok (.goto (-69), 3) := by decide +kernel
theorem dX2_findTotal_88 : decode cX2_findTotal 88 = .ok (.return_, 1) := by decide +kernel
theorem dX2_findTotalSkipping_0 : decode cX2_findTotalSkipping 0 = .ok (.aload_n 0, 1) := by decide +kernel
theorem dX2_findTotalSkipping_1 : decode cX2_findTotalSkipping 1 = .ok (.getfield 36, 3) := by decide +kernel
theorem dX2_findTotalSkipping_4 : decode cX2_findTotalSkipping 4 = .ok (.aload_n 1, 1) := by decide +kernel
theorem dX2_findTotalSkipping_5 : decode cX2_findTotalSkipping 5 = .ok (.invokevirtual 206, 3) := by decide +kernel
theorem dX2_findTotalSkipping_8 : decode cX2_findTotalSkipping 8 = .ok (.aload_n 1, 1) := by decide +kernel
theorem dX2_findTotalSkipping_9 : decode cX2_findTotalSkipping 9 = .ok (.iload_n 2, 1) := by decide +kernel
theorem dX2_findTotalSkipping_10 : decode cX2_findTotalSkipping 10 = .ok (.invokevirtual 210, 3) := by decide +kernel
theorem dX2_findTotalSkipping_13 : decode cX2_findTotalSkipping 13 = .ok (.aload_n 0, 1) := by decide +kernel
theorem dX2_findTotalSkipping_14 : decode cX2_findTotalSkipping 14 = .ok (.invokevirtual 214, 3) := by decide +kernel
theorem dX2_findTotalSkipping_17 : decode cX2_findTotalSkipping 17 = .ok (.aload_n 1, 1) := by decide +kernel
theorem dX2_findTotalSkipping_18 : decode cX2_findTotalSkipping 18 = .ok (.aload_n 0, 1) := by decide +kernel
theorem dX2_findTotalSkipping_19 : decode cX2_findTotalSkipping 19 = .ok (.getfield 36, 3) := by decide +kernel
theorem dX2_findTotalSkipping_22 : decode cX2_findTotalSkipping 22 = .ok (.invokevirtual 206, 3) := by decide +kernel
theorem dX2_findTotalSkipping_25 : decode cX2_findTotalSkipping 25 = .ok (.return_, 1) := by decide +kernel
theorem dX2_settleOnce_0 : decode cX2_settleOnce 0 = .ok (.aload_n 0, 1) := by decide +kernel
theorem dX2_settleOnce_1 : decode cX2_settleOnce 1 = .ok (.invokevirtual 217, 3) := by decide +kernel
theorem dX2_settleOnce_4 : decode cX2_settleOnce 4 = .ok (.aload_n 0, 1) := by decide +kernel
theorem dX2_settleOnce_5 : decode cX2_settleOnce 5 = .ok (.dup, 1) := by decide +kernel
theorem dX2_settleOnce_6 : decode cX2_settleOnce 6 = .ok (.getfield 60, 3) := by decide +kernel
theorem dX2_settleOnce_9 : decode cX2_settleOnce 9 = .ok (.iconst 1, 1) := by decide +kernel
theorem dX2_settleOnce_10 : decode cX2_settleOnce 10 = .ok (.iadd, 1) := by decide +kernel
theorem dX2_settleOnce_11 : decode cX2_settleOnce 11 = .ok (.putfield 60, 3) := by decide +kernel
theorem dX2_settleOnce_14 : decode cX2_settleOnce 14 = .ok (.iconst 0, 1) := by decide +kernel
theorem dX2_settleOnce_15 : decode cX2_settleOnce 15 = .ok (.istore_n 1, 1) := by decide +kernel
theorem dX2_settleOnce_16 : decode cX2_settleOnce 16 = .ok (.iconst 0, 1) := by decide +kernel
theorem dX2_settleOnce_17 : decode cX2_settleOnce 17 = .ok (.istore_n 2, 1) := by decide +kernel
theorem dX2_settleOnce_18 : decode cX2_settleOnce 18 = .ok (.iload_n 2, 1) := by decide +kernel
theorem dX2_settleOnce_19 : decode cX2_settleOnce 19 = .ok (.aload_n 0, 1) := by decide +kernel
theorem dX2_settleOnce_20 : decode cX2_settleOnce 20 = .ok (.getfield 41, 3) := by decide +kernel
theorem dX2_settleOnce_23 : decode cX2_settleOnce 23 = .ok (.if_icmp .ge 29, 3) := by decide +kernel
theorem dX2_settleOnce_26 : decode cX2_settleOnce 26 = .ok (.iload_n 1, 1) := by decide +kernel
theorem dX2_settleOnce_27 : decode cX2_settleOnce 27 = .ok (.aload_n 0, 1) := by decide +kernel
theorem dX2_settleOnce_28 : decode cX2_settleOnce 28 = .ok (.getfield 13, 3) := by decide +kernel
theorem dX2_settleOnce_31 : decode cX2_settleOnce 31 = .ok (.iload_n 2, 1) := by decide +kernel
theorem dX2_settleOnce_32 : decode cX2_settleOnce 32 = .ok (.aaload, 1) := by decide +kernel
theorem dX2_settleOnce_33 : decode cX2_settleOnce 33 = .ok (.aload_n 0, 1) := by decide +kernel
theorem dX2_settleOnce_34 : decode cX2_settleOnce 34 = .ok (.getfield 60, 3) := by decide +kernel
theorem dX2_settleOnce_37 : decode cX2_settleOnce 37 = .ok (.aload_n 0, 1) := by decide +kernel
theorem dX2_settleOnce_38 : decode cX2_settleOnce 38 = .ok (.getfield 220, 3) := by decide +kernel
theorem dX2_settleOnce_41 : decode cX2_settleOnce 41 = .ok (.invokevirtual 223, 3) := by decide +kernel
theorem dX2_settleOnce_44 : decode cX2_settleOnce 44 = .ok (.iadd, 1) := by decide +kernel
theorem dX2_settleOnce_45 : decode cX2_settleOnce 45 = .ok (.istore_n 1, 1) := by decide +kernel
theorem dX2_settleOnce_46 : decode cX2_settleOnce 46 = .ok (.iinc 2 1, 3) := by decide +kernel
theorem dX2_settleOnce_49 : decode cX2_settleOnce 49 = .ok (.goto (-31), 3) := by decide +kernel
theorem dX2_settleOnce_52 : decode cX2_settleOnce 52 = .ok (.iload_n 1, 1) := by decide +kernel
theorem dX2_settleOnce_53 : decode cX2_settleOnce 53 = .ok (.ireturn, 1) := by decide +kernel
theorem dX2_forgetCrowds_0 : decode cX2_forgetCrowds 0 = .ok (.aload_n 0, 1) := by decide +kernel
theorem dX2_forgetCrowds_1 : decode cX2_forgetCrowds 1 = .ok (.iconst 0, 1) := by decide +kernel
theorem dX2_forgetCrowds_2 : decode cX2_forgetCrowds 2 = .ok (.putfield 60, 3) := by decide +kernel
theorem dX2_forgetCrowds_5 : decode cX2_forgetCrowds 5 = .ok (.iconst 0, 1) := by decide +kernel
theorem dX2_forgetCrowds_6 : decode cX2_forgetCrowds 6 = .ok (.istore_n 1, 1) := by decide +kernel
theorem dX2_forgetCrowds_7 : decode cX2_forgetCrowds 7 = .ok (.iload_n 1, 1) := by decide +kernel
theorem dX2_forgetCrowds_8 : decode cX2_forgetCrowds 8 = .ok (.aload_n 0, 1) := by decide +kernel
theorem dX2_forgetCrowds_9 : decode cX2_forgetCrowds 9 = .ok (.getfield 41, 3) := by decide +kernel
theorem dX2_forgetCrowds_12 : decode cX2_forgetCrowds 12 = .ok (.if_icmp .ge 47, 3) := by decide +kernel
theorem dX2_forgetCrowds_15 : decode cX2_forgetCrowds 15 = .ok (.iconst 0, 1) := by decide +kernel
theorem dX2_forgetCrowds_16 : decode cX2_forgetCrowds 16 = .ok (.istore_n 2, 1) := by decide +kernel
theorem dX2_forgetCrowds_17 : decode cX2_forgetCrowds 17 = .ok (.iload_n 2, 1) := by decide +kernel
theorem dX2_forgetCrowds_18 : decode cX2_forgetCrowds 18 = .ok (.bipush 8, 2) := by decide +kernel
theorem dX2_forgetCrowds_20 : decode cX2_forgetCrowds 20 = .ok (.if_icmp .ge 33, 3) := by decide +kernel
theorem dX2_forgetCrowds_23 : decode cX2_forgetCrowds 23 = .ok (.aload_n 0, 1) := by decide +kernel
theorem dX2_forgetCrowds_24 : decode cX2_forgetCrowds 24 = .ok (.getfield 13, 3) := by decide +kernel
theorem dX2_forgetCrowds_27 : decode cX2_forgetCrowds 27 = .ok (.iload_n 1, 1) := by decide +kernel
theorem dX2_forgetCrowds_28 : decode cX2_forgetCrowds 28 = .ok (.aaload, 1) := by decide +kernel
theorem dX2_forgetCrowds_29 : decode cX2_forgetCrowds 29 = .ok (.getfield 227, 3) := by decide +kernel
theorem dX2_forgetCrowds_32 : decode cX2_forgetCrowds 32 = .ok (.iload_n 2, 1) := by decide +kernel
theorem dX2_forgetCrowds_33 : decode cX2_forgetCrowds 33 = .ok (.iconst 0, 1) := by decide +kernel
theorem dX2_forgetCrowds_34 : decode cX2_forgetCrowds 34 = .ok (.iastore, 1) := by decide +kernel
theorem dX2_forgetCrowds_35 : decode cX2_forgetCrowds 35 = .ok (.aload_n 0, 1) := by decide +kernel
theorem dX2_forgetCrowds_36 : decode cX2_forgetCrowds 36 = .ok (.getfield 13, 3) := by decide +kernel
theorem dX2_forgetCrowds_39 : decode cX2_forgetCrowds 39 = .ok (.iload_n 1, 1) := by decide +kernel
theorem dX2_forgetCrowds_40 : decode cX2_forgetCrowds 40 = .ok (.aaload, 1) := by decide +kernel
theorem dX2_forgetCrowds_41 : decode cX2_forgetCrowds 41 = .ok (.getfield 230, 3) := by decide +kernel
theorem dX2_forgetCrowds_44 : decode cX2_forgetCrowds 44 = .ok (.iload_n 2, 1) := by decide +kernel
theorem dX2_forgetCrowds_45 : decode cX2_forgetCrowds 45 = .ok (.iconst 0, 1) := by decide +kernel
theorem dX2_forgetCrowds_46 : decode cX2_forgetCrowds 46 = .ok (.iastore, 1) := by decide +kernel
theorem dX2_forgetCrowds_47 : decode cX2_forgetCrowds 47 = .ok (.iinc 2 1, 3) := by decide +kernel
theorem dX2_forgetCrowds_50 : decode cX2_forgetCrowds 50 = .ok (.goto (-33), 3) := by decide +kernel
theorem dX2_forgetCrowds_53 : decode cX2_forgetCrowds 53 = .ok (.iinc 1 1, 3) := by decide +kernel
theorem dX2_forgetCrowds_56 : decode cX2_forgetCrowds 56 = .ok (.goto (-49), 3) := by decide +kernel
theorem dX2_forgetCrowds_59 : decode cX2_forgetCrowds 59 = .ok (.return_, 1) := by decide +kernel
theorem dX3_init_0 : decode cX3_init 0 = .ok (.aload_n 0, 1) := by decide +kernel
theorem dX3_init_1 : decode cX3_init 1 = .ok (.invokespecial 3, 3) := by decide +kernel
theorem dX3_init_4 : decode cX3_init 4 = .ok (.aload_n 0, 1) := by decide +kernel
theorem dX3_init_5 : decode cX3_init 5 = .ok (.bipush 16, 2) := by decide +kernel
theorem dX3_init_7 : decode cX3_init 7 = .ok (.newarray .long, 2) := by decide +kernel
theorem dX3_init_9 : decode cX3_init 9 = .ok (.putfield 9, 3) := by decide +kernel
theorem dX3_init_12 : decode cX3_init 12 = .ok (.return_, 1) := by decide +kernel
theorem dX3_empty_0 : decode cX3_empty 0 = .ok (.aload_n 0, 1) := by decide +kernel
theorem dX3_empty_1 : decode cX3_empty 1 = .ok (.iconst 0, 1) := by decide +kernel
theorem dX3_empty_2 : decode cX3_empty 2 = .ok (.putfield 15, 3) := by decide +kernel
theorem dX3_empty_5 : decode cX3_empty 5 = .ok (.return_, 1) := by decide +kernel
theorem dX3_put_0 : decode cX3_put 0 = .ok (.aload_n 0, 1) := by decide +kernel
theorem dX3_put_1 : decode cX3_put 1 = .ok (.getfield 15, 3) := by decide +kernel
theorem dX3_put_4 : decode cX3_put 4 = .ok (.bipush 16, 2) := by decide +kernel
theorem dX3_put_6 : decode cX3_put 6 = .ok (.if_icmp .ge 23, 3) := by decide +kernel
theorem dX3_put_9 : decode cX3_put 9 = .ok (.aload_n 0, 1) := by decide +kernel
theorem dX3_put_10 : decode cX3_put 10 = .ok (.getfield 9, 3) := by decide +kernel
theorem dX3_put_13 : decode cX3_put 13 = .ok (.aload_n 0, 1) := by decide +kernel
theorem dX3_put_14 : decode cX3_put 14 = .ok (.getfield 15, 3) := by decide +kernel
theorem dX3_put_17 : decode cX3_put 17 = .ok (.lload_n 1, 1) := by decide +kernel
theorem dX3_put_18 : decode cX3_put 18 = .ok (.lastore, 1) := by decide +kernel
theorem dX3_put_19 : decode cX3_put 19 = .ok (.aload_n 0, 1) := by decide +kernel
theorem dX3_put_20 : decode cX3_put 20 = .ok (.dup, 1) := by decide +kernel
theorem dX3_put_21 : decode cX3_put 21 = .ok (.getfield 15, 3) := by decide +kernel
theorem dX3_put_24 : decode cX3_put 24 = .ok (.iconst 1, 1) := by decide +kernel
theorem dX3_put_25 : decode cX3_put 25 = .ok (.iadd, 1) := by decide +kernel
theorem dX3_put_26 : decode cX3_put 26 = .ok (.putfield 15, 3) := by decide +kernel
theorem dX3_put_29 : decode cX3_put 29 = .ok (.return_, 1) := by decide +kernel
theorem dX3_putOne_0 : decode cX3_putOne 0 = .ok (.aload_n 0, 1) := by decide +kernel
theorem dX3_putOne_1 : decode cX3_putOne 1 = .ok (.invokevirtual 19, 3) := by decide +kernel
theorem dX3_putOne_4 : decode cX3_putOne 4 = .ok (.aload_n 0, 1) := by decide +kernel
theorem dX3_putOne_5 : decode cX3_putOne 5 = .ok (.lload_n 1, 1) := by decide +kernel
theorem dX3_putOne_6 : decode cX3_putOne 6 = .ok (.invokevirtual 22, 3) := by decide +kernel
theorem dX3_putOne_9 : decode cX3_putOne 9 = .ok (.return_, 1) := by decide +kernel
theorem dX3_putTwo_0 : decode cX3_putTwo 0 = .ok (.aload_n 0, 1) := by decide +kernel
theorem dX3_putTwo_1 : decode cX3_putTwo 1 = .ok (.invokevirtual 19, 3) := by decide +kernel
theorem dX3_putTwo_4 : decode cX3_putTwo 4 = .ok (.aload_n 0, 1) := by decide +kernel
theorem dX3_putTwo_5 : decode cX3_putTwo 5 = .ok (.lload_n 1, 1) := by decide +kernel
theorem dX3_putTwo_6 : decode cX3_putTwo 6 = .ok (.invokevirtual 22, 3) := by decide +kernel
theorem dX3_putTwo_9 : decode cX3_putTwo 9 = .ok (.aload_n 0, 1) := by decide +kernel
theorem dX3_putTwo_10 : decode cX3_putTwo 10 = .ok (.lload_n 3, 1) := by decide +kernel
theorem dX3_putTwo_11 : decode cX3_putTwo 11 = .ok (.invokevirtual 22, 3) := by decide +kernel
theorem dX3_putTwo_14 : decode cX3_putTwo 14 = .ok (.return_, 1) := by decide +kernel
theorem dX4_init_0 : decode cX4_init 0 = .ok (.aload_n 0, 1) := by decide +kernel
theorem dX4_init_1 : decode cX4_init 1 = .ok (.invokespecial 3, 3) := by decide +kernel
theorem dX4_init_4 : decode cX4_init 4 = .ok (.aload_n 0, 1) := by decide +kernel
theorem dX4_init_5 : decode cX4_init 5 = .ok (.iconst (-1), 1) := by decide +kernel
theorem dX4_init_6 : decode cX4_init 6 = .ok (.putfield 9, 3) := by decide +kernel
theorem dX4_init_9 : decode cX4_init 9 = .ok (.aload_n 0, 1) := by decide +kernel
theorem dX4_init_10 : decode cX4_init 10 = .ok (.bipush 12, 2) := by decide +kernel
theorem dX4_init_12 : decode cX4_init 12 = .ok (.newarray .int, 2) := by decide +kernel
theorem dX4_init_14 : decode cX4_init 14 = .ok (.putfield 15, 3) := by decide +kernel
theorem dX4_init_17 : decode cX4_init 17 = .ok (.aload_n 0, 1) := by decide +kernel
theorem dX4_init_18 : decode cX4_init 18 = .ok (.bipush 12, 2) := by decide +kernel
theorem dX4_init_20 : decode cX4_init 20 = .ok (.newarray .int, 2) := by decide +kernel
theorem dX4_init_22 : decode cX4_init 22 = .ok (.putfield 19, 3) := by decide +kernel
theorem dX4_init_25 : decode cX4_init 25 = .ok (.aload_n 0, 1) := by decide +kernel
theorem dX4_init_26 : decode cX4_init 26 = .ok (.bipush 12, 2) := by decide +kernel
theorem dX4_init_28 : decode cX4_init 28 = .ok (.newarray .int, 2) := by decide +kernel
theorem dX4_init_30 : decode cX4_init 30 = .ok (.putfield 22, 3) := by decide +kernel
theorem dX4_init_33 : decode cX4_init 33 = .ok (.return_, 1) := by decide +kernel
theorem dX4_forgetOffers_0 : decode cX4_forgetOffers 0 = .ok (.aload_n 0, 1) := by decide +kernel
theorem dX4_forgetOffers_1 : decode cX4_forgetOffers 1 = .ok (.iconst 0, 1) := by decide +kernel
theorem dX4_forgetOffers_2 : decode cX4_forgetOffers 2 = .ok (.putfield 25, 3) := by decide +kernel
theorem dX4_forgetOffers_5 : decode cX4_forgetOffers 5 = .ok (.aload_n 0, 1) := by decide +kernel
theorem dX4_forgetOffers_6 : decode cX4_forgetOffers 6 = .ok (.iconst 0, 1) := by decide +kernel
theorem dX4_forgetOffers_7 : decode cX4_forgetOffers 7 = .ok (.putfield 28, 3) := by decide +kernel
theorem dX4_forgetOffers_10 : decode cX4_forgetOffers 10 = .ok (.aload_n 0, 1) := by decide +kernel
theorem dX4_forgetOffers_11 : decode cX4_forgetOffers 11 = .ok (.iconst 0, 1) := by decide +kernel
theorem dX4_forgetOffers_12 : decode cX4_forgetOffers 12 = .ok (.putfield 31, 3) := by decide +kernel
theorem dX4_forgetOffers_15 : decode cX4_forgetOffers 15 = .ok (.return_, 1) := by decide +kernel
theorem dX4_offer_0 : decode cX4_offer 0 = .ok (.aload_n 0, 1) := by decide +kernel
theorem dX4_offer_1 : decode cX4_offer 1 = .ok (.getfield 25, 3) := by decide +kernel
theorem dX4_offer_4 : decode cX4_offer 4 = .ok (.bipush 12, 2) := by decide +kernel
theorem dX4_offer_6 : decode cX4_offer 6 = .ok (.if_icmp .lt 4, 3) := by decide +kernel
theorem dX4_offer_9 : decode cX4_offer 9 = .ok (.return_, 1) := by decide +kernel
theorem dX4_offer_10 : decode cX4_offer 10 = .ok (.aload_n 0, 1) := by decide +kernel
theorem dX4_offer_11 : decode cX4_offer 11 = .ok (.getfield 25, 3) := by decide +kernel
theorem dX4_offer_14 : decode cX4_offer 14 = .ok (.istore 4, 2) := by decide +kernel
theorem dX4_offer_16 : decode cX4_offer 16 = .ok (.iload 4, 2) := by decide +kernel
theorem dX4_offer_18 : decode cX4_offer 18 = .ok (.ifCond .le 70, 3) := by decide +kernel
theorem dX4_offer_21 : decode cX4_offer 21 = .ok (.aload_n 0, 1) := by decide +kernel
theorem dX4_offer_22 : decode cX4_offer 22 = .ok (.getfield 22, 3) := by decide +kernel
theorem dX4_offer_25 : decode cX4_offer 25 = .ok (.iload 4, 2) := by decide +kernel
theorem dX4_offer_27 : decode cX4_offer 27 = .ok (.iconst 1, 1) := by decide +kernel
theorem dX4_offer_28 : decode cX4_offer 28 = .ok (.isub, 1) := by decide +kernel
theorem dX4_offer_29 : decode cX4_offer 29 = .ok (.iaload, 1) := by decide +kernel
theorem dX4_offer_30 : decode cX4_offer 30 = .ok (.iload_n 3, 1) := by decide +kernel
theorem dX4_offer_31 : decode cX4_offer 31 = .ok (.if_icmp .le 57, 3) := by decide +kernel
theorem dX4_offer_34 : decode cX4_offer 34 = .ok (.aload_n 0, 1) := by decide +kernel
theorem dX4_offer_35 : decode cX4_offer 35 = .ok (.getfield 15, 3) := by decide +kernel
theorem dX4_offer_38 : decode cX4_offer 38 = .ok (.iload 4, 2) := by decide +kernel
theorem dX4_offer_40 : decode cX4_offer 40 = .ok (.aload_n 0, 1) := by decide +kernel
theorem dX4_offer_41 : decode cX4_offer 41 = .ok (.getfield 15, 3) := by decide +kernel
theorem dX4_offer_44 : decode cX4_offer 44 = .ok (.iload 4, 2) := by decide +kernel
theorem dX4_offer_46 : decode cX4_offer 46 = .ok (.iconst 1, 1) := by decide +kernel
theorem dX4_offer_47 : decode cX4_offer 47 = .ok (.isub, 1) := by decide +kernel
theorem dX4_offer_48 : decode cX4_offer 48 = .ok (.iaload, 1) := by decide +kernel
theorem dX4_offer_49 : decode cX4_offer 49 = .ok (.iastore, 1) := by decide +kernel
theorem dX4_offer_50 : decode cX4_offer 50 = .ok (.aload_n 0, 1) := by decide +kernel
theorem dX4_offer_51 : decode cX4_offer 51 = .ok (.getfield 19, 3) := by decide +kernel
theorem dX4_offer_54 : decode cX4_offer 54 = .ok (.iload 4, 2) := by decide +kernel
theorem dX4_offer_56 : decode cX4_offer 56 = .ok (.aload_n 0, 1) := by decide +kernel
theorem dX4_offer_57 : decode cX4_offer 57 = .ok (.getfield 19, 3) := by decide +kernel
theorem dX4_offer_60 : decode cX4_offer 60 = .ok (.iload 4, 2) := by decide +kernel
theorem dX4_offer_62 : decode cX4_offer 62 = .ok (.iconst 1, 1) := by decide +kernel
theorem dX4_offer_63 : decode cX4_offer 63 = .ok (.isub, 1) := by decide +kernel
theorem dX4_offer_64 : decode cX4_offer 64 = .ok (.iaload, 1) := by decide +kernel
theorem dX4_offer_65 : decode cX4_offer 65 = .ok (.iastore, 1) := by decide +kernel
theorem dX4_offer_66 : decode cX4_offer 66 = .ok (.aload_n 0, 1) := by decide +kernel
theorem dX4_offer_67 : decode cX4_offer 67 = .ok (.getfield 22, 3) := by decide +kernel
theorem dX4_offer_70 : decode cX4_offer 70 = .ok (.iload 4, 2) := by decide +kernel
theorem dX4_offer_72 : decode cX4_offer 72 = .ok (.aload_n 0, 1) := by decide +kernel
theorem dX4_offer_73 : decode cX4_offer 73 = .ok (.getfield 22, 3) := by decide +kernel
theorem dX4_offer_76 : decode cX4_offer 76 = .ok (.iload 4, 2) := by decide +kernel
theorem dX4_offer_78 : decode cX4_offer 78 = .ok (.iconst 1, 1) := by decide +kernel
theorem dX4_offer_79 : decode cX4_offer 79 = .ok (.isub, 1) := by decide +kernel
theorem dX4_offer_80 : decode cX4_offer 80 = .ok (.iaload, 1) := by decide +kernel
theorem dX4_offer_81 : decode cX4_offer 81 = .ok (.iastore, 1) := by decide +kernel
theorem dX4_offer_82 : decode cX4_offer 82 = .ok (.iinc 4 (-1), 3) := by decide +kernel
theorem dX4_offer_85 : decode cX4_offer 85 = .ok (.goto (-69), 3) := by decide +kernel
theorem dX4_offer_88 : decode cX4_offer 88 = .ok (.aload_n 0, 1) := by decide +kernel
theorem dX4_offer_89 : decode cX4_offer 89 = .ok (.getfield 15, 3) := by decide +kernel
theorem dX4_offer_92 : decode cX4_offer 92 = .ok (.iload 4, 2) := by decide +kernel
theorem dX4_offer_94 : decode cX4_offer 94 = .ok (.iload_n 1, 1) := by decide +kernel
theorem dX4_offer_95 : decode cX4_offer 95 = .ok (.iastore, 1) := by decide +kernel
theorem dX4_offer_96 : decode cX4_offer 96 = .ok (.aload_n 0, 1) := by decide +kernel
theorem dX4_offer_97 : decode cX4_offer 97 = .ok (.getfield 19, 3) := by decide +kernel
theorem dX4_offer_100 : decode cX4_offer 100 = .ok (.iload 4, 2) := by decide +kernel
theorem dX4_offer_102 : decode cX4_offer 102 = .ok (.iload_n 2, 1) := by decide +kernel
theorem dX4_offer_103 : decode cX4_offer 103 = .ok (.iastore, 1) := by decide +kernel
theorem dX4_offer_104 : decode cX4_offer 104 = .ok (.aload_n 0, 1) := by decide +kernel
theorem dX4_offer_105 : decode cX4_offer 105 = .ok (.getfield 22, 3) := by decide +kernel
theorem dX4_offer_108 : decode cX4_offer 108 = .ok (.iload 4, 2) := by decide +kernel
theorem dX4_offer_110 : decode cX4_offer 110 = .ok (.iload_n 3, 1) := by decide +kernel
theorem dX4_offer_111 : decode cX4_offer 111 = .ok (.iastore, 1) := by decide +kernel
theorem dX4_offer_112 : decode cX4_offer 112 = .ok (.aload_n 0, 1) := by decide +kernel
theorem dX4_offer_113 : decode cX4_offer 113 = .ok (.dup, 1) := by decide +kernel
theorem dX4_offer_114 : decode cX4_offer 114 = .ok (.getfield 25, 3) := by decide +kernel
theorem dX4_offer_117 : decode cX4_offer 117 = .ok (.iconst 1, 1) := by decide +kernel
theorem dX4_offer_118 : decode cX4_offer 118 = .ok (.iadd, 1) := by decide +kernel
theorem dX4_offer_119 : decode cX4_offer 119 = .ok (.putfield 25, 3) := by decide +kernel
theorem dX4_offer_122 : decode cX4_offer 122 = .ok (.return_, 1) := by decide +kernel
theorem dX4_choose_0 : decode cX4_choose 0 = .ok (.lload_n 1, 1) := by decide +kernel
theorem dX4_choose_1 : decode cX4_choose 1 = .ok (.lstore 4, 2) := by decide +kernel
theorem dX4_choose_3 : decode cX4_choose 3 = .ok (.aload_n 0, 1) := by decide +kernel
theorem dX4_choose_4 : decode cX4_choose 4 = .ok (.getfield 28, 3) := by decide +kernel
theorem dX4_choose_7 : decode cX4_choose 7 = .ok (.aload_n 0, 1) := by decide +kernel
theorem dX4_choose_8 : decode cX4_choose 8 = .ok (.getfield 25, 3) := by decide +kernel
theorem dX4_choose_11 : decode cX4_choose 11 = .ok (.if_icmp .ge 93, 3) := by decide +kernel
theorem dX4_choose_14 : decode cX4_choose 14 = .ok (.aload_n 0, 1) := by decide +kernel
theorem dX4_choose_15 : decode cX4_choose 15 = .ok (.getfield 28, 3) := by decide +kernel
theorem dX4_choose_18 : decode cX4_choose 18 = .ok (.ifCond .eq 27, 3) := by decide +kernel
theorem dX4_choose_21 : decode cX4_choose 21 = .ok (.aload_n 0, 1) := by decide +kernel
theorem dX4_choose_22 : decode cX4_choose 22 = .ok (.getfield 22, 3) := by decide +kernel
theorem dX4_choose_25 : decode cX4_choose 25 = .ok (.aload_n 0, 1) := by decide +kernel
theorem dX4_choose_26 : decode cX4_choose 26 = .ok (.getfield 28, 3) := by decide +kernel
theorem dX4_choose_29 : decode cX4_choose 29 = .ok (.iaload, 1) := by decide +kernel
theorem dX4_choose_30 : decode cX4_choose 30 = .ok (.i2l, 1) := by decide +kernel
theorem dX4_choose_31 : decode cX4_choose 31 = .ok (.lload 4, 2) := by decide +kernel
theorem dX4_choose_33 : decode cX4_choose 33 = .ok (.aload_n 0, 1) := by decide +kernel
theorem dX4_choose_34 : decode cX4_choose 34 = .ok (.getfield 31, 3) := by decide +kernel
theorem dX4_choose_37 : decode cX4_choose 37 = .ok (.i2l, 1) := by decide +kernel
theorem dX4_choose_38 : decode cX4_choose 38 = .ok (.invokestatic 34, 3) := by decide +kernel
theorem dX4_choose_41 : decode cX4_choose 41 = .ok (.lcmp, 1) := by decide +kernel
theorem dX4_choose_42 : decode cX4_choose 42 = .ok (.ifCond .ge 62, 3) := by decide +kernel
theorem dX4_choose_45 : decode cX4_choose 45 = .ok (.aload_n 3, 1) := by decide +kernel
theorem dX4_choose_46 : decode cX4_choose 46 = .ok (.aload_n 0, 1) := by decide +kernel
theorem dX4_choose_47 : decode cX4_choose 47 = .ok (.getfield 15, 3) := by decide +kernel
theorem dX4_choose_50 : decode cX4_choose 50 = .ok (.aload_n 0, 1) := by decide +kernel
theorem dX4_choose_51 : decode cX4_choose 51 = .ok (.getfield 28, 3) := by decide +kernel
theorem dX4_choose_54 : decode cX4_choose 54 = .ok (.iaload, 1) := by decide +kernel
theorem dX4_choose_55 : decode cX4_choose 55 = .ok (.aaload, 1) := by decide +kernel
theorem dX4_choose_56 : decode cX4_choose 56 = .ok (.getfield 38, 3) := by decide +kernel
theorem dX4_choose_59 : decode cX4_choose 59 = .ok (.istore 6, 2) := by decide +kernel
theorem dX4_choose_61 : decode cX4_choose 61 = .ok (.lload 4, 2) := by decide +kernel
theorem dX4_choose_63 : decode cX4_choose 63 = .ok (.iload 6, 2) := by decide +kernel
theorem dX4_choose_65 : decode cX4_choose 65 = .ok (.i2l, 1) := by decide +kernel
theorem dX4_choose_66 : decode cX4_choose 66 = .ok (.aload_n 0, 1) := by decide +kernel
theorem dX4_choose_67 : decode cX4_choose 67 = .ok (.getfield 22, 3) := by decide +kernel
theorem dX4_choose_70 : decode cX4_choose 70 = .ok (.aload_n 0, 1) := by decide +kernel
theorem dX4_choose_71 : decode cX4_choose 71 = .ok (.getfield 28, 3) := by decide +kernel
theorem dX4_choose_74 : decode cX4_choose 74 = .ok (.iaload, 1) := by decide +kernel
theorem dX4_choose_75 : decode cX4_choose 75 = .ok (.i2l, 1) := by decide +kernel
theorem dX4_choose_76 : decode cX4_choose 76 = .ok (.lmul, 1) := by decide +kernel
theorem dX4_choose_77 : decode cX4_choose 77 = .ok (.ladd, 1) := by decide +kernel
theorem dX4_choose_78 : decode cX4_choose 78 = .ok (.lstore 4, 2) := by decide +kernel
theorem dX4_choose_80 : decode cX4_choose 80 = .ok (.aload_n 0, 1) := by decide +kernel
theorem dX4_choose_81 : decode cX4_choose 81 = .ok (.dup, 1) := by decide +kernel
theorem dX4_choose_82 : decode cX4_choose 82 = .ok (.getfield 31, 3) := by decide +kernel
theorem dX4_choose_85 : decode cX4_choose 85 = .ok (.iload 6, 2) := by decide +kernel
theorem dX4_choose_87 : decode cX4_choose 87 = .ok (.iadd, 1) := by decide +kernel
theorem dX4_choose_88 : decode cX4_choose 88 = .ok (.putfield 31, 3) := by decide +kernel
theorem dX4_choose_91 : decode cX4_choose 91 = .ok (.aload_n 0, 1) := by decide +kernel
theorem dX4_choose_92 : decode cX4_choose 92 = .ok (.dup, 1) := by decide +kernel
theorem dX4_choose_93 : decode cX4_choose 93 = .ok (.getfield 28, 3) := by decide +kernel
theorem dX4_choose_96 : decode cX4_choose 96 = .ok (.iconst 1, 1) := by decide +kernel
theorem dX4_choose_97 : decode cX4_choose 97 = .ok (.iadd, 1) := by decide +kernel
theorem dX4_choose_98 : decode cX4_choose 98 = .ok (.putfield 28, 3) := by decide +kernel
theorem dX4_choose_101 : decode cX4_choose 101 = .ok (.goto (-98), 3) := by decide +kernel
theorem dX4_choose_104 : decode cX4_choose 104 = .ok (.aload_n 0, 1) := by decide +kernel
theorem dX4_choose_105 : decode cX4_choose 105 = .ok (.getfield 28, 3) := by decide +kernel
theorem dX4_choose_108 : decode cX4_choose 108 = .ok (.ifCond .ne 7, 3) := by decide +kernel
theorem dX4_choose_111 : decode cX4_choose 111 = .ok (.iconst (-1), 1) := by decide +kernel
theorem dX4_choose_112 : decode cX4_choose 112 = .ok (.goto 14, 3) := by decide +kernel
theorem dX4_choose_115 : decode cX4_choose 115 = .ok (.lload 4, 2) := by decide +kernel
theorem dX4_choose_117 : decode cX4_choose 117 = .ok (.aload_n 0, 1) := by decide +kernel
theorem dX4_choose_118 : decode cX4_choose 118 = .ok (.getfield 31, 3) := by decide +kernel
theorem dX4_choose_121 : decode cX4_choose 121 = .ok (.i2l, 1) := by decide +kernel
theorem dX4_choose_122 : decode cX4_choose 122 = .ok (.invokestatic 34, 3) := by decide +kernel
theorem dX4_choose_125 : decode cX4_choose 125 = .ok (.l2i, 1) := by decide +kernel
theorem dX4_choose_126 : decode cX4_choose 126 = .ok (.ireturn, 1) := by decide +kernel
theorem dX4_takes_0 : decode cX4_takes 0 = .ok (.aload_n 0, 1) := by decide +kernel
theorem dX4_takes_1 : decode cX4_takes 1 = .ok (.invokevirtual 43, 3) := by decide +kernel
theorem dX4_takes_4 : decode cX4_takes 4 = .ok (.iload_n 1, 1) := by decide +kernel
theorem dX4_takes_5 : decode cX4_takes 5 = .ok (.ishr, 1) := by decide +kernel
theorem dX4_takes_6 : decode cX4_takes 6 = .ok (.iconst 1, 1) := by decide +kernel
theorem dX4_takes_7 : decode cX4_takes 7 = .ok (.iand, 1) := by decide +kernel
theorem dX4_takes_8 : decode cX4_takes 8 = .ok (.iconst 1, 1) := by decide +kernel
theorem dX4_takes_9 : decode cX4_takes 9 = .ok (.if_icmp .ne 7, 3) := by decide +kernel
theorem dX4_takes_12 : decode cX4_takes 12 = .ok (.iconst 1, 1) := by decide +kernel
theorem dX4_takes_13 : decode cX4_takes 13 = .ok (.goto 4, 3) := by decide +kernel
theorem dX4_takes_16 : decode cX4_takes 16 = .ok (.iconst 0, 1) := by decide +kernel
theorem dX4_takes_17 : decode cX4_takes 17 = .ok (.ireturn, 1) := by decide +kernel
theorem dX4_takenLines_0 : decode cX4_takenLines 0 = .ok (.iconst 0, 1) := by decide +kernel
theorem dX4_takenLines_1 : decode cX4_takenLines 1 = .ok (.istore_n 1, 1) := by decide +kernel
theorem dX4_takenLines_2 : decode cX4_takenLines 2 = .ok (.iconst 0, 1) := by decide +kernel
theorem dX4_takenLines_3 : decode cX4_takenLines 3 = .ok (.istore_n 2, 1) := by decide +kernel
theorem dX4_takenLines_4 : decode cX4_takenLines 4 = .ok (.iload_n 2, 1) := by decide +kernel
theorem dX4_takenLines_5 : decode cX4_takenLines 5 = .ok (.aload_n 0, 1) := by decide +kernel
theorem dX4_takenLines_6 : decode cX4_takenLines 6 = .ok (.getfield 28, 3) := by decide +kernel
theorem dX4_takenLines_9 : decode cX4_takenLines 9 = .ok (.if_icmp .ge 20, 3) := by decide +kernel
theorem dX4_takenLines_12 : decode cX4_takenLines 12 = .ok (.iload_n 1, 1) := by decide +kernel
theorem dX4_takenLines_13 : decode cX4_takenLines 13 = .ok (.iconst 1, 1) := by decide +kernel
theorem dX4_takenLines_14 : decode cX4_takenLines 14 = .ok (.aload_n 0, 1) := by decide +kernel
theorem dX4_takenLines_15 : decode cX4_takenLines 15 = .ok (.getfield 15, 3) := by decide +kernel
theorem dX4_takenLines_18 : decode cX4_takenLines 18 = .ok (.iload_n 2, 1) := by decide +kernel
theorem dX4_takenLines_19 : decode cX4_takenLines 19 = .ok (.iaload, 1) := by decide +kernel
theorem dX4_takenLines_20 : decode cX4_takenLines 20 = .ok (.ishl, 1) := by decide +kernel
theorem dX4_takenLines_21 : decode cX4_takenLines 21 = .ok (.ior, 1) := by decide +kernel
theorem dX4_takenLines_22 : decode cX4_takenLines 22 = .ok (.istore_n 1, 1) := by decide +kernel
theorem dX4_takenLines_23 : decode cX4_takenLines 23 = .ok (.iinc 2 1, 3) := by decide +kernel
theorem dX4_takenLines_26 : decode cX4_takenLines 26 = .ok (.goto (-22), 3) := by decide +kernel
theorem dX4_takenLines_29 : decode cX4_takenLines 29 = .ok (.iload_n 1, 1) := by decide +kernel
theorem dX4_takenLines_30 : decode cX4_takenLines 30 = .ok (.ireturn, 1) := by decide +kernel
theorem dX5_init_0 : decode cX5_init 0 = .ok (.aload_n 0, 1) := by decide +kernel
theorem dX5_init_1 : decode cX5_init 1 = .ok (.invokespecial 3, 3) := by decide +kernel
theorem dX5_init_4 : decode cX5_init 4 = .ok (.aload_n 0, 1) := by decide +kernel
theorem dX5_init_5 : decode cX5_init 5 = .ok (.sipush 400, 3) := by decide +kernel
theorem dX5_init_8 : decode cX5_init 8 = .ok (.newarray .int, 2) := by decide +kernel
theorem dX5_init_10 : decode cX5_init 10 = .ok (.putfield 9, 3) := by decide +kernel
theorem dX5_init_13 : decode cX5_init 13 = .ok (.aload_n 0, 1) := by decide +kernel
theorem dX5_init_14 : decode cX5_init 14 = .ok (.invokestatic 15, 3) := by decide +kernel
theorem dX5_init_17 : decode cX5_init 17 = .ok (.putfield 19, 3) := by decide +kernel
theorem dX5_init_20 : decode cX5_init 20 = .ok (.return_, 1) := by decide +kernel
theorem dX5_addsFour_0 : decode cX5_addsFour 0 = .ok (.aload_n 0, 1) := by decide +kernel
theorem dX5_addsFour_1 : decode cX5_addsFour 1 = .ok (.getfield 23, 3) := by decide +kernel
theorem dX5_addsFour_4 : decode cX5_addsFour 4 = .ok (.sipush 396, 3) := by decide +kernel
theorem dX5_addsFour_7 : decode cX5_addsFour 7 = .ok (.if_icmp .le 5, 3) := by decide +kernel
theorem dX5_addsFour_10 : decode cX5_addsFour 10 = .ok (.iconst 0, 1) := by decide +kernel
theorem dX5_addsFour_11 : decode cX5_addsFour 11 = .ok (.ireturn, 1) := by decide +kernel
theorem dX5_addsFour_12 : decode cX5_addsFour 12 = .ok (.bipush 24, 2) := by decide +kernel
theorem dX5_addsFour_14 : decode cX5_addsFour 14 = .ok (.istore_n 2, 1) := by decide +kernel
theorem dX5_addsFour_15 : decode cX5_addsFour 15 = .ok (.iload_n 2, 1) := by decide +kernel
theorem dX5_addsFour_16 : decode cX5_addsFour 16 = .ok (.ifCond .lt 35, 3) := by decide +kernel
theorem dX5_addsFour_19 : decode cX5_addsFour 19 = .ok (.aload_n 0, 1) := by decide +kernel
theorem dX5_addsFour_20 : decode cX5_addsFour 20 = .ok (.getfield 9, 3) := by decide +kernel
theorem dX5_addsFour_23 : decode cX5_addsFour 23 = .ok (.aload_n 0, 1) := by decide +kernel
theorem dX5_addsFour_24 : decode cX5_addsFour 24 = .ok (.getfield 23, 3) := by decide +kernel
theorem dX5_addsFour_27 : decode cX5_addsFour 27 = .ok (.iload_n 1, 1) := by decide +kernel
theorem dX5_addsFour_28 : decode cX5_addsFour 28 = .ok (.iload_n 2, 1) := by decide +kernel
theorem dX5_addsFour_29 : decode cX5_addsFour 29 = .ok (.ishr, 1) := by decide +kernel
theorem dX5_addsFour_30 : decode cX5_addsFour 30 = .ok (.sipush 255, 3) := by decide +kernel
theorem dX5_addsFour_33 : decode cX5_addsFour 33 = .ok (.iand, 1) := by decide +kernel
theorem dX5_addsFour_34 : decode cX5_addsFour 34 = .ok (.iastore, 1) := by decide +kernel
theorem dX5_addsFour_35 : decode cX5_addsFour 35 = .ok (.aload_n 0, 1) := by decide +kernel
theorem dX5_addsFour_36 : decode cX5_addsFour 36 = .ok (.dup, 1) := by decide +kernel
theorem dX5_addsFour_37 : decode cX5_addsFour 37 = .ok (.getfield 23, 3) := by decide +kernel
theorem dX5_addsFour_40 : decode cX5_addsFour 40 = .ok (.iconst 1, 1) := by decide +kernel
theorem dX5_addsFour_41 : decode cX5_addsFour 41 = .ok (.iadd, 1) := by decide +kernel
theorem dX5_addsFour_42 : decode cX5_addsFour 42 = .ok (.putfield 23, 3) := by decide +kernel
theorem dX5_addsFour_45 : decode cX5_addsFour 45 = .ok (.iinc 2 (-8), 3) := by decide +kernel
theorem dX5_addsFour_48 : decode cX5_addsFour 48 = .ok (.goto (-33), 3) := by decide +kernel
theorem dX5_addsFour_51 : decode cX5_addsFour 51 = .ok (.iconst 1, 1) := by decide +kernel
theorem dX5_addsFour_52 : decode cX5_addsFour 52 = .ok (.ireturn, 1) := by decide +kernel
theorem dX5_readsLines_0 : decode cX5_readsLines 0 = .ok (.aload_n 0, 1) := by decide +kernel
theorem dX5_readsLines_1 : decode cX5_readsLines 1 = .ok (.invokevirtual 27, 3) := by decide +kernel
theorem dX5_readsLines_4 : decode cX5_readsLines 4 = .ok (.aload_n 0, 1) := by decide +kernel
theorem dX5_readsLines_5 : decode cX5_readsLines 5 = .ok (.getfield 23, 3) := by decide +kernel
theorem dX5_readsLines_8 : decode cX5_readsLines 8 = .ok (.ifCond .ne 5, 3) := by decide +kernel
theorem dX5_readsLines_11 : decode cX5_readsLines 11 = .ok (.iconst 1, 1) := by decide +kernel
theorem dX5_readsLines_12 : decode cX5_readsLines 12 = .ok (.ireturn, 1) := by decide +kernel
theorem dX5_readsLines_13 : decode cX5_readsLines 13 = .ok (.aload_n 0, 1) := by decide +kernel
theorem dX5_readsLines_14 : decode cX5_readsLines 14 = .ok (.bipush 12, 2) := by decide +kernel
theorem dX5_readsLines_16 : decode cX5_readsLines 16 = .ok (.invokevirtual 30, 3) := by decide +kernel
theorem dX5_readsLines_19 : decode cX5_readsLines 19 = .ok (.istore_n 1, 1) := by decide +kernel
theorem dX5_readsLines_20 : decode cX5_readsLines 20 = .ok (.iconst 1, 1) := by decide +kernel
theorem dX5_readsLines_21 : decode cX5_readsLines 21 = .ok (.istore_n 2, 1) := by decide +kernel
theorem dX5_readsLines_22 : decode cX5_readsLines 22 = .ok (.iload_n 2, 1) := by decide +kernel
theorem dX5_readsLines_23 : decode cX5_readsLines 23 = .ok (.bipush 12, 2) := by decide +kernel
theorem dX5_readsLines_25 : decode cX5_readsLines 25 = .ok (.if_icmp .gt 39, 3) := by decide +kernel
theorem dX5_readsLines_28 : decode cX5_readsLines 28 = .ok (.iload_n 1, 1) := by decide +kernel
theorem dX5_readsLines_29 : decode cX5_readsLines 29 = .ok (.ifCond .eq 35, 3) := by decide +kernel
theorem dX5_readsLines_32 : decode cX5_readsLines 32 = .ok (.aload_n 0, 1) := by decide +kernel
theorem dX5_readsLines_33 : decode cX5_readsLines 33 = .ok (.bipush 59, 2) := by decide +kernel
theorem dX5_readsLines_35 : decode cX5_readsLines 35 = .ok (.invokevirtual 34, 3) := by decide +kernel
theorem dX5_readsLines_38 : decode cX5_readsLines 38 = .ok (.ifCond .eq 26, 3) := by decide +kernel
theorem dX5_readsLines_41 : decode cX5_readsLines 41 = .ok (.aload_n 0, 1) := by decide +kernel
theorem dX5_readsLines_42 : decode cX5_readsLines 42 = .ok (.dup, 1) := by decide +kernel
theorem dX5_readsLines_43 : decode cX5_readsLines 43 = .ok (.getfield 38, 3) := by decide +kernel
theorem dX5_readsLines_46 : decode cX5_readsLines 46 = .ok (.iconst 1, 1) := by decide +kernel
theorem dX5_readsLines_47 : decode cX5_readsLines 47 = .ok (.iadd, 1) := by decide +kernel
theorem dX5_readsLines_48 : decode cX5_readsLines 48 = .ok (.putfield 38, 3) := by decide +kernel
theorem dX5_readsLines_51 : decode cX5_readsLines 51 = .ok (.aload_n 0, 1) := by decide +kernel
theorem dX5_readsLines_52 : decode cX5_readsLines 52 = .ok (.bipush 12, 2) := by decide +kernel
theorem dX5_readsLines_54 : decode cX5_readsLines 54 = .ok (.invokevirtual 30, 3) := by decide +kernel
theorem dX5_readsLines_57 : decode cX5_readsLines 57 = .ok (.istore_n 1, 1) := by decide +kernel
theorem dX5_readsLines_58 : decode cX5_readsLines 58 = .ok (.iinc 2 1, 3) := by decide +kernel
theorem dX5_readsLines_61 : decode cX5_readsLines 61 = .ok (.goto (-39), 3) := by decide +kernel
theorem dX5_readsLines_64 : decode cX5_readsLines 64 = .ok (.iload_n 1, 1) := by decide +kernel
theorem dX5_readsLines_65 : decode cX5_readsLines 65 = .ok (.ifCond .eq 14, 3) := by decide +kernel
theorem dX5_readsLines_68 : decode cX5_readsLines 68 = .ok (.aload_n 0, 1) := by decide +kernel
theorem dX5_readsLines_69 : decode cX5_readsLines 69 = .ok (.invokevirtual 41, 3) := by decide +kernel
theorem dX5_readsLines_72 : decode cX5_readsLines 72 = .ok (.ifCond .eq 7, 3) := by decide +kernel
theorem dX5_readsLines_75 : decode cX5_readsLines 75 = .ok (.iconst 1, 1) := by decide +kernel
theorem dX5_readsLines_76 : decode cX5_readsLines 76 = .ok (.goto 4, 3) := by decide +kernel
theorem dX5_readsLines_79 : decode cX5_readsLines 79 = .ok (.iconst 0, 1) := by decide +kernel
theorem dX5_readsLines_80 : decode cX5_readsLines 80 = .ok (.ireturn, 1) := by decide +kernel
theorem dX5_readsOneLine_0 : decode cX5_readsOneLine 0 = .ok (.aload_n 0, 1) := by decide +kernel
theorem dX5_readsOneLine_1 : decode cX5_readsOneLine 1 = .ok (.invokevirtual 27, 3) := by decide +kernel
