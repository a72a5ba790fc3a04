theorem dX5_readsOneLine_4 : decode cX5_readsOneLine 4 = .ok (.aload_n 0, 1) := by decide +kernel
theorem dX5_readsOneLine_5 : decode cX5_readsOneLine 5 = .ok (.iload_n 1, 1) := by decide +kernel
theorem dX5_readsOneLine_6 : decode cX5_readsOneLine 6 = .ok (.invokevirtual 30, 3) := by decide +kernel
theorem dX5_readsOneLine_9 : decode cX5_readsOneLine 9 = .ok (.ifCond .eq 14, 3) := by decide +kernel
theorem dX5_readsOneLine_12 : decode cX5_readsOneLine 12 = .ok (.aload_n 0, 1) := by decide +kernel
theorem dX5_readsOneLine_13 : decode cX5_readsOneLine 13 = .ok (.invokevirtual 41, 3) := by decide +kernel
theorem dX5_readsOneLine_16 : decode cX5_readsOneLine 16 = .ok (.ifCond .eq 7, 3) := by decide +kernel
theorem dX5_readsOneLine_19 : decode cX5_readsOneLine 19 = .ok (.iconst 1, 1) := by decide +kernel
theorem dX5_readsOneLine_20 : decode cX5_readsOneLine 20 = .ok (.goto 4, 3) := by decide +kernel
theorem dX5_readsOneLine_23 : decode cX5_readsOneLine 23 = .ok (.iconst 0, 1) := by decide +kernel
theorem dX5_readsOneLine_24 : decode cX5_readsOneLine 24 = .ok (.ireturn, 1) := by decide +kernel
theorem dX5_begin_0 : decode cX5_begin 0 = .ok (.aload_n 0, 1) := by decide +kernel
theorem dX5_begin_1 : decode cX5_begin 1 = .ok (.iconst 0, 1) := by decide +kernel
theorem dX5_begin_2 : decode cX5_begin 2 = .ok (.putfield 38, 3) := by decide +kernel
theorem dX5_begin_5 : decode cX5_begin 5 = .ok (.aload_n 0, 1) := by decide +kernel
theorem dX5_begin_6 : decode cX5_begin 6 = .ok (.iconst 0, 1) := by decide +kernel
theorem dX5_begin_7 : decode cX5_begin 7 = .ok (.putfield 45, 3) := by decide +kernel
theorem dX5_begin_10 : decode cX5_begin 10 = .ok (.return_, 1) := by decide +kernel
theorem dX5_isNext_0 : decode cX5_isNext 0 = .ok (.aload_n 0, 1) := by decide +kernel
theorem dX5_isNext_1 : decode cX5_isNext 1 = .ok (.getfield 38, 3) := by decide +kernel
theorem dX5_isNext_4 : decode cX5_isNext 4 = .ok (.aload_n 0, 1) := by decide +kernel
theorem dX5_isNext_5 : decode cX5_isNext 5 = .ok (.getfield 23, 3) := by decide +kernel
theorem dX5_isNext_8 : decode cX5_isNext 8 = .ok (.if_icmp .ge 20, 3) := by decide +kernel
theorem dX5_isNext_11 : decode cX5_isNext 11 = .ok (.aload_n 0, 1) := by decide +kernel
theorem dX5_isNext_12 : decode cX5_isNext 12 = .ok (.getfield 9, 3) := by decide +kernel
theorem dX5_isNext_15 : decode cX5_isNext 15 = .ok (.aload_n 0, 1) := by decide +kernel
theorem dX5_isNext_16 : decode cX5_isNext 16 = .ok (.getfield 38, 3) := by decide +kernel
theorem dX5_isNext_19 : decode cX5_isNext 19 = .ok (.iaload, 1) := by decide +kernel
theorem dX5_isNext_20 : decode cX5_isNext 20 = .ok (.iload_n 1, 1) := by decide +kernel
theorem dX5_isNext_21 : decode cX5_isNext 21 = .ok (.if_icmp .ne 7, 3) := by decide +kernel
theorem dX5_isNext_24 : decode cX5_isNext 24 = .ok (.iconst 1, 1) := by decide +kernel
theorem dX5_isNext_25 : decode cX5_isNext 25 = .ok (.goto 4, 3) := by decide +kernel
theorem dX5_isNext_28 : decode cX5_isNext 28 = .ok (.iconst 0, 1) := by decide +kernel
theorem dX5_isNext_29 : decode cX5_isNext 29 = .ok (.ireturn, 1) := by decide +kernel
theorem dX5_isDigitNext_0 : decode cX5_isDigitNext 0 = .ok (.aload_n 0, 1) := by decide +kernel
theorem dX5_isDigitNext_1 : decode cX5_isDigitNext 1 = .ok (.getfield 38, 3) := by decide +kernel
theorem dX5_isDigitNext_4 : decode cX5_isDigitNext 4 = .ok (.aload_n 0, 1) := by decide +kernel
theorem dX5_isDigitNext_5 : decode cX5_isDigitNext 5 = .ok (.getfield 23, 3) := by decide +kernel
theorem dX5_isDigitNext_8 : decode cX5_isDigitNext 8 = .ok (.if_icmp .ge 35, 3) := by decide +kernel
theorem dX5_isDigitNext_11 : decode cX5_isDigitNext 11 = .ok (.aload_n 0, 1) := by decide +kernel
theorem dX5_isDigitNext_12 : decode cX5_isDigitNext 12 = .ok (.getfield 9, 3) := by decide +kernel
theorem dX5_isDigitNext_15 : decode cX5_isDigitNext 15 = .ok (.aload_n 0, 1) := by decide +kernel
theorem dX5_isDigitNext_16 : decode cX5_isDigitNext 16 = .ok (.getfield 38, 3) := by decide +kernel
theorem dX5_isDigitNext_19 : decode cX5_isDigitNext 19 = .ok (.iaload, 1) := by decide +kernel
theorem dX5_isDigitNext_20 : decode cX5_isDigitNext 20 = .ok (.bipush 48, 2) := by decide +kernel
theorem dX5_isDigitNext_22 : decode cX5_isDigitNext 22 = .ok (.if_icmp .lt 21, 3) := by decide +kernel
theorem dX5_isDigitNext_25 : decode cX5_isDigitNext 25 = .ok (.aload_n 0, 1) := by decide +kernel
theorem dX5_isDigitNext_26 : decode cX5_isDigitNext 26 = .ok (.getfield 9, 3) := by decide +kernel
theorem dX5_isDigitNext_29 : decode cX5_isDigitNext 29 = .ok (.aload_n 0, 1) := by decide +kernel
theorem dX5_isDigitNext_30 : decode cX5_isDigitNext 30 = .ok (.getfield 38, 3) := by decide +kernel
theorem dX5_isDigitNext_33 : decode cX5_isDigitNext 33 = .ok (.iaload, 1) := by decide +kernel
theorem dX5_isDigitNext_34 : decode cX5_isDigitNext 34 = .ok (.bipush 57, 2) := by decide +kernel
theorem dX5_isDigitNext_36 : decode cX5_isDigitNext 36 = .ok (.if_icmp .gt 7, 3) := by decide +kernel
theorem dX5_isDigitNext_39 : decode cX5_isDigitNext 39 = .ok (.iconst 1, 1) := by decide +kernel
theorem dX5_isDigitNext_40 : decode cX5_isDigitNext 40 = .ok (.goto 4, 3) := by decide +kernel
theorem dX5_isDigitNext_43 : decode cX5_isDigitNext 43 = .ok (.iconst 0, 1) := by decide +kernel
theorem dX5_isDigitNext_44 : decode cX5_isDigitNext 44 = .ok (.ireturn, 1) := by decide +kernel
theorem dX5_fails_0 : decode cX5_fails 0 = .ok (.aload_n 0, 1) := by decide +kernel
theorem dX5_fails_1 : decode cX5_fails 1 = .ok (.iload_n 1, 1) := by decide +kernel
theorem dX5_fails_2 : decode cX5_fails 2 = .ok (.putfield 48, 3) := by decide +kernel
theorem dX5_fails_5 : decode cX5_fails 5 = .ok (.iconst 0, 1) := by decide +kernel
theorem dX5_fails_6 : decode cX5_fails 6 = .ok (.ireturn, 1) := by decide +kernel
theorem dX5_readsEnd_0 : decode cX5_readsEnd 0 = .ok (.aload_n 0, 1) := by decide +kernel
theorem dX5_readsEnd_1 : decode cX5_readsEnd 1 = .ok (.getfield 38, 3) := by decide +kernel
theorem dX5_readsEnd_4 : decode cX5_readsEnd 4 = .ok (.aload_n 0, 1) := by decide +kernel
theorem dX5_readsEnd_5 : decode cX5_readsEnd 5 = .ok (.getfield 23, 3) := by decide +kernel
theorem dX5_readsEnd_8 : decode cX5_readsEnd 8 = .ok (.if_icmp .eq 14, 3) := by decide +kernel
theorem dX5_readsEnd_11 : decode cX5_readsEnd 11 = .ok (.aload_n 0, 1) := by decide +kernel
theorem dX5_readsEnd_12 : decode cX5_readsEnd 12 = .ok (.aload_n 0, 1) := by decide +kernel
theorem dX5_readsEnd_13 : decode cX5_readsEnd 13 = .ok (.getfield 38, 3) := by decide +kernel
theorem dX5_readsEnd_16 : decode cX5_readsEnd 16 = .ok (.invokevirtual 51, 3) := by decide +kernel
theorem dX5_readsEnd_19 : decode cX5_readsEnd 19 = .ok (.ifCond .eq 7, 3) := by decide +kernel
theorem dX5_readsEnd_22 : decode cX5_readsEnd 22 = .ok (.iconst 1, 1) := by decide +kernel
theorem dX5_readsEnd_23 : decode cX5_readsEnd 23 = .ok (.goto 4, 3) := by decide +kernel
theorem dX5_readsEnd_26 : decode cX5_readsEnd 26 = .ok (.iconst 0, 1) := by decide +kernel
theorem dX5_readsEnd_27 : decode cX5_readsEnd 27 = .ok (.ireturn, 1) := by decide +kernel
theorem dX5_readsSign_0 : decode cX5_readsSign 0 = .ok (.aload_n 0, 1) := by decide +kernel
theorem dX5_readsSign_1 : decode cX5_readsSign 1 = .ok (.iload_n 1, 1) := by decide +kernel
theorem dX5_readsSign_2 : decode cX5_readsSign 2 = .ok (.invokevirtual 34, 3) := by decide +kernel
theorem dX5_readsSign_5 : decode cX5_readsSign 5 = .ok (.ifCond .ne 12, 3) := by decide +kernel
theorem dX5_readsSign_8 : decode cX5_readsSign 8 = .ok (.aload_n 0, 1) := by decide +kernel
theorem dX5_readsSign_9 : decode cX5_readsSign 9 = .ok (.aload_n 0, 1) := by decide +kernel
theorem dX5_readsSign_10 : decode cX5_readsSign 10 = .ok (.getfield 38, 3) := by decide +kernel
theorem dX5_readsSign_13 : decode cX5_readsSign 13 = .ok (.invokevirtual 51, 3) := by decide +kernel
theorem dX5_readsSign_16 : decode cX5_readsSign 16 = .ok (.ireturn, 1) := by decide +kernel
theorem dX5_readsSign_17 : decode cX5_readsSign 17 = .ok (.aload_n 0, 1) := by decide +kernel
theorem dX5_readsSign_18 : decode cX5_readsSign 18 = .ok (.dup, 1) := by decide +kernel
theorem dX5_readsSign_19 : decode cX5_readsSign 19 = .ok (.getfield 38, 3) := by decide +kernel
theorem dX5_readsSign_22 : decode cX5_readsSign 22 = .ok (.iconst 1, 1) := by decide +kernel
theorem dX5_readsSign_23 : decode cX5_readsSign 23 = .ok (.iadd, 1) := by decide +kernel
theorem dX5_readsSign_24 : decode cX5_readsSign 24 = .ok (.putfield 38, 3) := by decide +kernel
theorem dX5_readsSign_27 : decode cX5_readsSign 27 = .ok (.iconst 1, 1) := by decide +kernel
theorem dX5_readsSign_28 : decode cX5_readsSign 28 = .ok (.ireturn, 1) := by decide +kernel
theorem dX5_readsNumber_0 : decode cX5_readsNumber 0 = .ok (.aload_n 0, 1) := by decide +kernel
theorem dX5_readsNumber_1 : decode cX5_readsNumber 1 = .ok (.invokevirtual 54, 3) := by decide +kernel
theorem dX5_readsNumber_4 : decode cX5_readsNumber 4 = .ok (.ifCond .ne 12, 3) := by decide +kernel
theorem dX5_readsNumber_7 : decode cX5_readsNumber 7 = .ok (.aload_n 0, 1) := by decide +kernel
theorem dX5_readsNumber_8 : decode cX5_readsNumber 8 = .ok (.aload_n 0, 1) := by decide +kernel
theorem dX5_readsNumber_9 : decode cX5_readsNumber 9 = .ok (.getfield 38, 3) := by decide +kernel
theorem dX5_readsNumber_12 : decode cX5_readsNumber 12 = .ok (.invokevirtual 51, 3) := by decide +kernel
theorem dX5_readsNumber_15 : decode cX5_readsNumber 15 = .ok (.ireturn, 1) := by decide +kernel
theorem dX5_readsNumber_16 : decode cX5_readsNumber 16 = .ok (.aload_n 0, 1) := by decide +kernel
theorem dX5_readsNumber_17 : decode cX5_readsNumber 17 = .ok (.iconst 0, 1) := by decide +kernel
theorem dX5_readsNumber_18 : decode cX5_readsNumber 18 = .ok (.putfield 57, 3) := by decide +kernel
theorem dX5_readsNumber_21 : decode cX5_readsNumber 21 = .ok (.iconst 0, 1) := by decide +kernel
theorem dX5_readsNumber_22 : decode cX5_readsNumber 22 = .ok (.istore_n 2, 1) := by decide +kernel
theorem dX5_readsNumber_23 : decode cX5_readsNumber 23 = .ok (.iload_n 2, 1) := by decide +kernel
theorem dX5_readsNumber_24 : decode cX5_readsNumber 24 = .ok (.iconst 2, 1) := by decide +kernel
theorem dX5_readsNumber_25 : decode cX5_readsNumber 25 = .ok (.if_icmp .ge 50, 3) := by decide +kernel
theorem dX5_readsNumber_28 : decode cX5_readsNumber 28 = .ok (.aload_n 0, 1) := by decide +kernel
theorem dX5_readsNumber_29 : decode cX5_readsNumber 29 = .ok (.invokevirtual 54, 3) := by decide +kernel
theorem dX5_readsNumber_32 : decode cX5_readsNumber 32 = .ok (.ifCond .eq 43, 3) := by decide +kernel
theorem dX5_readsNumber_35 : decode cX5_readsNumber 35 = .ok (.aload_n 0, 1) := by decide +kernel
theorem dX5_readsNumber_36 : decode cX5_readsNumber 36 = .ok (.bipush 10, 2) := by decide +kernel
theorem dX5_readsNumber_38 : decode cX5_readsNumber 38 = .ok (.aload_n 0, 1) := by decide +kernel
theorem dX5_readsNumber_39 : decode cX5_readsNumber 39 = .ok (.getfield 57, 3) := by decide +kernel
theorem dX5_readsNumber_42 : decode cX5_readsNumber 42 = .ok (.imul, 1) := by decide +kernel
theorem dX5_readsNumber_43 : decode cX5_readsNumber 43 = .ok (.aload_n 0, 1) := by decide +kernel
theorem dX5_readsNumber_44 : decode cX5_readsNumber 44 = .ok (.getfield 9, 3) := by decide +kernel
theorem dX5_readsNumber_47 : decode cX5_readsNumber 47 = .ok (.aload_n 0, 1) := by decide +kernel
theorem dX5_readsNumber_48 : decode cX5_readsNumber 48 = .ok (.getfield 38, 3) := by decide +kernel
theorem dX5_readsNumber_51 : decode cX5_readsNumber 51 = .ok (.iaload, 1) := by decide +kernel
theorem dX5_readsNumber_52 : decode cX5_readsNumber 52 = .ok (.iadd, 1) := by decide +kernel
theorem dX5_readsNumber_53 : decode cX5_readsNumber 53 = .ok (.bipush 48, 2) := by decide +kernel
theorem dX5_readsNumber_55 : decode cX5_readsNumber 55 = .ok (.isub, 1) := by decide +kernel
theorem dX5_readsNumber_56 : decode cX5_readsNumber 56 = .ok (.putfield 57, 3) := by decide +kernel
theorem dX5_readsNumber_59 : decode cX5_readsNumber 59 = .ok (.aload_n 0, 1) := by decide +kernel
theorem dX5_readsNumber_60 : decode cX5_readsNumber 60 = .ok (.dup, 1) := by decide +kernel
theorem dX5_readsNumber_61 : decode cX5_readsNumber 61 = .ok (.getfield 38, 3) := by decide +kernel
theorem dX5_readsNumber_64 : decode cX5_readsNumber 64 = .ok (.iconst 1, 1) := by decide +kernel
theorem dX5_readsNumber_65 : decode cX5_readsNumber 65 = .ok (.iadd, 1) := by decide +kernel
theorem dX5_readsNumber_66 : decode cX5_readsNumber 66 = .ok (.putfield 38, 3) := by decide +kernel
theorem dX5_readsNumber_69 : decode cX5_readsNumber 69 = .ok (.iinc 2 1, 3) := by decide +kernel
theorem dX5_readsNumber_72 : decode cX5_readsNumber 72 = .ok (.goto (-49), 3) := by decide +kernel
theorem dX5_readsNumber_75 : decode cX5_readsNumber 75 = .ok (.aload_n 0, 1) := by decide +kernel
theorem dX5_readsNumber_76 : decode cX5_readsNumber 76 = .ok (.getfield 57, 3) := by decide +kernel
theorem dX5_readsNumber_79 : decode cX5_readsNumber 79 = .ok (.iconst 1, 1) := by decide +kernel
theorem dX5_readsNumber_80 : decode cX5_readsNumber 80 = .ok (.if_icmp .lt 11, 3) := by decide +kernel
theorem dX5_readsNumber_83 : decode cX5_readsNumber 83 = .ok (.aload_n 0, 1) := by decide +kernel
theorem dX5_readsNumber_84 : decode cX5_readsNumber 84 = .ok (.getfield 57, 3) := by decide +kernel
theorem dX5_readsNumber_87 : decode cX5_readsNumber 87 = .ok (.iload_n 1, 1) := by decide +kernel
theorem dX5_readsNumber_88 : decode cX5_readsNumber 88 = .ok (.if_icmp .le 16, 3) := by decide +kernel
theorem dX5_readsNumber_91 : decode cX5_readsNumber 91 = .ok (.aload_n 0, 1) := by decide +kernel
theorem dX5_readsNumber_92 : decode cX5_readsNumber 92 = .ok (.aload_n 0, 1) := by decide +kernel
theorem dX5_readsNumber_93 : decode cX5_readsNumber 93 = .ok (.getfield 38, 3) := by decide +kernel
theorem dX5_readsNumber_96 : decode cX5_readsNumber 96 = .ok (.iconst 1, 1) := by decide +kernel
theorem dX5_readsNumber_97 : decode cX5_readsNumber 97 = .ok (.isub, 1) := by decide +kernel
theorem dX5_readsNumber_98 : decode cX5_readsNumber 98 = .ok (.invokevirtual 51, 3) := by decide +kernel
theorem dX5_readsNumber_101 : decode cX5_readsNumber 101 = .ok (.ifCond .eq 7, 3) := by decide +kernel
theorem dX5_readsNumber_104 : decode cX5_readsNumber 104 = .ok (.iconst 1, 1) := by decide +kernel
theorem dX5_readsNumber_105 : decode cX5_readsNumber 105 = .ok (.goto 4, 3) := by decide +kernel
theorem dX5_readsNumber_108 : decode cX5_readsNumber 108 = .ok (.iconst 0, 1) := by decide +kernel
theorem dX5_readsNumber_109 : decode cX5_readsNumber 109 = .ok (.ireturn, 1) := by decide +kernel
theorem dX5_readsStop_0 : decode cX5_readsStop 0 = .ok (.aload_n 0, 1) := by decide +kernel
theorem dX5_readsStop_1 : decode cX5_readsStop 1 = .ok (.invokevirtual 54, 3) := by decide +kernel
theorem dX5_readsStop_4 : decode cX5_readsStop 4 = .ok (.ifCond .eq 22, 3) := by decide +kernel
theorem dX5_readsStop_7 : decode cX5_readsStop 7 = .ok (.aload_n 1, 1) := by decide +kernel
theorem dX5_readsStop_8 : decode cX5_readsStop 8 = .ok (.aload_n 0, 1) := by decide +kernel
theorem dX5_readsStop_9 : decode cX5_readsStop 9 = .ok (.getfield 9, 3) := by decide +kernel
theorem dX5_readsStop_12 : decode cX5_readsStop 12 = .ok (.aload_n 0, 1) := by decide +kernel
theorem dX5_readsStop_13 : decode cX5_readsStop 13 = .ok (.getfield 38, 3) := by decide +kernel
theorem dX5_readsStop_16 : decode cX5_readsStop 16 = .ok (.iaload, 1) := by decide +kernel
theorem dX5_readsStop_17 : decode cX5_readsStop 17 = .ok (.bipush 48, 2) := by decide +kernel
theorem dX5_readsStop_19 : decode cX5_readsStop 19 = .ok (.isub, 1) := by decide +kernel
theorem dX5_readsStop_20 : decode cX5_readsStop 20 = .ok (.invokevirtual 60, 3) := by decide +kernel
theorem dX5_readsStop_23 : decode cX5_readsStop 23 = .ok (.ifCond .eq 12, 3) := by decide +kernel
theorem dX5_readsStop_26 : decode cX5_readsStop 26 = .ok (.aload_n 0, 1) := by decide +kernel
theorem dX5_readsStop_27 : decode cX5_readsStop 27 = .ok (.aload_n 0, 1) := by decide +kernel
theorem dX5_readsStop_28 : decode cX5_readsStop 28 = .ok (.getfield 38, 3) := by decide +kernel
theorem dX5_readsStop_31 : decode cX5_readsStop 31 = .ok (.invokevirtual 51, 3) := by decide +kernel
theorem dX5_readsStop_34 : decode cX5_readsStop 34 = .ok (.ireturn, 1) := by decide +kernel
theorem dX5_readsStop_35 : decode cX5_readsStop 35 = .ok (.aload_n 1, 1) := by decide +kernel
theorem dX5_readsStop_36 : decode cX5_readsStop 36 = .ok (.iload_n 2, 1) := by decide +kernel
theorem dX5_readsStop_37 : decode cX5_readsStop 37 = .ok (.aload_n 0, 1) := by decide +kernel
theorem dX5_readsStop_38 : decode cX5_readsStop 38 = .ok (.getfield 9, 3) := by decide +kernel
theorem dX5_readsStop_41 : decode cX5_readsStop 41 = .ok (.aload_n 0, 1) := by decide +kernel
theorem dX5_readsStop_42 : decode cX5_readsStop 42 = .ok (.getfield 38, 3) := by decide +kernel
theorem dX5_readsStop_45 : decode cX5_readsStop 45 = .ok (.iaload, 1) := by decide +kernel
theorem dX5_readsStop_46 : decode cX5_readsStop 46 = .ok (.bipush 48, 2) := by decide +kernel
theorem dX5_readsStop_48 : decode cX5_readsStop 48 = .ok (.isub, 1) := by decide +kernel
theorem dX5_readsStop_49 : decode cX5_readsStop 49 = .ok (.invokevirtual 65, 3) := by decide +kernel
theorem dX5_readsStop_52 : decode cX5_readsStop 52 = .ok (.aload_n 0, 1) := by decide +kernel
theorem dX5_readsStop_53 : decode cX5_readsStop 53 = .ok (.dup, 1) := by decide +kernel
theorem dX5_readsStop_54 : decode cX5_readsStop 54 = .ok (.getfield 38, 3) := by decide +kernel
theorem dX5_readsStop_57 : decode cX5_readsStop 57 = .ok (.iconst 1, 1) := by decide +kernel
theorem dX5_readsStop_58 : decode cX5_readsStop 58 = .ok (.iadd, 1) := by decide +kernel
theorem dX5_readsStop_59 : decode cX5_readsStop 59 = .ok (.putfield 38, 3) := by decide +kernel
theorem dX5_readsStop_62 : decode cX5_readsStop 62 = .ok (.iconst 1, 1) := by decide +kernel
theorem dX5_readsStop_63 : decode cX5_readsStop 63 = .ok (.ireturn, 1) := by decide +kernel
theorem dX5_readsStep_0 : decode cX5_readsStep 0 = .ok (.aload_n 0, 1) := by decide +kernel
theorem dX5_readsStep_1 : decode cX5_readsStep 1 = .ok (.bipush 45, 2) := by decide +kernel
theorem dX5_readsStep_3 : decode cX5_readsStep 3 = .ok (.invokevirtual 69, 3) := by decide +kernel
theorem dX5_readsStep_6 : decode cX5_readsStep 6 = .ok (.ifCond .eq 37, 3) := by decide +kernel
theorem dX5_readsStep_9 : decode cX5_readsStep 9 = .ok (.aload_n 0, 1) := by decide +kernel
theorem dX5_readsStep_10 : decode cX5_readsStep 10 = .ok (.bipush 99, 2) := by decide +kernel
theorem dX5_readsStep_12 : decode cX5_readsStep 12 = .ok (.invokevirtual 72, 3) := by decide +kernel
theorem dX5_readsStep_15 : decode cX5_readsStep 15 = .ok (.ifCond .eq 28, 3) := by decide +kernel
theorem dX5_readsStep_18 : decode cX5_readsStep 18 = .ok (.aload_n 0, 1) := by decide +kernel
theorem dX5_readsStep_19 : decode cX5_readsStep 19 = .ok (.bipush 45, 2) := by decide +kernel
theorem dX5_readsStep_21 : decode cX5_readsStep 21 = .ok (.invokevirtual 69, 3) := by decide +kernel
theorem dX5_readsStep_24 : decode cX5_readsStep 24 = .ok (.ifCond .eq 19, 3) := by decide +kernel
theorem dX5_readsStep_27 : decode cX5_readsStep 27 = .ok (.aload_n 0, 1) := by decide +kernel
theorem dX5_readsStep_28 : decode cX5_readsStep 28 = .ok (.aload_n 1, 1) := by decide +kernel
theorem dX5_readsStep_29 : decode cX5_readsStep 29 = .ok (.aload_n 0, 1) := by decide +kernel
theorem dX5_readsStep_30 : decode cX5_readsStep 30 = .ok (.getfield 57, 3) := by decide +kernel
theorem dX5_readsStep_33 : decode cX5_readsStep 33 = .ok (.invokevirtual 75, 3) := by decide +kernel
theorem dX5_readsStep_36 : decode cX5_readsStep 36 = .ok (.ifCond .eq 7, 3) := by decide +kernel
theorem dX5_readsStep_39 : decode cX5_readsStep 39 = .ok (.iconst 1, 1) := by decide +kernel
theorem dX5_readsStep_40 : decode cX5_readsStep 40 = .ok (.goto 4, 3) := by decide +kernel
theorem dX5_readsStep_43 : decode cX5_readsStep 43 = .ok (.iconst 0, 1) := by decide +kernel
theorem dX5_readsStep_44 : decode cX5_readsStep 44 = .ok (.ireturn, 1) := by decide +kernel
theorem dX5_readsLine_0 : decode cX5_readsLine 0 = .ok (.aload_n 0, 1) := by decide +kernel
theorem dX5_readsLine_1 : decode cX5_readsLine 1 = .ok (.getfield 38, 3) := by decide +kernel
theorem dX5_readsLine_4 : decode cX5_readsLine 4 = .ok (.istore_n 2, 1) := by decide +kernel
theorem dX5_readsLine_5 : decode cX5_readsLine 5 = .ok (.aload_n 0, 1) := by decide +kernel
theorem dX5_readsLine_6 : decode cX5_readsLine 6 = .ok (.getfield 45, 3) := by decide +kernel
theorem dX5_readsLine_9 : decode cX5_readsLine 9 = .ok (.iload_n 1, 1) := by decide +kernel
theorem dX5_readsLine_10 : decode cX5_readsLine 10 = .ok (.if_icmp .ge 12, 3) := by decide +kernel
theorem dX5_readsLine_13 : decode cX5_readsLine 13 = .ok (.aload_n 0, 1) := by decide +kernel
theorem dX5_readsLine_14 : decode cX5_readsLine 14 = .ok (.getfield 45, 3) := by decide +kernel
theorem dX5_readsLine_17 : decode cX5_readsLine 17 = .ok (.bipush 12, 2) := by decide +kernel
theorem dX5_readsLine_19 : decode cX5_readsLine 19 = .ok (.if_icmp .lt 9, 3) := by decide +kernel
theorem dX5_readsLine_22 : decode cX5_readsLine 22 = .ok (.aload_n 0, 1) := by decide +kernel
theorem dX5_readsLine_23 : decode cX5_readsLine 23 = .ok (.iload_n 2, 1) := by decide +kernel
theorem dX5_readsLine_24 : decode cX5_readsLine 24 = .ok (.invokevirtual 51, 3) := by decide +kernel
theorem dX5_readsLine_27 : decode cX5_readsLine 27 = .ok (.ireturn, 1) := by decide +kernel
theorem dX5_readsLine_28 : decode cX5_readsLine 28 = .ok (.aload_n 0, 1) := by decide +kernel
theorem dX5_readsLine_29 : decode cX5_readsLine 29 = .ok (.bipush 60, 2) := by decide +kernel
theorem dX5_readsLine_31 : decode cX5_readsLine 31 = .ok (.invokevirtual 72, 3) := by decide +kernel
theorem dX5_readsLine_34 : decode cX5_readsLine 34 = .ok (.ifCond .ne 5, 3) := by decide +kernel
theorem dX5_readsLine_37 : decode cX5_readsLine 37 = .ok (.iconst 0, 1) := by decide +kernel
theorem dX5_readsLine_38 : decode cX5_readsLine 38 = .ok (.ireturn, 1) := by decide +kernel
theorem dX5_readsLine_39 : decode cX5_readsLine 39 = .ok (.aload_n 0, 1) := by decide +kernel
theorem dX5_readsLine_40 : decode cX5_readsLine 40 = .ok (.bipush 61, 2) := by decide +kernel
theorem dX5_readsLine_42 : decode cX5_readsLine 42 = .ok (.invokevirtual 34, 3) := by decide +kernel
theorem dX5_readsLine_45 : decode cX5_readsLine 45 = .ok (.istore_n 3, 1) := by decide +kernel
theorem dX5_readsLine_46 : decode cX5_readsLine 46 = .ok (.iload_n 3, 1) := by decide +kernel
theorem dX5_readsLine_47 : decode cX5_readsLine 47 = .ok (.ifCond .eq 30, 3) := by decide +kernel
theorem dX5_readsLine_50 : decode cX5_readsLine 50 = .ok (.aload_n 0, 1) := by decide +kernel
theorem dX5_readsLine_51 : decode cX5_readsLine 51 = .ok (.getfield 45, 3) := by decide +kernel
theorem dX5_readsLine_54 : decode cX5_readsLine 54 = .ok (.iconst 1, 1) := by decide +kernel
theorem dX5_readsLine_55 : decode cX5_readsLine 55 = .ok (.iadd, 1) := by decide +kernel
theorem dX5_readsLine_56 : decode cX5_readsLine 56 = .ok (.iload_n 1, 1) := by decide +kernel
theorem dX5_readsLine_57 : decode cX5_readsLine 57 = .ok (.if_icmp .ge 14, 3) := by decide +kernel
theorem dX5_readsLine_60 : decode cX5_readsLine 60 = .ok (.aload_n 0, 1) := by decide +kernel
theorem dX5_readsLine_61 : decode cX5_readsLine 61 = .ok (.getfield 45, 3) := by decide +kernel
theorem dX5_readsLine_64 : decode cX5_readsLine 64 = .ok (.iconst 1, 1) := by decide +kernel
theorem dX5_readsLine_65 : decode cX5_readsLine 65 = .ok (.iadd, 1) := by decide +kernel
theorem dX5_readsLine_66 : decode cX5_readsLine 66 = .ok (.bipush 12, 2) := by decide +kernel
theorem dX5_readsLine_68 : decode cX5_readsLine 68 = .ok (.if_icmp .lt 9, 3) := by decide +kernel
theorem dX5_readsLine_71 : decode cX5_readsLine 71 = .ok (.aload_n 0, 1) := by decide +kernel
theorem dX5_readsLine_72 : decode cX5_readsLine 72 = .ok (.iload_n 2, 1) := by decide +kernel
theorem dX5_readsLine_73 : decode cX5_readsLine 73 = .ok (.invokevirtual 51, 3) := by decide +kernel
theorem dX5_readsLine_76 : decode cX5_readsLine 76 = .ok (.ireturn, 1) := by decide +kernel
theorem dX5_readsLine_77 : decode cX5_readsLine 77 = .ok (.aload_n 0, 1) := by decide +kernel
theorem dX5_readsLine_78 : decode cX5_readsLine 78 = .ok (.iload_n 3, 1) := by decide +kernel
theorem dX5_readsLine_79 : decode cX5_readsLine 79 = .ok (.ifCond .eq 8, 3) := by decide +kernel
theorem dX5_readsLine_82 : decode cX5_readsLine 82 = .ok (.bipush 61, 2) := by decide +kernel
theorem dX5_readsLine_84 : decode cX5_readsLine 84 = .ok (.goto 5, 3) := by decide +kernel
theorem dX5_readsLine_87 : decode cX5_readsLine 87 = .ok (.bipush 58, 2) := by decide +kernel
theorem dX5_readsLine_89 : decode cX5_readsLine 89 = .ok (.invokevirtual 69, 3) := by decide +kernel
theorem dX5_readsLine_92 : decode cX5_readsLine 92 = .ok (.ifCond .ne 5, 3) := by decide +kernel
theorem dX5_readsLine_95 : decode cX5_readsLine 95 = .ok (.iconst 0, 1) := by decide +kernel
theorem dX5_readsLine_96 : decode cX5_readsLine 96 = .ok (.ireturn, 1) := by decide +kernel
theorem dX5_readsLine_97 : decode cX5_readsLine 97 = .ok (.aload_n 0, 1) := by decide +kernel
theorem dX5_readsLine_98 : decode cX5_readsLine 98 = .ok (.getfield 19, 3) := by decide +kernel
theorem dX5_readsLine_101 : decode cX5_readsLine 101 = .ok (.aload_n 0, 1) := by decide +kernel
theorem dX5_readsLine_102 : decode cX5_readsLine 102 = .ok (.getfield 45, 3) := by decide +kernel
theorem dX5_readsLine_105 : decode cX5_readsLine 105 = .ok (.aaload, 1) := by decide +kernel
theorem dX5_readsLine_106 : decode cX5_readsLine 106 = .ok (.astore 4, 2) := by decide +kernel
theorem dX5_readsLine_108 : decode cX5_readsLine 108 = .ok (.aload 4, 2) := by decide +kernel
theorem dX5_readsLine_110 : decode cX5_readsLine 110 = .ok (.aload_n 0, 1) := by decide +kernel
theorem dX5_readsLine_111 : decode cX5_readsLine 111 = .ok (.getfield 57, 3) := by decide +kernel
theorem dX5_readsLine_114 : decode cX5_readsLine 114 = .ok (.invokevirtual 79, 3) := by decide +kernel
theorem dX5_readsLine_117 : decode cX5_readsLine 117 = .ok (.aload_n 0, 1) := by decide +kernel
theorem dX5_readsLine_118 : decode cX5_readsLine 118 = .ok (.aload 4, 2) := by decide +kernel
theorem dX5_readsLine_120 : decode cX5_readsLine 120 = .ok (.invokevirtual 83, 3) := by decide +kernel
theorem dX5_readsLine_123 : decode cX5_readsLine 123 = .ok (.ifCond .eq 17, 3) := by decide +kernel
theorem dX5_readsLine_126 : decode cX5_readsLine 126 = .ok (.aload_n 0, 1) := by decide +kernel
theorem dX5_readsLine_127 : decode cX5_readsLine 127 = .ok (.aload 4, 2) := by decide +kernel
theorem dX5_readsLine_129 : decode cX5_readsLine 129 = .ok (.iload_n 3, 1) := by decide +kernel
theorem dX5_readsLine_130 : decode cX5_readsLine 130 = .ok (.invokevirtual 87, 3) := by decide +kernel
theorem dX5_readsLine_133 : decode cX5_readsLine 133 = .ok (.ifCond .eq 7, 3) := by decide +kernel
theorem dX5_readsLine_136 : decode cX5_readsLine 136 = .ok (.iconst 1, 1) := by decide +kernel
theorem dX5_readsLine_137 : decode cX5_readsLine 137 = .ok (.goto 4, 3) := by decide +kernel
theorem dX5_readsLine_140 : decode cX5_readsLine 140 = .ok (.iconst 0, 1) := by decide +kernel
theorem dX5_readsLine_141 : decode cX5_readsLine 141 = .ok (.ireturn, 1) := by decide +kernel
theorem dX5_readsWay_0 : decode cX5_readsWay 0 = .ok (.aload_n 0, 1) := by decide +kernel
theorem dX5_readsWay_1 : decode cX5_readsWay 1 = .ok (.aload_n 1, 1) := by decide +kernel
theorem dX5_readsWay_2 : decode cX5_readsWay 2 = .ok (.iconst 0, 1) := by decide +kernel
theorem dX5_readsWay_3 : decode cX5_readsWay 3 = .ok (.invokevirtual 75, 3) := by decide +kernel
theorem dX5_readsWay_6 : decode cX5_readsWay 6 = .ok (.ifCond .eq 11, 3) := by decide +kernel
theorem dX5_readsWay_9 : decode cX5_readsWay 9 = .ok (.aload_n 0, 1) := by decide +kernel
theorem dX5_readsWay_10 : decode cX5_readsWay 10 = .ok (.aload_n 1, 1) := by decide +kernel
theorem dX5_readsWay_11 : decode cX5_readsWay 11 = .ok (.invokevirtual 91, 3) := by decide +kernel
theorem dX5_readsWay_14 : decode cX5_readsWay 14 = .ok (.ifCond .ne 5, 3) := by decide +kernel
theorem dX5_readsWay_17 : decode cX5_readsWay 17 = .ok (.iconst 0, 1) := by decide +kernel
theorem dX5_readsWay_18 : decode cX5_readsWay 18 = .ok (.ireturn, 1) := by decide +kernel
theorem dX5_readsWay_19 : decode cX5_readsWay 19 = .ok (.iconst 1, 1) := by decide +kernel
theorem dX5_readsWay_20 : decode cX5_readsWay 20 = .ok (.istore_n 2, 1) := by decide +kernel
theorem dX5_readsWay_21 : decode cX5_readsWay 21 = .ok (.iload_n 2, 1) := by decide +kernel
theorem dX5_readsWay_22 : decode cX5_readsWay 22 = .ok (.bipush 7, 2) := by decide +kernel
theorem dX5_readsWay_24 : decode cX5_readsWay 24 = .ok (.if_icmp .ge 28, 3) := by decide +kernel
theorem dX5_readsWay_27 : decode cX5_readsWay 27 = .ok (.aload_n 0, 1) := by decide +kernel
theorem dX5_readsWay_28 : decode cX5_readsWay 28 = .ok (.bipush 45, 2) := by decide +kernel
theorem dX5_readsWay_30 : decode cX5_readsWay 30 = .ok (.invokevirtual 34, 3) := by decide +kernel
theorem dX5_readsWay_33 : decode cX5_readsWay 33 = .ok (.ifCond .eq 19, 3) := by decide +kernel
theorem dX5_readsWay_36 : decode cX5_readsWay 36 = .ok (.aload_n 0, 1) := by decide +kernel
theorem dX5_readsWay_37 : decode cX5_readsWay 37 = .ok (.aload_n 1, 1) := by decide +kernel
theorem dX5_readsWay_38 : decode cX5_readsWay 38 = .ok (.invokevirtual 91, 3) := by decide +kernel
theorem dX5_readsWay_41 : decode cX5_readsWay 41 = .ok (.ifCond .ne 5, 3) := by decide +kernel
theorem dX5_readsWay_44 : decode cX5_readsWay 44 = .ok (.iconst 0, 1) := by decide +kernel
theorem dX5_readsWay_45 : decode cX5_readsWay 45 = .ok (.ireturn, 1) := by decide +kernel
theorem dX5_readsWay_46 : decode cX5_readsWay 46 = .ok (.iinc 2 1, 3) := by decide +kernel
theorem dX5_readsWay_49 : decode cX5_readsWay 49 = .ok (.goto (-28), 3) := by decide +kernel
theorem dX5_readsWay_52 : decode cX5_readsWay 52 = .ok (.iconst 1, 1) := by decide +kernel
theorem dX5_readsWay_53 : decode cX5_readsWay 53 = .ok (.ireturn, 1) := by decide +kernel
theorem dX5_keep_0 : decode cX5_keep 0 = .ok (.aload_n 0, 1) := by decide +kernel
theorem dX5_keep_1 : decode cX5_keep 1 = .ok (.dup, 1) := by decide +kernel
theorem dX5_keep_2 : decode cX5_keep 2 = .ok (.getfield 45, 3) := by decide +kernel
theorem dX5_keep_5 : decode cX5_keep 5 = .ok (.iconst 1, 1) := by decide +kernel
theorem dX5_keep_6 : decode cX5_keep 6 = .ok (.iadd, 1) := by decide +kernel
theorem dX5_keep_7 : decode cX5_keep 7 = .ok (.putfield 45, 3) := by decide +kernel
theorem dX5_keep_10 : decode cX5_keep 10 = .ok (.iload_n 2, 1) := by decide +kernel
theorem dX5_keep_11 : decode cX5_keep 11 = .ok (.ifCond .eq 26, 3) := by decide +kernel
theorem dX5_keep_14 : decode cX5_keep 14 = .ok (.aload_n 0, 1) := by decide +kernel
theorem dX5_keep_15 : decode cX5_keep 15 = .ok (.getfield 19, 3) := by decide +kernel
theorem dX5_keep_18 : decode cX5_keep 18 = .ok (.aload_n 0, 1) := by decide +kernel
theorem dX5_keep_19 : decode cX5_keep 19 = .ok (.getfield 45, 3) := by decide +kernel
theorem dX5_keep_22 : decode cX5_keep 22 = .ok (.aaload, 1) := by decide +kernel
theorem dX5_keep_23 : decode cX5_keep 23 = .ok (.aload_n 1, 1) := by decide +kernel
theorem dX5_keep_24 : decode cX5_keep 24 = .ok (.invokevirtual 94, 3) := by decide +kernel
theorem dX5_keep_27 : decode cX5_keep 27 = .ok (.aload_n 0, 1) := by decide +kernel
theorem dX5_keep_28 : decode cX5_keep 28 = .ok (.dup, 1) := by decide +kernel
theorem dX5_keep_29 : decode cX5_keep 29 = .ok (.getfield 45, 3) := by decide +kernel
theorem dX5_keep_32 : decode cX5_keep 32 = .ok (.iconst 1, 1) := by decide +kernel
theorem dX5_keep_33 : decode cX5_keep 33 = .ok (.iadd, 1) := by decide +kernel
theorem dX5_keep_34 : decode cX5_keep 34 = .ok (.putfield 45, 3) := by decide +kernel
theorem dX5_keep_37 : decode cX5_keep 37 = .ok (.iconst 1, 1) := by decide +kernel
theorem dX5_keep_38 : decode cX5_keep 38 = .ok (.ireturn, 1) := by decide +kernel
theorem dX6_init_0 : decode cX6_init 0 = .ok (.aload_n 0, 1) := by decide +kernel
theorem dX6_init_1 : decode cX6_init 1 = .ok (.invokespecial 1, 3) := by decide +kernel
theorem dX6_init_4 : decode cX6_init 4 = .ok (.aload_n 0, 1) := by decide +kernel
theorem dX6_init_5 : decode cX6_init 5 = .ok (.new 7, 3) := by decide +kernel
theorem dX6_init_8 : decode cX6_init 8 = .ok (.dup, 1) := by decide +kernel
theorem dX6_init_9 : decode cX6_init 9 = .ok (.invokespecial 9, 3) := by decide +kernel
theorem dX6_init_12 : decode cX6_init 12 = .ok (.putfield 10, 3) := by decide +kernel
theorem dX6_init_15 : decode cX6_init 15 = .ok (.aload_n 0, 1) := by decide +kernel
theorem dX6_init_16 : decode cX6_init 16 = .ok (.new 16, 3) := by decide +kernel
theorem dX6_init_19 : decode cX6_init 19 = .ok (.dup, 1) := by decide +kernel
theorem dX6_init_20 : decode cX6_init 20 = .ok (.invokespecial 18, 3) := by decide +kernel
theorem dX6_init_23 : decode cX6_init 23 = .ok (.putfield 19, 3) := by decide +kernel
theorem dX6_init_26 : decode cX6_init 26 = .ok (.aload_n 0, 1) := by decide +kernel
theorem dX6_init_27 : decode cX6_init 27 = .ok (.new 23, 3) := by decide +kernel
theorem dX6_init_30 : decode cX6_init 30 = .ok (.dup, 1) := by decide +kernel
theorem dX6_init_31 : decode cX6_init 31 = .ok (.invokespecial 25, 3) := by decide +kernel
theorem dX6_init_34 : decode cX6_init 34 = .ok (.putfield 26, 3) := by decide +kernel
theorem dX6_init_37 : decode cX6_init 37 = .ok (.aload_n 0, 1) := by decide +kernel
theorem dX6_init_38 : decode cX6_init 38 = .ok (.new 30, 3) := by decide +kernel
theorem dX6_init_41 : decode cX6_init 41 = .ok (.dup, 1) := by decide +kernel
theorem dX6_init_42 : decode cX6_init 42 = .ok (.invokespecial 32, 3) := by decide +kernel
theorem dX6_init_45 : decode cX6_init 45 = .ok (.putfield 33, 3) := by decide +kernel
theorem dX6_init_48 : decode cX6_init 48 = .ok (.return_, 1) := by decide +kernel
theorem dX6_sign_0 : decode cX6_sign 0 = .ok (.aload_n 0, 1) := by decide +kernel
theorem dX6_sign_1 : decode cX6_sign 1 = .ok (.getfield 10, 3) := by decide +kernel
theorem dX6_sign_4 : decode cX6_sign 4 = .ok (.iload_n 1, 1) := by decide +kernel
theorem dX6_sign_5 : decode cX6_sign 5 = .ok (.invokevirtual 37, 3) := by decide +kernel
theorem dX6_sign_8 : decode cX6_sign 8 = .ok (.ifCond .eq 13, 3) := by decide +kernel
theorem dX6_sign_11 : decode cX6_sign 11 = .ok (.aload_n 0, 1) := by decide +kernel
theorem dX6_sign_12 : decode cX6_sign 12 = .ok (.getfield 10, 3) := by decide +kernel
theorem dX6_sign_15 : decode cX6_sign 15 = .ok (.getfield 41, 3) := by decide +kernel
theorem dX6_sign_18 : decode cX6_sign 18 = .ok (.goto 4, 3) := by decide +kernel
theorem dX6_sign_21 : decode cX6_sign 21 = .ok (.iconst (-1), 1) := by decide +kernel
theorem dX6_sign_22 : decode cX6_sign 22 = .ok (.ireturn, 1) := by decide +kernel
theorem dX6_end_0 : decode cX6_end 0 = .ok (.iload_n 1, 1) := by decide +kernel
theorem dX6_end_1 : decode cX6_end 1 = .ok (.ifCond .lt 14, 3) := by decide +kernel
theorem dX6_end_4 : decode cX6_end 4 = .ok (.iload_n 1, 1) := by decide +kernel
theorem dX6_end_5 : decode cX6_end 5 = .ok (.aload_n 0, 1) := by decide +kernel
theorem dX6_end_6 : decode cX6_end 6 = .ok (.getfield 10, 3) := by decide +kernel
theorem dX6_end_9 : decode cX6_end 9 = .ok (.getfield 41, 3) := by decide +kernel
theorem dX6_end_12 : decode cX6_end 12 = .ok (.if_icmp .le 5, 3) := by decide +kernel
theorem dX6_end_15 : decode cX6_end 15 = .ok (.iconst 0, 1) := by decide +kernel
theorem dX6_end_16 : decode cX6_end 16 = .ok (.ireturn, 1) := by decide +kernel
theorem dX6_end_17 : decode cX6_end 17 = .ok (.aload_n 0, 1) := by decide +kernel
theorem dX6_end_18 : decode cX6_end 18 = .ok (.getfield 10, 3) := by decide +kernel
theorem dX6_end_21 : decode cX6_end 21 = .ok (.iload_n 1, 1) := by decide +kernel
theorem dX6_end_22 : decode cX6_end 22 = .ok (.putfield 41, 3) := by decide +kernel
theorem dX6_end_25 : decode cX6_end 25 = .ok (.iconst 1, 1) := by decide +kernel
theorem dX6_end_26 : decode cX6_end 26 = .ok (.ireturn, 1) := by decide +kernel
theorem dX6_net_0 : decode cX6_net 0 = .ok (.aload_n 0, 1) := by decide +kernel
theorem dX6_net_1 : decode cX6_net 1 = .ok (.getfield 10, 3) := by decide +kernel
theorem dX6_net_4 : decode cX6_net 4 = .ok (.invokevirtual 45, 3) := by decide +kernel
theorem dX6_net_7 : decode cX6_net 7 = .ok (.istore_n 1, 1) := by decide +kernel
theorem dX6_net_8 : decode cX6_net 8 = .ok (.aload_n 0, 1) := by decide +kernel
theorem dX6_net_9 : decode cX6_net 9 = .ok (.getfield 10, 3) := by decide +kernel
theorem dX6_net_12 : decode cX6_net 12 = .ok (.iconst 0, 1) := by decide +kernel
theorem dX6_net_13 : decode cX6_net 13 = .ok (.putfield 41, 3) := by decide +kernel
theorem dX6_net_16 : decode cX6_net 16 = .ok (.iload_n 1, 1) := by decide +kernel
theorem dX6_net_17 : decode cX6_net 17 = .ok (.ifCond .ne 14, 3) := by decide +kernel
theorem dX6_net_20 : decode cX6_net 20 = .ok (.bipush (-21), 2) := by decide +kernel
theorem dX6_net_22 : decode cX6_net 22 = .ok (.aload_n 0, 1) := by decide +kernel
theorem dX6_net_23 : decode cX6_net 23 = .ok (.getfield 10, 3) := by decide +kernel
theorem dX6_net_26 : decode cX6_net 26 = .ok (.getfield 49, 3) := by decide +kernel
theorem dX6_net_29 : decode cX6_net 29 = .ok (.isub, 1) := by decide +kernel
theorem dX6_net_30 : decode cX6_net 30 = .ok (.ireturn, 1) := by decide +kernel
theorem dX6_net_31 : decode cX6_net 31 = .ok (.aload_n 0, 1) := by decide +kernel
theorem dX6_net_32 : decode cX6_net 32 = .ok (.getfield 19, 3) := by decide +kernel
theorem dX6_net_35 : decode cX6_net 35 = .ok (.aload_n 0, 1) := by decide +kernel
theorem dX6_net_36 : decode cX6_net 36 = .ok (.getfield 10, 3) := by decide +kernel
theorem dX6_net_39 : decode cX6_net 39 = .ok (.invokevirtual 52, 3) := by decide +kernel
theorem dX6_net_42 : decode cX6_net 42 = .ok (.aload_n 0, 1) := by decide +kernel
theorem dX6_net_43 : decode cX6_net 43 = .ok (.getfield 19, 3) := by decide +kernel
theorem dX6_net_46 : decode cX6_net 46 = .ok (.getfield 56, 3) := by decide +kernel
theorem dX6_net_49 : decode cX6_net 49 = .ok (.ireturn, 1) := by decide +kernel
theorem dX6_adds_0 : decode cX6_adds 0 = .ok (.aload_n 0, 1) := by decide +kernel
theorem dX6_adds_1 : decode cX6_adds 1 = .ok (.getfield 10, 3) := by decide +kernel
theorem dX6_adds_4 : decode cX6_adds 4 = .ok (.bipush 12, 2) := by decide +kernel
theorem dX6_adds_6 : decode cX6_adds 6 = .ok (.aload_n 0, 1) := by decide +kernel
theorem dX6_adds_7 : decode cX6_adds 7 = .ok (.getfield 19, 3) := by decide +kernel
theorem dX6_adds_10 : decode cX6_adds 10 = .ok (.getfield 56, 3) := by decide +kernel
theorem dX6_adds_13 : decode cX6_adds 13 = .ok (.isub, 1) := by decide +kernel
theorem dX6_adds_14 : decode cX6_adds 14 = .ok (.invokevirtual 59, 3) := by decide +kernel
theorem dX6_adds_17 : decode cX6_adds 17 = .ok (.istore_n 1, 1) := by decide +kernel
theorem dX6_adds_18 : decode cX6_adds 18 = .ok (.aload_n 0, 1) := by decide +kernel
theorem dX6_adds_19 : decode cX6_adds 19 = .ok (.getfield 10, 3) := by decide +kernel
theorem dX6_adds_22 : decode cX6_adds 22 = .ok (.iconst 0, 1) := by decide +kernel
theorem dX6_adds_23 : decode cX6_adds 23 = .ok (.putfield 41, 3) := by decide +kernel
theorem dX6_adds_26 : decode cX6_adds 26 = .ok (.iload_n 1, 1) := by decide +kernel
theorem dX6_adds_27 : decode cX6_adds 27 = .ok (.ifCond .ne 14, 3) := by decide +kernel
theorem dX6_adds_30 : decode cX6_adds 30 = .ok (.bipush (-21), 2) := by decide +kernel
theorem dX6_adds_32 : decode cX6_adds 32 = .ok (.aload_n 0, 1) := by decide +kernel
theorem dX6_adds_33 : decode cX6_adds 33 = .ok (.getfield 10, 3) := by decide +kernel
theorem dX6_adds_36 : decode cX6_adds 36 = .ok (.getfield 49, 3) := by decide +kernel
theorem dX6_adds_39 : decode cX6_adds 39 = .ok (.isub, 1) := by decide +kernel
theorem dX6_adds_40 : decode cX6_adds 40 = .ok (.ireturn, 1) := by decide +kernel
theorem dX6_adds_41 : decode cX6_adds 41 = .ok (.aload_n 0, 1) := by decide +kernel
theorem dX6_adds_42 : decode cX6_adds 42 = .ok (.getfield 19, 3) := by decide +kernel
theorem dX6_adds_45 : decode cX6_adds 45 = .ok (.aload_n 0, 1) := by decide +kernel
theorem dX6_adds_46 : decode cX6_adds 46 = .ok (.getfield 10, 3) := by decide +kernel
theorem dX6_adds_49 : decode cX6_adds 49 = .ok (.invokevirtual 62, 3) := by decide +kernel
theorem dX6_adds_52 : decode cX6_adds 52 = .ok (.aload_n 0, 1) := by decide +kernel
theorem dX6_adds_53 : decode cX6_adds 53 = .ok (.getfield 19, 3) := by decide +kernel
theorem dX6_adds_56 : decode cX6_adds 56 = .ok (.getfield 56, 3) := by decide +kernel
theorem dX6_adds_59 : decode cX6_adds 59 = .ok (.ireturn, 1) := by decide +kernel
theorem dX6_drops_0 : decode cX6_drops 0 = .ok (.aload_n 0, 1) := by decide +kernel
theorem dX6_drops_1 : decode cX6_drops 1 = .ok (.getfield 19, 3) := by decide +kernel
theorem dX6_drops_4 : decode cX6_drops 4 = .ok (.iload_n 1, 1) := by decide +kernel
theorem dX6_drops_5 : decode cX6_drops 5 = .ok (.invokevirtual 65, 3) := by decide +kernel
theorem dX6_drops_8 : decode cX6_drops 8 = .ok (.ifCond .ne 5, 3) := by decide +kernel
theorem dX6_drops_11 : decode cX6_drops 11 = .ok (.iconst (-1), 1) := by decide +kernel
theorem dX6_drops_12 : decode cX6_drops 12 = .ok (.ireturn, 1) := by decide +kernel
theorem dX6_drops_13 : decode cX6_drops 13 = .ok (.aload_n 0, 1) := by decide +kernel
theorem dX6_drops_14 : decode cX6_drops 14 = .ok (.getfield 19, 3) := by decide +kernel
theorem dX6_drops_17 : decode cX6_drops 17 = .ok (.iload_n 1, 1) := by decide +kernel
theorem dX6_drops_18 : decode cX6_drops 18 = .ok (.invokevirtual 68, 3) := by decide +kernel
theorem dX6_drops_21 : decode cX6_drops 21 = .ok (.aload_n 0, 1) := by decide +kernel
theorem dX6_drops_22 : decode cX6_drops 22 = .ok (.getfield 19, 3) := by decide +kernel
theorem dX6_drops_25 : decode cX6_drops 25 = .ok (.getfield 56, 3) := by decide +kernel
theorem dX6_drops_28 : decode cX6_drops 28 = .ok (.ireturn, 1) := by decide +kernel
theorem dX6_waiting_0 : decode cX6_waiting 0 = .ok (.iload_n 1, 1) := by decide +kernel
theorem dX6_waiting_1 : decode cX6_waiting 1 = .ok (.iconst 1, 1) := by decide +kernel
theorem dX6_waiting_2 : decode cX6_waiting 2 = .ok (.if_icmp .lt 9, 3) := by decide +kernel
theorem dX6_waiting_5 : decode cX6_waiting 5 = .ok (.iload_n 1, 1) := by decide +kernel
theorem dX6_waiting_6 : decode cX6_waiting 6 = .ok (.bipush 100, 2) := by decide +kernel
theorem dX6_waiting_8 : decode cX6_waiting 8 = .ok (.if_icmp .le 5, 3) := by decide +kernel
theorem dX6_waiting_11 : decode cX6_waiting 11 = .ok (.iconst (-1), 1) := by decide +kernel
theorem dX6_waiting_12 : decode cX6_waiting 12 = .ok (.ireturn, 1) := by decide +kernel
theorem dX6_waiting_13 : decode cX6_waiting 13 = .ok (.aload_n 0, 1) := by decide +kernel
theorem dX6_waiting_14 : decode cX6_waiting 14 = .ok (.getfield 19, 3) := by decide +kernel
theorem dX6_waiting_17 : decode cX6_waiting 17 = .ok (.getfield 72, 3) := by decide +kernel
theorem dX6_waiting_20 : decode cX6_waiting 20 = .ok (.istore_n 2, 1) := by decide +kernel
theorem dX6_waiting_21 : decode cX6_waiting 21 = .ok (.aload_n 0, 1) := by decide +kernel
theorem dX6_waiting_22 : decode cX6_waiting 22 = .ok (.getfield 19, 3) := by decide +kernel
theorem dX6_waiting_25 : decode cX6_waiting 25 = .ok (.iload_n 1, 1) := by decide +kernel
theorem dX6_waiting_26 : decode cX6_waiting 26 = .ok (.putfield 72, 3) := by decide +kernel
theorem dX6_waiting_29 : decode cX6_waiting 29 = .ok (.iload_n 2, 1) := by decide +kernel
theorem dX6_waiting_30 : decode cX6_waiting 30 = .ok (.ireturn, 1) := by decide +kernel
theorem dX6_goal_0 : decode cX6_goal 0 = .ok (.iload_n 1, 1) := by decide +kernel
theorem dX6_goal_1 : decode cX6_goal 1 = .ok (.invokestatic 75, 3) := by decide +kernel
theorem dX6_goal_4 : decode cX6_goal 4 = .ok (.ifCond .ne 5, 3) := by decide +kernel
theorem dX6_goal_7 : decode cX6_goal 7 = .ok (.iconst (-1), 1) := by decide +kernel
theorem dX6_goal_8 : decode cX6_goal 8 = .ok (.ireturn, 1) := by decide +kernel
theorem dX6_goal_9 : decode cX6_goal 9 = .ok (.aload_n 0, 1) := by decide +kernel
theorem dX6_goal_10 : decode cX6_goal 10 = .ok (.getfield 19, 3) := by decide +kernel
theorem dX6_goal_13 : decode cX6_goal 13 = .ok (.getfield 78, 3) := by decide +kernel
theorem dX6_goal_16 : decode cX6_goal 16 = .ok (.istore_n 2, 1) := by decide +kernel
theorem dX6_goal_17 : decode cX6_goal 17 = .ok (.aload_n 0, 1) := by decide +kernel
theorem dX6_goal_18 : decode cX6_goal 18 = .ok (.getfield 19, 3) := by decide +kernel
theorem dX6_goal_21 : decode cX6_goal 21 = .ok (.iload_n 1, 1) := by decide +kernel
theorem dX6_goal_22 : decode cX6_goal 22 = .ok (.putfield 78, 3) := by decide +kernel
theorem dX6_goal_25 : decode cX6_goal 25 = .ok (.iload_n 2, 1) := by decide +kernel
theorem dX6_goal_26 : decode cX6_goal 26 = .ok (.ireturn, 1) := by decide +kernel
theorem dX6_riders_0 : decode cX6_riders 0 = .ok (.iload_n 1, 1) := by decide +kernel
theorem dX6_riders_1 : decode cX6_riders 1 = .ok (.invokestatic 75, 3) := by decide +kernel
theorem dX6_riders_4 : decode cX6_riders 4 = .ok (.ifCond .eq 14, 3) := by decide +kernel
theorem dX6_riders_7 : decode cX6_riders 7 = .ok (.iload_n 2, 1) := by decide +kernel
theorem dX6_riders_8 : decode cX6_riders 8 = .ok (.ifCond .lt 10, 3) := by decide +kernel
theorem dX6_riders_11 : decode cX6_riders 11 = .ok (.iload_n 2, 1) := by decide +kernel
theorem dX6_riders_12 : decode cX6_riders 12 = .ok (.sipush 9999, 3) := by decide +kernel
theorem dX6_riders_15 : decode cX6_riders 15 = .ok (.if_icmp .le 5, 3) := by decide +kernel
theorem dX6_riders_18 : decode cX6_riders 18 = .ok (.iconst (-1), 1) := by decide +kernel
theorem dX6_riders_19 : decode cX6_riders 19 = .ok (.ireturn, 1) := by decide +kernel
theorem dX6_riders_20 : decode cX6_riders 20 = .ok (.aload_n 0, 1) := by decide +kernel
theorem dX6_riders_21 : decode cX6_riders 21 = .ok (.getfield 19, 3) := by decide +kernel
theorem dX6_riders_24 : decode cX6_riders 24 = .ok (.getfield 81, 3) := by decide +kernel
theorem dX6_riders_27 : decode cX6_riders 27 = .ok (.iload_n 1, 1) := by decide +kernel
theorem dX6_riders_28 : decode cX6_riders 28 = .ok (.aaload, 1) := by decide +kernel
theorem dX6_riders_29 : decode cX6_riders 29 = .ok (.getfield 85, 3) := by decide +kernel
theorem dX6_riders_32 : decode cX6_riders 32 = .ok (.istore_n 3, 1) := by decide +kernel
theorem dX6_riders_33 : decode cX6_riders 33 = .ok (.aload_n 0, 1) := by decide +kernel
theorem dX6_riders_34 : decode cX6_riders 34 = .ok (.getfield 19, 3) := by decide +kernel
theorem dX6_riders_37 : decode cX6_riders 37 = .ok (.getfield 81, 3) := by decide +kernel
theorem dX6_riders_40 : decode cX6_riders 40 = .ok (.iload_n 1, 1) := by decide +kernel
theorem dX6_riders_41 : decode cX6_riders 41 = .ok (.aaload, 1) := by decide +kernel
theorem dX6_riders_42 : decode cX6_riders 42 = .ok (.iload_n 2, 1) := by decide +kernel
theorem dX6_riders_43 : decode cX6_riders 43 = .ok (.putfield 85, 3) := by decide +kernel
theorem dX6_riders_46 : decode cX6_riders 46 = .ok (.iload_n 3, 1) := by decide +kernel
theorem dX6_riders_47 : decode cX6_riders 47 = .ok (.ireturn, 1) := by decide +kernel
theorem dX6_out_0 : decode cX6_out 0 = .ok (.aload_n 0, 1) := by decide +kernel
theorem dX6_out_1 : decode cX6_out 1 = .ok (.getfield 19, 3) := by decide +kernel
theorem dX6_out_4 : decode cX6_out 4 = .ok (.iload_n 1, 1) := by decide +kernel
theorem dX6_out_5 : decode cX6_out 5 = .ok (.invokevirtual 65, 3) := by decide +kernel
theorem dX6_out_8 : decode cX6_out 8 = .ok (.ifCond .ne 5, 3) := by decide +kernel
theorem dX6_out_11 : decode cX6_out 11 = .ok (.iconst (-1), 1) := by decide +kernel
theorem dX6_out_12 : decode cX6_out 12 = .ok (.ireturn, 1) := by decide +kernel
theorem dX6_out_13 : decode cX6_out 13 = .ok (.aload_n 0, 1) := by decide +kernel
theorem dX6_out_14 : decode cX6_out 14 = .ok (.getfield 19, 3) := by decide +kernel
theorem dX6_out_17 : decode cX6_out 17 = .ok (.getfield 90, 3) := by decide +kernel
theorem dX6_out_20 : decode cX6_out 20 = .ok (.iload_n 1, 1) := by decide +kernel
theorem dX6_out_21 : decode cX6_out 21 = .ok (.aaload, 1) := by decide +kernel
theorem dX6_out_22 : decode cX6_out 22 = .ok (.getfield 94, 3) := by decide +kernel
theorem dX6_out_25 : decode cX6_out 25 = .ok (.iload_n 2, 1) := by decide +kernel
theorem dX6_out_26 : decode cX6_out 26 = .ok (.if_icmp .ne 6, 3) := by decide +kernel
theorem dX6_out_29 : decode cX6_out 29 = .ok (.bipush (-2), 2) := by decide +kernel
theorem dX6_out_31 : decode cX6_out 31 = .ok (.ireturn, 1) := by decide +kernel
theorem dX6_out_32 : decode cX6_out 32 = .ok (.aload_n 0, 1) := by decide +kernel
theorem dX6_out_33 : decode cX6_out 33 = .ok (.getfield 19, 3) := by decide +kernel
theorem dX6_out_36 : decode cX6_out 36 = .ok (.getfield 90, 3) := by decide +kernel
theorem dX6_out_39 : decode cX6_out 39 = .ok (.iload_n 1, 1) := by decide +kernel
theorem dX6_out_40 : decode cX6_out 40 = .ok (.aaload, 1) := by decide +kernel
theorem dX6_out_41 : decode cX6_out 41 = .ok (.iload_n 2, 1) := by decide +kernel
theorem dX6_out_42 : decode cX6_out 42 = .ok (.putfield 94, 3) := by decide +kernel
theorem dX6_out_45 : decode cX6_out 45 = .ok (.aload_n 0, 1) := by decide +kernel
theorem dX6_out_46 : decode cX6_out 46 = .ok (.getfield 19, 3) := by decide +kernel
theorem dX6_out_49 : decode cX6_out 49 = .ok (.invokevirtual 100, 3) := by decide +kernel
theorem dX6_out_52 : decode cX6_out 52 = .ok (.invokestatic 104, 3) := by decide +kernel
theorem dX6_out_55 : decode cX6_out 55 = .ok (.ireturn, 1) := by decide +kernel
theorem dX6_closes_0 : decode cX6_closes 0 = .ok (.iload_n 1, 1) := by decide +kernel
theorem dX6_closes_1 : decode cX6_closes 1 = .ok (.invokestatic 75, 3) := by decide +kernel
theorem dX6_closes_4 : decode cX6_closes 4 = .ok (.ifCond .ne 5, 3) := by decide +kernel
theorem dX6_closes_7 : decode cX6_closes 7 = .ok (.iconst (-1), 1) := by decide +kernel
theorem dX6_closes_8 : decode cX6_closes 8 = .ok (.ireturn, 1) := by decide +kernel
theorem dX6_closes_9 : decode cX6_closes 9 = .ok (.aload_n 0, 1) := by decide +kernel
theorem dX6_closes_10 : decode cX6_closes 10 = .ok (.getfield 19, 3) := by decide +kernel
theorem dX6_closes_13 : decode cX6_closes 13 = .ok (.getfield 81, 3) := by decide +kernel
theorem dX6_closes_16 : decode cX6_closes 16 = .ok (.iload_n 1, 1) := by decide +kernel
theorem dX6_closes_17 : decode cX6_closes 17 = .ok (.aaload, 1) := by decide +kernel
theorem dX6_closes_18 : decode cX6_closes 18 = .ok (.getfield 110, 3) := by decide +kernel
theorem dX6_closes_21 : decode cX6_closes 21 = .ok (.iload_n 2, 1) := by decide +kernel
theorem dX6_closes_22 : decode cX6_closes 22 = .ok (.if_icmp .ne 6, 3) := by decide +kernel
theorem dX6_closes_25 : decode cX6_closes 25 = .ok (.bipush (-2), 2) := by decide +kernel
theorem dX6_closes_27 : decode cX6_closes 27 = .ok (.ireturn, 1) := by decide +kernel
theorem dX6_closes_28 : decode cX6_closes 28 = .ok (.aload_n 0, 1) := by decide +kernel
theorem dX6_closes_29 : decode cX6_closes 29 = .ok (.getfield 19, 3) := by decide +kernel
theorem dX6_closes_32 : decode cX6_closes 32 = .ok (.getfield 81, 3) := by decide +kernel
theorem dX6_closes_35 : decode cX6_closes 35 = .ok (.iload_n 1, 1) := by decide +kernel
theorem dX6_closes_36 : decode cX6_closes 36 = .ok (.aaload, 1) := by decide +kernel
theorem dX6_closes_37 : decode cX6_closes 37 = .ok (.iload_n 2, 1) := by decide +kernel
theorem dX6_closes_38 : decode cX6_closes 38 = .ok (.putfield 110, 3) := by decide +kernel
theorem dX6_closes_41 : decode cX6_closes 41 = .ok (.aload_n 0, 1) := by decide +kernel
theorem dX6_closes_42 : decode cX6_closes 42 = .ok (.getfield 19, 3) := by decide +kernel
theorem dX6_closes_45 : decode cX6_closes 45 = .ok (.invokevirtual 113, 3) := by decide +kernel
theorem dX6_closes_48 : decode cX6_closes 48 = .ok (.invokestatic 104, 3) := by decide +kernel
theorem dX6_closes_51 : decode cX6_closes 51 = .ok (.ireturn, 1) := by decide +kernel
theorem dX6_often_0 : decode cX6_often 0 = .ok (.aload_n 0, 1) := by decide +kernel
theorem dX6_often_1 : decode cX6_often 1 = .ok (.getfield 19, 3) := by decide +kernel
theorem dX6_often_4 : decode cX6_often 4 = .ok (.iload_n 1, 1) := by decide +kernel
theorem dX6_often_5 : decode cX6_often 5 = .ok (.invokevirtual 65, 3) := by decide +kernel
theorem dX6_often_8 : decode cX6_often 8 = .ok (.ifCond .eq 14, 3) := by decide +kernel
theorem dX6_often_11 : decode cX6_often 11 = .ok (.iload_n 2, 1) := by decide +kernel
theorem dX6_often_12 : decode cX6_often 12 = .ok (.iconst 1, 1) := by decide +kernel
theorem dX6_often_13 : decode cX6_often 13 = .ok (.if_icmp .lt 9, 3) := by decide +kernel
theorem dX6_often_16 : decode cX6_often 16 = .ok (.iload_n 2, 1) := by decide +kernel
theorem dX6_often_17 : decode cX6_often 17 = .ok (.bipush 60, 2) := by decide +kernel
theorem dX6_often_19 : decode cX6_often 19 = .ok (.if_icmp .le 5, 3) := by decide +kernel
theorem dX6_often_22 : decode cX6_often 22 = .ok (.iconst (-1), 1) := by decide +kernel
theorem dX6_often_23 : decode cX6_often 23 = .ok (.ireturn, 1) := by decide +kernel
theorem dX6_often_24 : decode cX6_often 24 = .ok (.aload_n 0, 1) := by decide +kernel
theorem dX6_often_25 : decode cX6_often 25 = .ok (.getfield 19, 3) := by decide +kernel
theorem dX6_often_28 : decode cX6_often 28 = .ok (.getfield 90, 3) := by decide +kernel
theorem dX6_often_31 : decode cX6_often 31 = .ok (.iload_n 1, 1) := by decide +kernel
theorem dX6_often_32 : decode cX6_often 32 = .ok (.aaload, 1) := by decide +kernel
theorem dX6_often_33 : decode cX6_often 33 = .ok (.getfield 116, 3) := by decide +kernel
theorem dX6_often_36 : decode cX6_often 36 = .ok (.istore_n 3, 1) := by decide +kernel
theorem dX6_often_37 : decode cX6_often 37 = .ok (.aload_n 0, 1) := by decide +kernel
theorem dX6_often_38 : decode cX6_often 38 = .ok (.getfield 19, 3) := by decide +kernel
theorem dX6_often_41 : decode cX6_often 41 = .ok (.getfield 90, 3) := by decide +kernel
theorem dX6_often_44 : decode cX6_often 44 = .ok (.iload_n 1, 1) := by decide +kernel
theorem dX6_often_45 : decode cX6_often 45 = .ok (.aaload, 1) := by decide +kernel
theorem dX6_often_46 : decode cX6_often 46 = .ok (.iload_n 2, 1) := by decide +kernel
theorem dX6_often_47 : decode cX6_often 47 = .ok (.putfield 116, 3) := by decide +kernel
theorem dX6_often_50 : decode cX6_often 50 = .ok (.iload_n 3, 1) := by decide +kernel
theorem dX6_often_51 : decode cX6_often 51 = .ok (.ireturn, 1) := by decide +kernel
theorem dX6_line_0 : decode cX6_line 0 = .ok (.aload_n 0, 1) := by decide +kernel
theorem dX6_line_1 : decode cX6_line 1 = .ok (.getfield 19, 3) := by decide +kernel
theorem dX6_line_4 : decode cX6_line 4 = .ok (.iload_n 1, 1) := by decide +kernel
theorem dX6_line_5 : decode cX6_line 5 = .ok (.invokevirtual 65, 3) := by decide +kernel
theorem dX6_line_8 : decode cX6_line 8 = .ok (.ifCond .ne 5, 3) := by decide +kernel
theorem dX6_line_11 : decode cX6_line 11 = .ok (.iconst (-1), 1) := by decide +kernel
theorem dX6_line_12 : decode cX6_line 12 = .ok (.ireturn, 1) := by decide +kernel
theorem dX6_line_13 : decode cX6_line 13 = .ok (.aload_n 0, 1) := by decide +kernel
theorem dX6_line_14 : decode cX6_line 14 = .ok (.getfield 19, 3) := by decide +kernel
theorem dX6_line_17 : decode cX6_line 17 = .ok (.getfield 90, 3) := by decide +kernel
theorem dX6_line_20 : decode cX6_line 20 = .ok (.iload_n 1, 1) := by decide +kernel
theorem dX6_line_21 : decode cX6_line 21 = .ok (.aaload, 1) := by decide +kernel
theorem dX6_line_22 : decode cX6_line 22 = .ok (.astore_n 3, 1) := by decide +kernel
theorem dX6_line_23 : decode cX6_line 23 = .ok (.iload_n 2, 1) := by decide +kernel
theorem dX6_line_24 : decode cX6_line 24 = .ok (.tableswitch 64 0 4 #[36, 41, 46, 51, 56], 36) := by decide +kernel
theorem dX6_line_60 : decode cX6_line 60 = .ok (.aload_n 3, 1) := by decide +kernel
theorem dX6_line_61 : decode cX6_line 61 = .ok (.getfield 116, 3) := by decide +kernel
theorem dX6_line_64 : decode cX6_line 64 = .ok (.ireturn, 1) := by decide +kernel
theorem dX6_line_65 : decode cX6_line 65 = .ok (.aload_n 3, 1) := by decide +kernel
theorem dX6_line_66 : decode cX6_line 66 = .ok (.getfield 119, 3) := by decide +kernel
theorem dX6_line_69 : decode cX6_line 69 = .ok (.ireturn, 1) := by decide +kernel
theorem dX6_line_70 : decode cX6_line 70 = .ok (.aload_n 3, 1) := by decide +kernel
theorem dX6_line_71 : decode cX6_line 71 = .ok (.getfield 122, 3) := by decide +kernel
theorem dX6_line_74 : decode cX6_line 74 = .ok (.ireturn, 1) := by decide +kernel
theorem dX6_line_75 : decode cX6_line 75 = .ok (.aload_n 3, 1) := by decide +kernel
theorem dX6_line_76 : decode cX6_line 76 = .ok (.getfield 125, 3) := by decide +kernel
theorem dX6_line_79 : decode cX6_line 79 = .ok (.ireturn, 1) := by decide +kernel
theorem dX6_line_80 : decode cX6_line 80 = .ok (.aload_n 3, 1) := by decide +kernel
theorem dX6_line_81 : decode cX6_line 81 = .ok (.getfield 94, 3) := by decide +kernel
theorem dX6_line_84 : decode cX6_line 84 = .ok (.invokestatic 128, 3) := by decide +kernel
theorem dX6_line_87 : decode cX6_line 87 = .ok (.ireturn, 1) := by decide +kernel
theorem dX6_line_88 : decode cX6_line 88 = .ok (.iconst (-1), 1) := by decide +kernel
theorem dX6_line_89 : decode cX6_line 89 = .ok (.ireturn, 1) := by decide +kernel
theorem dX6_stop_0 : decode cX6_stop 0 = .ok (.aload_n 0, 1) := by decide +kernel
theorem dX6_stop_1 : decode cX6_stop 1 = .ok (.getfield 19, 3) := by decide +kernel
theorem dX6_stop_4 : decode cX6_stop 4 = .ok (.iload_n 1, 1) := by decide +kernel
theorem dX6_stop_5 : decode cX6_stop 5 = .ok (.iload_n 2, 1) := by decide +kernel
theorem dX6_stop_6 : decode cX6_stop 6 = .ok (.invokevirtual 132, 3) := by decide +kernel
theorem dX6_stop_9 : decode cX6_stop 9 = .ok (.ifCond .ne 5, 3) := by decide +kernel
theorem dX6_stop_12 : decode cX6_stop 12 = .ok (.iconst (-1), 1) := by decide +kernel
theorem dX6_stop_13 : decode cX6_stop 13 = .ok (.ireturn, 1) := by decide +kernel
theorem dX6_stop_14 : decode cX6_stop 14 = .ok (.aload_n 0, 1) := by decide +kernel
theorem dX6_stop_15 : decode cX6_stop 15 = .ok (.getfield 19, 3) := by decide +kernel
theorem dX6_stop_18 : decode cX6_stop 18 = .ok (.getfield 90, 3) := by decide +kernel
theorem dX6_stop_21 : decode cX6_stop 21 = .ok (.iload_n 1, 1) := by decide +kernel
theorem dX6_stop_22 : decode cX6_stop 22 = .ok (.aaload, 1) := by decide +kernel
theorem dX6_stop_23 : decode cX6_stop 23 = .ok (.astore_n 3, 1) := by decide +kernel
theorem dX6_stop_24 : decode cX6_stop 24 = .ok (.aload_n 0, 1) := by decide +kernel
theorem dX6_stop_25 : decode cX6_stop 25 = .ok (.getfield 26, 3) := by decide +kernel
theorem dX6_stop_28 : decode cX6_stop 28 = .ok (.invokevirtual 136, 3) := by decide +kernel
theorem dX6_stop_31 : decode cX6_stop 31 = .ok (.aload_n 3, 1) := by decide +kernel
theorem dX6_stop_32 : decode cX6_stop 32 = .ok (.iload_n 2, 1) := by decide +kernel
theorem dX6_stop_33 : decode cX6_stop 33 = .ok (.invokevirtual 139, 3) := by decide +kernel
theorem dX6_stop_36 : decode cX6_stop 36 = .ok (.ifCond .eq 31, 3) := by decide +kernel
theorem dX6_stop_39 : decode cX6_stop 39 = .ok (.aload_n 0, 1) := by decide +kernel
theorem dX6_stop_40 : decode cX6_stop 40 = .ok (.getfield 26, 3) := by decide +kernel
theorem dX6_stop_43 : decode cX6_stop 43 = .ok (.aload_n 3, 1) := by decide +kernel
theorem dX6_stop_44 : decode cX6_stop 44 = .ok (.getfield 142, 3) := by decide +kernel
theorem dX6_stop_47 : decode cX6_stop 47 = .ok (.iload_n 2, 1) := by decide +kernel
theorem dX6_stop_48 : decode cX6_stop 48 = .ok (.iaload, 1) := by decide +kernel
theorem dX6_stop_49 : decode cX6_stop 49 = .ok (.i2l, 1) := by decide +kernel
theorem dX6_stop_50 : decode cX6_stop 50 = .ok (.invokevirtual 146, 3) := by decide +kernel
theorem dX6_stop_53 : decode cX6_stop 53 = .ok (.aload_n 0, 1) := by decide +kernel
theorem dX6_stop_54 : decode cX6_stop 54 = .ok (.getfield 26, 3) := by decide +kernel
theorem dX6_stop_57 : decode cX6_stop 57 = .ok (.aload_n 3, 1) := by decide +kernel
theorem dX6_stop_58 : decode cX6_stop 58 = .ok (.getfield 150, 3) := by decide +kernel
theorem dX6_stop_61 : decode cX6_stop 61 = .ok (.iload_n 2, 1) := by decide +kernel
theorem dX6_stop_62 : decode cX6_stop 62 = .ok (.iaload, 1) := by decide +kernel
theorem dX6_stop_63 : decode cX6_stop 63 = .ok (.i2l, 1) := by decide +kernel
theorem dX6_stop_64 : decode cX6_stop 64 = .ok (.invokevirtual 146, 3) := by decide +kernel
theorem dX6_stop_67 : decode cX6_stop 67 = .ok (.aload_n 3, 1) := by decide +kernel
theorem dX6_stop_68 : decode cX6_stop 68 = .ok (.getfield 153, 3) := by decide +kernel
theorem dX6_stop_71 : decode cX6_stop 71 = .ok (.iload_n 2, 1) := by decide +kernel
theorem dX6_stop_72 : decode cX6_stop 72 = .ok (.iaload, 1) := by decide +kernel
theorem dX6_stop_73 : decode cX6_stop 73 = .ok (.ireturn, 1) := by decide +kernel
theorem dX6_cost_0 : decode cX6_cost 0 = .ok (.iload_n 1, 1) := by decide +kernel
theorem dX6_cost_1 : decode cX6_cost 1 = .ok (.invokestatic 75, 3) := by decide +kernel
theorem dX6_cost_4 : decode cX6_cost 4 = .ok (.ifCond .ne 5, 3) := by decide +kernel
theorem dX6_cost_7 : decode cX6_cost 7 = .ok (.iconst (-1), 1) := by decide +kernel
theorem dX6_cost_8 : decode cX6_cost 8 = .ok (.ireturn, 1) := by decide +kernel
theorem dX6_cost_9 : decode cX6_cost 9 = .ok (.aload_n 0, 1) := by decide +kernel
theorem dX6_cost_10 : decode cX6_cost 10 = .ok (.getfield 19, 3) := by decide +kernel
theorem dX6_cost_13 : decode cX6_cost 13 = .ok (.invokevirtual 155, 3) := by decide +kernel
theorem dX6_cost_16 : decode cX6_cost 16 = .ok (.aload_n 0, 1) := by decide +kernel
theorem dX6_cost_17 : decode cX6_cost 17 = .ok (.getfield 19, 3) := by decide +kernel
theorem dX6_cost_20 : decode cX6_cost 20 = .ok (.getfield 81, 3) := by decide +kernel
theorem dX6_cost_23 : decode cX6_cost 23 = .ok (.iload_n 1, 1) := by decide +kernel
theorem dX6_cost_24 : decode cX6_cost 24 = .ok (.aaload, 1) := by decide +kernel
theorem dX6_cost_25 : decode cX6_cost 25 = .ok (.astore_n 2, 1) := by decide +kernel
theorem dX6_cost_26 : decode cX6_cost 26 = .ok (.aload_n 2, 1) := by decide +kernel
theorem dX6_cost_27 : decode cX6_cost 27 = .ok (.getfield 158, 3) := by decide +kernel
theorem dX6_cost_30 : decode cX6_cost 30 = .ok (.iconst (-1), 1) := by decide +kernel
theorem dX6_cost_31 : decode cX6_cost 31 = .ok (.if_icmp .ne 6, 3) := by decide +kernel
theorem dX6_cost_34 : decode cX6_cost 34 = .ok (.bipush (-2), 2) := by decide +kernel
theorem dX6_cost_36 : decode cX6_cost 36 = .ok (.ireturn, 1) := by decide +kernel
theorem dX6_cost_37 : decode cX6_cost 37 = .ok (.aload_n 0, 1) := by decide +kernel
theorem dX6_cost_38 : decode cX6_cost 38 = .ok (.getfield 26, 3) := by decide +kernel
theorem dX6_cost_41 : decode cX6_cost 41 = .ok (.aload_n 2, 1) := by decide +kernel
theorem dX6_cost_42 : decode cX6_cost 42 = .ok (.getfield 161, 3) := by decide +kernel
theorem dX6_cost_45 : decode cX6_cost 45 = .ok (.i2l, 1) := by decide +kernel
theorem dX6_cost_46 : decode cX6_cost 46 = .ok (.aload_n 2, 1) := by decide +kernel
theorem dX6_cost_47 : decode cX6_cost 47 = .ok (.getfield 164, 3) := by decide +kernel
theorem dX6_cost_50 : decode cX6_cost 50 = .ok (.i2l, 1) := by decide +kernel
theorem dX6_cost_51 : decode cX6_cost 51 = .ok (.invokevirtual 167, 3) := by decide +kernel
theorem dX6_cost_54 : decode cX6_cost 54 = .ok (.aload_n 2, 1) := by decide +kernel
theorem dX6_cost_55 : decode cX6_cost 55 = .ok (.getfield 158, 3) := by decide +kernel
theorem dX6_cost_58 : decode cX6_cost 58 = .ok (.ireturn, 1) := by decide +kernel
theorem dX6_rounds_0 : decode cX6_rounds 0 = .ok (.aload_n 0, 1) := by decide +kernel
theorem dX6_rounds_1 : decode cX6_rounds 1 = .ok (.getfield 19, 3) := by decide +kernel
theorem dX6_rounds_4 : decode cX6_rounds 4 = .ok (.invokevirtual 155, 3) := by decide +kernel
theorem dX6_rounds_7 : decode cX6_rounds 7 = .ok (.aload_n 0, 1) := by decide +kernel
theorem dX6_rounds_8 : decode cX6_rounds 8 = .ok (.getfield 26, 3) := by decide +kernel
theorem dX6_rounds_11 : decode cX6_rounds 11 = .ok (.aload_n 0, 1) := by decide +kernel
theorem dX6_rounds_12 : decode cX6_rounds 12 = .ok (.getfield 19, 3) := by decide +kernel
theorem dX6_rounds_15 : decode cX6_rounds 15 = .ok (.ldc 171, 2) := by decide +kernel
theorem dX6_rounds_17 : decode cX6_rounds 17 = .ok (.invokevirtual 172, 3) := by decide +kernel
theorem dX6_rounds_20 : decode cX6_rounds 20 = .ok (.invokestatic 104, 3) := by decide +kernel
theorem dX6_rounds_23 : decode cX6_rounds 23 = .ok (.i2l, 1) := by decide +kernel
theorem dX6_rounds_24 : decode cX6_rounds 24 = .ok (.invokevirtual 175, 3) := by decide +kernel
theorem dX6_rounds_27 : decode cX6_rounds 27 = .ok (.aload_n 0, 1) := by decide +kernel
theorem dX6_rounds_28 : decode cX6_rounds 28 = .ok (.getfield 19, 3) := by decide +kernel
theorem dX6_rounds_31 : decode cX6_rounds 31 = .ok (.getfield 178, 3) := by decide +kernel
theorem dX6_rounds_34 : decode cX6_rounds 34 = .ok (.ireturn, 1) := by decide +kernel
theorem dX6_chosen_0 : decode cX6_chosen 0 = .ok (.iload_n 1, 1) := by decide +kernel
theorem dX6_chosen_1 : decode cX6_chosen 1 = .ok (.invokestatic 75, 3) := by decide +kernel
theorem dX6_chosen_4 : decode cX6_chosen 4 = .ok (.ifCond .ne 5, 3) := by decide +kernel
theorem dX6_chosen_7 : decode cX6_chosen 7 = .ok (.iconst (-1), 1) := by decide +kernel
theorem dX6_chosen_8 : decode cX6_chosen 8 = .ok (.ireturn, 1) := by decide +kernel
theorem dX6_chosen_9 : decode cX6_chosen 9 = .ok (.aload_n 0, 1) := by decide +kernel
theorem dX6_chosen_10 : decode cX6_chosen 10 = .ok (.getfield 19, 3) := by decide +kernel
theorem dX6_chosen_13 : decode cX6_chosen 13 = .ok (.invokevirtual 155, 3) := by decide +kernel
theorem dX6_chosen_16 : decode cX6_chosen 16 = .ok (.aload_n 0, 1) := by decide +kernel
theorem dX6_chosen_17 : decode cX6_chosen 17 = .ok (.getfield 19, 3) := by decide +kernel
theorem dX6_chosen_20 : decode cX6_chosen 20 = .ok (.getfield 81, 3) := by decide +kernel
theorem dX6_chosen_23 : decode cX6_chosen 23 = .ok (.iload_n 1, 1) := by decide +kernel
theorem dX6_chosen_24 : decode cX6_chosen 24 = .ok (.aaload, 1) := by decide +kernel
theorem dX6_chosen_25 : decode cX6_chosen 25 = .ok (.astore_n 2, 1) := by decide +kernel
theorem dX6_chosen_26 : decode cX6_chosen 26 = .ok (.aload_n 0, 1) := by decide +kernel
theorem dX6_chosen_27 : decode cX6_chosen 27 = .ok (.getfield 26, 3) := by decide +kernel
theorem dX6_chosen_30 : decode cX6_chosen 30 = .ok (.invokevirtual 136, 3) := by decide +kernel
theorem dX6_chosen_33 : decode cX6_chosen 33 = .ok (.iconst 0, 1) := by decide +kernel
theorem dX6_chosen_34 : decode cX6_chosen 34 = .ok (.istore_n 3, 1) := by decide +kernel
theorem dX6_chosen_35 : decode cX6_chosen 35 = .ok (.iload_n 3, 1) := by decide +kernel
theorem dX6_chosen_36 : decode cX6_chosen 36 = .ok (.aload_n 2, 1) := by decide +kernel
theorem dX6_chosen_37 : decode cX6_chosen 37 = .ok (.getfield 164, 3) := by decide +kernel
theorem dX6_chosen_40 : decode cX6_chosen 40 = .ok (.if_icmp .ge 23, 3) := by decide +kernel
theorem dX6_chosen_43 : decode cX6_chosen 43 = .ok (.aload_n 0, 1) := by decide +kernel
theorem dX6_chosen_44 : decode cX6_chosen 44 = .ok (.getfield 26, 3) := by decide +kernel
theorem dX6_chosen_47 : decode cX6_chosen 47 = .ok (.aload_n 2, 1) := by decide +kernel
theorem dX6_chosen_48 : decode cX6_chosen 48 = .ok (.getfield 181, 3) := by decide +kernel
theorem dX6_chosen_51 : decode cX6_chosen 51 = .ok (.iload_n 3, 1) := by decide +kernel
theorem dX6_chosen_52 : decode cX6_chosen 52 = .ok (.iaload, 1) := by decide +kernel
theorem dX6_chosen_53 : decode cX6_chosen 53 = .ok (.i2l, 1) := by decide +kernel
theorem dX6_chosen_54 : decode cX6_chosen 54 = .ok (.invokevirtual 146, 3) := by decide +kernel
theorem dX6_chosen_57 : decode cX6_chosen 57 = .ok (.iinc 3 1, 3) := by decide +kernel
theorem dX6_chosen_60 : decode cX6_chosen 60 = .ok (.goto (-25), 3) := by decide +kernel
theorem dX6_chosen_63 : decode cX6_chosen 63 = .ok (.aload_n 2, 1) := by decide +kernel
theorem dX6_chosen_64 : decode cX6_chosen 64 = .ok (.invokevirtual 183, 3) := by decide +kernel
theorem dX6_chosen_67 : decode cX6_chosen 67 = .ok (.ireturn, 1) := by decide +kernel
theorem dX6_boarding_0 : decode cX6_boarding 0 = .ok (.aload_n 0, 1) := by decide +kernel
theorem dX6_boarding_1 : decode cX6_boarding 1 = .ok (.getfield 19, 3) := by decide +kernel
theorem dX6_boarding_4 : decode cX6_boarding 4 = .ok (.iload_n 1, 1) := by decide +kernel
theorem dX6_boarding_5 : decode cX6_boarding 5 = .ok (.iload_n 2, 1) := by decide +kernel
theorem dX6_boarding_6 : decode cX6_boarding 6 = .ok (.invokevirtual 186, 3) := by decide +kernel
theorem dX6_boarding_9 : decode cX6_boarding 9 = .ok (.ifCond .ne 5, 3) := by decide +kernel
theorem dX6_boarding_12 : decode cX6_boarding 12 = .ok (.iconst (-1), 1) := by decide +kernel
theorem dX6_boarding_13 : decode cX6_boarding 13 = .ok (.ireturn, 1) := by decide +kernel
theorem dX6_boarding_14 : decode cX6_boarding 14 = .ok (.aload_n 0, 1) := by decide +kernel
theorem dX6_boarding_15 : decode cX6_boarding 15 = .ok (.getfield 19, 3) := by decide +kernel
theorem dX6_boarding_18 : decode cX6_boarding 18 = .ok (.invokevirtual 155, 3) := by decide +kernel
theorem dX6_boarding_21 : decode cX6_boarding 21 = .ok (.aload_n 0, 1) := by decide +kernel
theorem dX6_boarding_22 : decode cX6_boarding 22 = .ok (.getfield 19, 3) := by decide +kernel
theorem dX6_boarding_25 : decode cX6_boarding 25 = .ok (.getfield 90, 3) := by decide +kernel
theorem dX6_boarding_28 : decode cX6_boarding 28 = .ok (.iload_n 1, 1) := by decide +kernel
theorem dX6_boarding_29 : decode cX6_boarding 29 = .ok (.aaload, 1) := by decide +kernel
theorem dX6_boarding_30 : decode cX6_boarding 30 = .ok (.astore_n 3, 1) := by decide +kernel
theorem dX6_boarding_31 : decode cX6_boarding 31 = .ok (.aload_n 3, 1) := by decide +kernel
theorem dX6_boarding_32 : decode cX6_boarding 32 = .ok (.getfield 189, 3) := by decide +kernel
theorem dX6_boarding_35 : decode cX6_boarding 35 = .ok (.iload_n 2, 1) := by decide +kernel
theorem dX6_boarding_36 : decode cX6_boarding 36 = .ok (.iaload, 1) := by decide +kernel
theorem dX6_boarding_37 : decode cX6_boarding 37 = .ok (.iconst (-1), 1) := by decide +kernel
theorem dX6_boarding_38 : decode cX6_boarding 38 = .ok (.if_icmp .ne 6, 3) := by decide +kernel
theorem dX6_boarding_41 : decode cX6_boarding 41 = .ok (.bipush (-2), 2) := by decide +kernel
theorem dX6_boarding_43 : decode cX6_boarding 43 = .ok (.ireturn, 1) := by decide +kernel
theorem dX6_boarding_44 : decode cX6_boarding 44 = .ok (.aload_n 0, 1) := by decide +kernel
theorem dX6_boarding_45 : decode cX6_boarding 45 = .ok (.getfield 26, 3) := by decide +kernel
theorem dX6_boarding_48 : decode cX6_boarding 48 = .ok (.aload_n 0, 1) := by decide +kernel
theorem dX6_boarding_49 : decode cX6_boarding 49 = .ok (.getfield 19, 3) := by decide +kernel
theorem dX6_boarding_52 : decode cX6_boarding 52 = .ok (.iload_n 1, 1) := by decide +kernel
theorem dX6_boarding_53 : decode cX6_boarding 53 = .ok (.iload_n 2, 1) := by decide +kernel
theorem dX6_boarding_54 : decode cX6_boarding 54 = .ok (.invokevirtual 192, 3) := by decide +kernel
theorem dX6_boarding_57 : decode cX6_boarding 57 = .ok (.invokestatic 128, 3) := by decide +kernel
theorem dX6_boarding_60 : decode cX6_boarding 60 = .ok (.i2l, 1) := by decide +kernel
theorem dX6_boarding_61 : decode cX6_boarding 61 = .ok (.invokevirtual 175, 3) := by decide +kernel
theorem dX6_boarding_64 : decode cX6_boarding 64 = .ok (.aload_n 3, 1) := by decide +kernel
theorem dX6_boarding_65 : decode cX6_boarding 65 = .ok (.getfield 189, 3) := by decide +kernel
theorem dX6_boarding_68 : decode cX6_boarding 68 = .ok (.iload_n 2, 1) := by decide +kernel
theorem dX6_boarding_69 : decode cX6_boarding 69 = .ok (.iaload, 1) := by decide +kernel
theorem dX6_boarding_70 : decode cX6_boarding 70 = .ok (.ireturn, 1) := by decide +kernel
theorem dX6_aboard_0 : decode cX6_aboard 0 = .ok (.aload_n 0, 1) := by decide +kernel
theorem dX6_aboard_1 : decode cX6_aboard 1 = .ok (.getfield 19, 3) := by decide +kernel
theorem dX6_aboard_4 : decode cX6_aboard 4 = .ok (.iload_n 1, 1) := by decide +kernel
theorem dX6_aboard_5 : decode cX6_aboard 5 = .ok (.iload_n 2, 1) := by decide +kernel
theorem dX6_aboard_6 : decode cX6_aboard 6 = .ok (.invokevirtual 132, 3) := by decide +kernel
theorem dX6_aboard_9 : decode cX6_aboard 9 = .ok (.ifCond .ne 5, 3) := by decide +kernel
theorem dX6_aboard_12 : decode cX6_aboard 12 = .ok (.iconst (-1), 1) := by decide +kernel
theorem dX6_aboard_13 : decode cX6_aboard 13 = .ok (.ireturn, 1) := by decide +kernel
theorem dX6_aboard_14 : decode cX6_aboard 14 = .ok (.aload_n 0, 1) := by decide +kernel
theorem dX6_aboard_15 : decode cX6_aboard 15 = .ok (.getfield 19, 3) := by decide +kernel
theorem dX6_aboard_18 : decode cX6_aboard 18 = .ok (.invokevirtual 155, 3) := by decide +kernel
theorem dX6_aboard_21 : decode cX6_aboard 21 = .ok (.aload_n 0, 1) := by decide +kernel
theorem dX6_aboard_22 : decode cX6_aboard 22 = .ok (.getfield 19, 3) := by decide +kernel
theorem dX6_aboard_25 : decode cX6_aboard 25 = .ok (.getfield 90, 3) := by decide +kernel
theorem dX6_aboard_28 : decode cX6_aboard 28 = .ok (.iload_n 1, 1) := by decide +kernel
theorem dX6_aboard_29 : decode cX6_aboard 29 = .ok (.aaload, 1) := by decide +kernel
theorem dX6_aboard_30 : decode cX6_aboard 30 = .ok (.astore_n 3, 1) := by decide +kernel
theorem dX6_aboard_31 : decode cX6_aboard 31 = .ok (.aload_n 3, 1) := by decide +kernel
theorem dX6_aboard_32 : decode cX6_aboard 32 = .ok (.getfield 195, 3) := by decide +kernel
theorem dX6_aboard_35 : decode cX6_aboard 35 = .ok (.iload_n 2, 1) := by decide +kernel
theorem dX6_aboard_36 : decode cX6_aboard 36 = .ok (.iaload, 1) := by decide +kernel
theorem dX6_aboard_37 : decode cX6_aboard 37 = .ok (.iconst (-1), 1) := by decide +kernel
theorem dX6_aboard_38 : decode cX6_aboard 38 = .ok (.if_icmp .ne 6, 3) := by decide +kernel
theorem dX6_aboard_41 : decode cX6_aboard 41 = .ok (.bipush (-2), 2) := by decide +kernel
theorem dX6_aboard_43 : decode cX6_aboard 43 = .ok (.ireturn, 1) := by decide +kernel
theorem dX6_aboard_44 : decode cX6_aboard 44 = .ok (.aload_n 0, 1) := by decide +kernel
theorem dX6_aboard_45 : decode cX6_aboard 45 = .ok (.getfield 26, 3) := by decide +kernel
theorem dX6_aboard_48 : decode cX6_aboard 48 = .ok (.aload_n 3, 1) := by decide +kernel
theorem dX6_aboard_49 : decode cX6_aboard 49 = .ok (.getfield 198, 3) := by decide +kernel
theorem dX6_aboard_52 : decode cX6_aboard 52 = .ok (.iload_n 2, 1) := by decide +kernel
theorem dX6_aboard_53 : decode cX6_aboard 53 = .ok (.baload, 1) := by decide +kernel
theorem dX6_aboard_54 : decode cX6_aboard 54 = .ok (.invokestatic 128, 3) := by decide +kernel
theorem dX6_aboard_57 : decode cX6_aboard 57 = .ok (.i2l, 1) := by decide +kernel
theorem dX6_aboard_58 : decode cX6_aboard 58 = .ok (.invokevirtual 175, 3) := by decide +kernel
theorem dX6_aboard_61 : decode cX6_aboard 61 = .ok (.aload_n 3, 1) := by decide +kernel
theorem dX6_aboard_62 : decode cX6_aboard 62 = .ok (.getfield 195, 3) := by decide +kernel
theorem dX6_aboard_65 : decode cX6_aboard 65 = .ok (.iload_n 2, 1) := by decide +kernel
theorem dX6_aboard_66 : decode cX6_aboard 66 = .ok (.iaload, 1) := by decide +kernel
theorem dX6_aboard_67 : decode cX6_aboard 67 = .ok (.ireturn, 1) := by decide +kernel
theorem dX6_worst_0 : decode cX6_worst 0 = .ok (.aload_n 0, 1) := by decide +kernel
theorem dX6_worst_1 : decode cX6_worst 1 = .ok (.getfield 19, 3) := by decide +kernel
theorem dX6_worst_4 : decode cX6_worst 4 = .ok (.invokevirtual 155, 3) := by decide +kernel
theorem dX6_worst_7 : decode cX6_worst 7 = .ok (.iconst (-1), 1) := by decide +kernel
theorem dX6_worst_8 : decode cX6_worst 8 = .ok (.istore_n 1, 1) := by decide +kernel
theorem dX6_worst_9 : decode cX6_worst 9 = .ok (.iconst 0, 1) := by decide +kernel
theorem dX6_worst_10 : decode cX6_worst 10 = .ok (.istore_n 2, 1) := by decide +kernel
theorem dX6_worst_11 : decode cX6_worst 11 = .ok (.iconst 0, 1) := by decide +kernel
theorem dX6_worst_12 : decode cX6_worst 12 = .ok (.istore_n 3, 1) := by decide +kernel
theorem dX6_worst_13 : decode cX6_worst 13 = .ok (.iload_n 3, 1) := by decide +kernel
theorem dX6_worst_14 : decode cX6_worst 14 = .ok (.bipush 10, 2) := by decide +kernel
theorem dX6_worst_16 : decode cX6_worst 16 = .ok (.if_icmp .ge 51, 3) := by decide +kernel
theorem dX6_worst_19 : decode cX6_worst 19 = .ok (.iload_n 3, 1) := by decide +kernel
theorem dX6_worst_20 : decode cX6_worst 20 = .ok (.aload_n 0, 1) := by decide +kernel
theorem dX6_worst_21 : decode cX6_worst 21 = .ok (.getfield 19, 3) := by decide +kernel
theorem dX6_worst_24 : decode cX6_worst 24 = .ok (.getfield 78, 3) := by decide +kernel
theorem dX6_worst_27 : decode cX6_worst 27 = .ok (.if_icmp .eq 34, 3) := by decide +kernel
theorem dX6_worst_30 : decode cX6_worst 30 = .ok (.aload_n 0, 1) := by decide +kernel
theorem dX6_worst_31 : decode cX6_worst 31 = .ok (.getfield 19, 3) := by decide +kernel
theorem dX6_worst_34 : decode cX6_worst 34 = .ok (.getfield 81, 3) := by decide +kernel
theorem dX6_worst_37 : decode cX6_worst 37 = .ok (.iload_n 3, 1) := by decide +kernel
theorem dX6_worst_38 : decode cX6_worst 38 = .ok (.aaload, 1) := by decide +kernel
theorem dX6_worst_39 : decode cX6_worst 39 = .ok (.getfield 158, 3) := by decide +kernel
theorem dX6_worst_42 : decode cX6_worst 42 = .ok (.iload_n 2, 1) := by decide +kernel
theorem dX6_worst_43 : decode cX6_worst 43 = .ok (.if_icmp .le 18, 3) := by decide +kernel
theorem dX6_worst_46 : decode cX6_worst 46 = .ok (.iload_n 3, 1) := by decide +kernel
theorem dX6_worst_47 : decode cX6_worst 47 = .ok (.istore_n 1, 1) := by decide +kernel
theorem dX6_worst_48 : decode cX6_worst 48 = .ok (.aload_n 0, 1) := by decide +kernel
theorem dX6_worst_49 : decode cX6_worst 49 = .ok (.getfield 19, 3) := by decide +kernel
theorem dX6_worst_52 : decode cX6_worst 52 = .ok (.getfield 81, 3) := by decide +kernel
theorem dX6_worst_55 : decode cX6_worst 55 = .ok (.iload_n 3, 1) := by decide +kernel
theorem dX6_worst_56 : decode cX6_worst 56 = .ok (.aaload, 1) := by decide +kernel
theorem dX6_worst_57 : decode cX6_worst 57 = .ok (.getfield 158, 3) := by decide +kernel
theorem dX6_worst_60 : decode cX6_worst 60 = .ok (.istore_n 2, 1) := by decide +kernel
theorem dX6_worst_61 : decode cX6_worst 61 = .ok (.iinc 3 1, 3) := by decide +kernel
theorem dX6_worst_64 : decode cX6_worst 64 = .ok (.goto (-51), 3) := by decide +kernel
theorem dX6_worst_67 : decode cX6_worst 67 = .ok (.iload_n 1, 1) := by decide +kernel
theorem dX6_worst_68 : decode cX6_worst 68 = .ok (.iconst (-1), 1) := by decide +kernel
theorem dX6_worst_69 : decode cX6_worst 69 = .ok (.if_icmp .ne 6, 3) := by decide +kernel
theorem dX6_worst_72 : decode cX6_worst 72 = .ok (.bipush (-2), 2) := by decide +kernel
theorem dX6_worst_74 : decode cX6_worst 74 = .ok (.ireturn, 1) := by decide +kernel
theorem dX6_worst_75 : decode cX6_worst 75 = .ok (.aload_n 0, 1) := by decide +kernel
theorem dX6_worst_76 : decode cX6_worst 76 = .ok (.getfield 26, 3) := by decide +kernel
theorem dX6_worst_79 : decode cX6_worst 79 = .ok (.iload_n 2, 1) := by decide +kernel
theorem dX6_worst_80 : decode cX6_worst 80 = .ok (.i2l, 1) := by decide +kernel
theorem dX6_worst_81 : decode cX6_worst 81 = .ok (.invokevirtual 175, 3) := by decide +kernel
theorem dX6_worst_84 : decode cX6_worst 84 = .ok (.iload_n 1, 1) := by decide +kernel
theorem dX6_worst_85 : decode cX6_worst 85 = .ok (.ireturn, 1) := by decide +kernel
theorem dX6_wait_0 : decode cX6_wait 0 = .ok (.iload_n 1, 1) := by decide +kernel
theorem dX6_wait_1 : decode cX6_wait 1 = .ok (.invokestatic 75, 3) := by decide +kernel
theorem dX6_wait_4 : decode cX6_wait 4 = .ok (.ifCond .ne 5, 3) := by decide +kernel
theorem dX6_wait_7 : decode cX6_wait 7 = .ok (.iconst (-1), 1) := by decide +kernel
theorem dX6_wait_8 : decode cX6_wait 8 = .ok (.ireturn, 1) := by decide +kernel
theorem dX6_wait_9 : decode cX6_wait 9 = .ok (.aload_n 0, 1) := by decide +kernel
theorem dX6_wait_10 : decode cX6_wait 10 = .ok (.getfield 19, 3) := by decide +kernel
theorem dX6_wait_13 : decode cX6_wait 13 = .ok (.invokevirtual 155, 3) := by decide +kernel
theorem dX6_wait_16 : decode cX6_wait 16 = .ok (.iload_n 1, 1) := by decide +kernel
theorem dX6_wait_17 : decode cX6_wait 17 = .ok (.aload_n 0, 1) := by decide +kernel
theorem dX6_wait_18 : decode cX6_wait 18 = .ok (.getfield 19, 3) := by decide +kernel
theorem dX6_wait_21 : decode cX6_wait 21 = .ok (.getfield 78, 3) := by decide +kernel
theorem dX6_wait_24 : decode cX6_wait 24 = .ok (.if_icmp .eq 19, 3) := by decide +kernel
theorem dX6_wait_27 : decode cX6_wait 27 = .ok (.aload_n 0, 1) := by decide +kernel
theorem dX6_wait_28 : decode cX6_wait 28 = .ok (.getfield 19, 3) := by decide +kernel
theorem dX6_wait_31 : decode cX6_wait 31 = .ok (.getfield 81, 3) := by decide +kernel
theorem dX6_wait_34 : decode cX6_wait 34 = .ok (.iload_n 1, 1) := by decide +kernel
theorem dX6_wait_35 : decode cX6_wait 35 = .ok (.aaload, 1) := by decide +kernel
theorem dX6_wait_36 : decode cX6_wait 36 = .ok (.getfield 158, 3) := by decide +kernel
theorem dX6_wait_39 : decode cX6_wait 39 = .ok (.iconst (-1), 1) := by decide +kernel
theorem dX6_wait_40 : decode cX6_wait 40 = .ok (.if_icmp .ne 6, 3) := by decide +kernel
theorem dX6_wait_43 : decode cX6_wait 43 = .ok (.bipush (-2), 2) := by decide +kernel
theorem dX6_wait_45 : decode cX6_wait 45 = .ok (.ireturn, 1) := by decide +kernel
theorem dX6_wait_46 : decode cX6_wait 46 = .ok (.aload_n 0, 1) := by decide +kernel
theorem dX6_wait_47 : decode cX6_wait 47 = .ok (.getfield 19, 3) := by decide +kernel
theorem dX6_wait_50 : decode cX6_wait 50 = .ok (.invokevirtual 202, 3) := by decide +kernel
theorem dX6_wait_53 : decode cX6_wait 53 = .ok (.aload_n 0, 1) := by decide +kernel
theorem dX6_wait_54 : decode cX6_wait 54 = .ok (.getfield 19, 3) := by decide +kernel
theorem dX6_wait_57 : decode cX6_wait 57 = .ok (.getfield 81, 3) := by decide +kernel
theorem dX6_wait_60 : decode cX6_wait 60 = .ok (.iload_n 1, 1) := by decide +kernel
theorem dX6_wait_61 : decode cX6_wait 61 = .ok (.aaload, 1) := by decide +kernel
theorem dX6_wait_62 : decode cX6_wait 62 = .ok (.getfield 161, 3) := by decide +kernel
theorem dX6_wait_65 : decode cX6_wait 65 = .ok (.i2l, 1) := by decide +kernel
theorem dX6_wait_66 : decode cX6_wait 66 = .ok (.invokestatic 206, 3) := by decide +kernel
theorem dX6_wait_69 : decode cX6_wait 69 = .ok (.l2i, 1) := by decide +kernel
theorem dX6_wait_70 : decode cX6_wait 70 = .ok (.ireturn, 1) := by decide +kernel
theorem dX6_boards_0 : decode cX6_boards 0 = .ok (.iload_n 1, 1) := by decide +kernel
theorem dX6_boards_1 : decode cX6_boards 1 = .ok (.invokestatic 75, 3) := by decide +kernel
theorem dX6_boards_4 : decode cX6_boards 4 = .ok (.ifCond .ne 5, 3) := by decide +kernel
theorem dX6_boards_7 : decode cX6_boards 7 = .ok (.iconst (-1), 1) := by decide +kernel
theorem dX6_boards_8 : decode cX6_boards 8 = .ok (.ireturn, 1) := by decide +kernel
theorem dX6_boards_9 : decode cX6_boards 9 = .ok (.aload_n 0, 1) := by decide +kernel
theorem dX6_boards_10 : decode cX6_boards 10 = .ok (.getfield 19, 3) := by decide +kernel
theorem dX6_boards_13 : decode cX6_boards 13 = .ok (.invokevirtual 155, 3) := by decide +kernel
theorem dX6_boards_16 : decode cX6_boards 16 = .ok (.aload_n 0, 1) := by decide +kernel
theorem dX6_boards_17 : decode cX6_boards 17 = .ok (.getfield 19, 3) := by decide +kernel
theorem dX6_boards_20 : decode cX6_boards 20 = .ok (.getfield 81, 3) := by decide +kernel
theorem dX6_boards_23 : decode cX6_boards 23 = .ok (.iload_n 1, 1) := by decide +kernel
theorem dX6_boards_24 : decode cX6_boards 24 = .ok (.aaload, 1) := by decide +kernel
theorem dX6_boards_25 : decode cX6_boards 25 = .ok (.getfield 158, 3) := by decide +kernel
theorem dX6_boards_28 : decode cX6_boards 28 = .ok (.iconst (-1), 1) := by decide +kernel
theorem dX6_boards_29 : decode cX6_boards 29 = .ok (.if_icmp .ne 6, 3) := by decide +kernel
theorem dX6_boards_32 : decode cX6_boards 32 = .ok (.bipush (-2), 2) := by decide +kernel
theorem dX6_boards_34 : decode cX6_boards 34 = .ok (.ireturn, 1) := by decide +kernel
theorem dX6_boards_35 : decode cX6_boards 35 = .ok (.aload_n 0, 1) := by decide +kernel
theorem dX6_boards_36 : decode cX6_boards 36 = .ok (.getfield 19, 3) := by decide +kernel
theorem dX6_boards_39 : decode cX6_boards 39 = .ok (.invokevirtual 210, 3) := by decide +kernel
theorem dX6_boards_42 : decode cX6_boards 42 = .ok (.aload_n 0, 1) := by decide +kernel
theorem dX6_boards_43 : decode cX6_boards 43 = .ok (.getfield 19, 3) := by decide +kernel
theorem dX6_boards_46 : decode cX6_boards 46 = .ok (.getfield 81, 3) := by decide +kernel
theorem dX6_boards_49 : decode cX6_boards 49 = .ok (.iload_n 1, 1) := by decide +kernel
theorem dX6_boards_50 : decode cX6_boards 50 = .ok (.aaload, 1) := by decide +kernel
theorem dX6_boards_51 : decode cX6_boards 51 = .ok (.getfield 213, 3) := by decide +kernel
theorem dX6_boards_54 : decode cX6_boards 54 = .ok (.ireturn, 1) := by decide +kernel
theorem dX6_slack_0 : decode cX6_slack 0 = .ok (.aload_n 0, 1) := by decide +kernel
theorem dX6_slack_1 : decode cX6_slack 1 = .ok (.getfield 19, 3) := by decide +kernel
theorem dX6_slack_4 : decode cX6_slack 4 = .ok (.iload_n 1, 1) := by decide +kernel
theorem dX6_slack_5 : decode cX6_slack 5 = .ok (.iload_n 2, 1) := by decide +kernel
theorem dX6_slack_6 : decode cX6_slack 6 = .ok (.invokevirtual 186, 3) := by decide +kernel
theorem dX6_slack_9 : decode cX6_slack 9 = .ok (.ifCond .ne 5, 3) := by decide +kernel
theorem dX6_slack_12 : decode cX6_slack 12 = .ok (.iconst (-1), 1) := by decide +kernel
theorem dX6_slack_13 : decode cX6_slack 13 = .ok (.ireturn, 1) := by decide +kernel
theorem dX6_slack_14 : decode cX6_slack 14 = .ok (.aload_n 0, 1) := by decide +kernel
theorem dX6_slack_15 : decode cX6_slack 15 = .ok (.getfield 19, 3) := by decide +kernel
theorem dX6_slack_18 : decode cX6_slack 18 = .ok (.invokevirtual 155, 3) := by decide +kernel
theorem dX6_slack_21 : decode cX6_slack 21 = .ok (.aload_n 0, 1) := by decide +kernel
theorem dX6_slack_22 : decode cX6_slack 22 = .ok (.getfield 19, 3) := by decide +kernel
theorem dX6_slack_25 : decode cX6_slack 25 = .ok (.getfield 90, 3) := by decide +kernel
theorem dX6_slack_28 : decode cX6_slack 28 = .ok (.iload_n 1, 1) := by decide +kernel
theorem dX6_slack_29 : decode cX6_slack 29 = .ok (.aaload, 1) := by decide +kernel
theorem dX6_slack_30 : decode cX6_slack 30 = .ok (.astore_n 3, 1) := by decide +kernel
theorem dX6_slack_31 : decode cX6_slack 31 = .ok (.aload_n 3, 1) := by decide +kernel
theorem dX6_slack_32 : decode cX6_slack 32 = .ok (.getfield 153, 3) := by decide +kernel
theorem dX6_slack_35 : decode cX6_slack 35 = .ok (.iload_n 2, 1) := by decide +kernel
theorem dX6_slack_36 : decode cX6_slack 36 = .ok (.iaload, 1) := by decide +kernel
theorem dX6_slack_37 : decode cX6_slack 37 = .ok (.istore 4, 2) := by decide +kernel
theorem dX6_slack_39 : decode cX6_slack 39 = .ok (.aload_n 0, 1) := by decide +kernel
theorem dX6_slack_40 : decode cX6_slack 40 = .ok (.getfield 19, 3) := by decide +kernel
theorem dX6_slack_43 : decode cX6_slack 43 = .ok (.getfield 81, 3) := by decide +kernel
theorem dX6_slack_46 : decode cX6_slack 46 = .ok (.iload 4, 2) := by decide +kernel
theorem dX6_slack_48 : decode cX6_slack 48 = .ok (.aaload, 1) := by decide +kernel
theorem dX6_slack_49 : decode cX6_slack 49 = .ok (.getfield 158, 3) := by decide +kernel
theorem dX6_slack_52 : decode cX6_slack 52 = .ok (.istore 5, 2) := by decide +kernel
theorem dX6_slack_54 : decode cX6_slack 54 = .ok (.aload_n 3, 1) := by decide +kernel
theorem dX6_slack_55 : decode cX6_slack 55 = .ok (.getfield 189, 3) := by decide +kernel
theorem dX6_slack_58 : decode cX6_slack 58 = .ok (.iload_n 2, 1) := by decide +kernel
theorem dX6_slack_59 : decode cX6_slack 59 = .ok (.iaload, 1) := by decide +kernel
theorem dX6_slack_60 : decode cX6_slack 60 = .ok (.iconst (-1), 1) := by decide +kernel
theorem dX6_slack_61 : decode cX6_slack 61 = .ok (.if_icmp .eq 28, 3) := by decide +kernel
theorem dX6_slack_64 : decode cX6_slack 64 = .ok (.iload 5, 2) := by decide +kernel
theorem dX6_slack_66 : decode cX6_slack 66 = .ok (.iconst (-1), 1) := by decide +kernel
theorem dX6_slack_67 : decode cX6_slack 67 = .ok (.if_icmp .eq 22, 3) := by decide +kernel
theorem dX6_slack_70 : decode cX6_slack 70 = .ok (.iload 4, 2) := by decide +kernel
theorem dX6_slack_72 : decode cX6_slack 72 = .ok (.aload_n 0, 1) := by decide +kernel
theorem dX6_slack_73 : decode cX6_slack 73 = .ok (.getfield 19, 3) := by decide +kernel
theorem dX6_slack_76 : decode cX6_slack 76 = .ok (.getfield 78, 3) := by decide +kernel
theorem dX6_slack_79 : decode cX6_slack 79 = .ok (.if_icmp .eq 10, 3) := by decide +kernel
theorem dX6_slack_82 : decode cX6_slack 82 = .ok (.aload_n 3, 1) := by decide +kernel
theorem dX6_slack_83 : decode cX6_slack 83 = .ok (.getfield 94, 3) := by decide +kernel
theorem dX6_slack_86 : decode cX6_slack 86 = .ok (.ifCond .eq 6, 3) := by decide +kernel
theorem dX6_slack_89 : decode cX6_slack 89 = .ok (.bipush (-2), 2) := by decide +kernel
theorem dX6_slack_91 : decode cX6_slack 91 = .ok (.ireturn, 1) := by decide +kernel
theorem dX6_slack_92 : decode cX6_slack 92 = .ok (.aload_n 0, 1) := by decide +kernel
theorem dX6_slack_93 : decode cX6_slack 93 = .ok (.getfield 19, 3) := by decide +kernel
theorem dX6_slack_96 : decode cX6_slack 96 = .ok (.iload_n 1, 1) := by decide +kernel
theorem dX6_slack_97 : decode cX6_slack 97 = .ok (.iload_n 2, 1) := by decide +kernel
theorem dX6_slack_98 : decode cX6_slack 98 = .ok (.invokevirtual 192, 3) := by decide +kernel
theorem dX6_slack_101 : decode cX6_slack 101 = .ok (.ifCond .eq 7, 3) := by decide +kernel
theorem dX6_slack_104 : decode cX6_slack 104 = .ok (.iconst 0, 1) := by decide +kernel
theorem dX6_slack_105 : decode cX6_slack 105 = .ok (.goto 14, 3) := by decide +kernel
theorem dX6_slack_108 : decode cX6_slack 108 = .ok (.aload_n 3, 1) := by decide +kernel
theorem dX6_slack_109 : decode cX6_slack 109 = .ok (.getfield 189, 3) := by decide +kernel
theorem dX6_slack_112 : decode cX6_slack 112 = .ok (.iload_n 2, 1) := by decide +kernel
theorem dX6_slack_113 : decode cX6_slack 113 = .ok (.iaload, 1) := by decide +kernel
theorem dX6_slack_114 : decode cX6_slack 114 = .ok (.iload 5, 2) := by decide +kernel
theorem dX6_slack_116 : decode cX6_slack 116 = .ok (.isub, 1) := by decide +kernel
theorem dX6_slack_117 : decode cX6_slack 117 = .ok (.iconst 1, 1) := by decide +kernel
theorem dX6_slack_118 : decode cX6_slack 118 = .ok (.iadd, 1) := by decide +kernel
theorem dX6_slack_119 : decode cX6_slack 119 = .ok (.ireturn, 1) := by decide +kernel
theorem dX6_reach_0 : decode cX6_reach 0 = .ok (.iload_n 1, 1) := by decide +kernel
theorem dX6_reach_1 : decode cX6_reach 1 = .ok (.ifCond .ge 5, 3) := by decide +kernel
theorem dX6_reach_4 : decode cX6_reach 4 = .ok (.iconst (-1), 1) := by decide +kernel
theorem dX6_reach_5 : decode cX6_reach 5 = .ok (.ireturn, 1) := by decide +kernel
theorem dX6_reach_6 : decode cX6_reach 6 = .ok (.aload_n 0, 1) := by decide +kernel
theorem dX6_reach_7 : decode cX6_reach 7 = .ok (.getfield 19, 3) := by decide +kernel
theorem dX6_reach_10 : decode cX6_reach 10 = .ok (.invokevirtual 155, 3) := by decide +kernel
theorem dX6_reach_13 : decode cX6_reach 13 = .ok (.aload_n 0, 1) := by decide +kernel
theorem dX6_reach_14 : decode cX6_reach 14 = .ok (.getfield 19, 3) := by decide +kernel
theorem dX6_reach_17 : decode cX6_reach 17 = .ok (.iload_n 1, 1) := by decide +kernel
theorem dX6_reach_18 : decode cX6_reach 18 = .ok (.invokevirtual 172, 3) := by decide +kernel
theorem dX6_reach_21 : decode cX6_reach 21 = .ok (.istore_n 2, 1) := by decide +kernel
theorem dX6_reach_22 : decode cX6_reach 22 = .ok (.aload_n 0, 1) := by decide +kernel
theorem dX6_reach_23 : decode cX6_reach 23 = .ok (.getfield 26, 3) := by decide +kernel
theorem dX6_reach_26 : decode cX6_reach 26 = .ok (.iload_n 2, 1) := by decide +kernel
theorem dX6_reach_27 : decode cX6_reach 27 = .ok (.i2l, 1) := by decide +kernel
theorem dX6_reach_28 : decode cX6_reach 28 = .ok (.invokevirtual 175, 3) := by decide +kernel
theorem dX6_reach_31 : decode cX6_reach 31 = .ok (.iload_n 2, 1) := by decide +kernel
theorem dX6_reach_32 : decode cX6_reach 32 = .ok (.invokestatic 104, 3) := by decide +kernel
theorem dX6_reach_35 : decode cX6_reach 35 = .ok (.ireturn, 1) := by decide +kernel
theorem dX6_between_0 : decode cX6_between 0 = .ok (.iload_n 1, 1) := by decide +kernel
theorem dX6_between_1 : decode cX6_between 1 = .ok (.invokestatic 75, 3) := by decide +kernel
theorem dX6_between_4 : decode cX6_between 4 = .ok (.ifCond .eq 10, 3) := by decide +kernel
theorem dX6_between_7 : decode cX6_between 7 = .ok (.iload_n 2, 1) := by decide +kernel
theorem dX6_between_8 : decode cX6_between 8 = .ok (.invokestatic 75, 3) := by decide +kernel
theorem dX6_between_11 : decode cX6_between 11 = .ok (.ifCond .ne 5, 3) := by decide +kernel
theorem dX6_between_14 : decode cX6_between 14 = .ok (.iconst (-1), 1) := by decide +kernel
theorem dX6_between_15 : decode cX6_between 15 = .ok (.ireturn, 1) := by decide +kernel
theorem dX6_between_16 : decode cX6_between 16 = .ok (.aload_n 0, 1) := by decide +kernel
theorem dX6_between_17 : decode cX6_between 17 = .ok (.getfield 19, 3) := by decide +kernel
theorem dX6_between_20 : decode cX6_between 20 = .ok (.getfield 78, 3) := by decide +kernel
theorem dX6_between_23 : decode cX6_between 23 = .ok (.istore_n 3, 1) := by decide +kernel
theorem dX6_between_24 : decode cX6_between 24 = .ok (.aload_n 0, 1) := by decide +kernel
theorem dX6_between_25 : decode cX6_between 25 = .ok (.getfield 19, 3) := by decide +kernel
theorem dX6_between_28 : decode cX6_between 28 = .ok (.iload_n 2, 1) := by decide +kernel
theorem dX6_between_29 : decode cX6_between 29 = .ok (.putfield 78, 3) := by decide +kernel
theorem dX6_between_32 : decode cX6_between 32 = .ok (.aload_n 0, 1) := by decide +kernel
theorem dX6_between_33 : decode cX6_between 33 = .ok (.getfield 19, 3) := by decide +kernel
theorem dX6_between_36 : decode cX6_between 36 = .ok (.invokevirtual 155, 3) := by decide +kernel
theorem dX6_between_39 : decode cX6_between 39 = .ok (.aload_n 0, 1) := by decide +kernel
theorem dX6_between_40 : decode cX6_between 40 = .ok (.getfield 19, 3) := by decide +kernel
theorem dX6_between_43 : decode cX6_between 43 = .ok (.iload_n 3, 1) := by decide +kernel
theorem dX6_between_44 : decode cX6_between 44 = .ok (.putfield 78, 3) := by decide +kernel
theorem dX6_between_47 : decode cX6_between 47 = .ok (.aload_n 0, 1) := by decide +kernel
theorem dX6_between_48 : decode cX6_between 48 = .ok (.getfield 19, 3) := by decide +kernel
theorem dX6_between_51 : decode cX6_between 51 = .ok (.getfield 81, 3) := by decide +kernel
theorem dX6_between_54 : decode cX6_between 54 = .ok (.iload_n 1, 1) := by decide +kernel
theorem dX6_between_55 : decode cX6_between 55 = .ok (.aaload, 1) := by decide +kernel
theorem dX6_between_56 : decode cX6_between 56 = .ok (.getfield 158, 3) := by decide +kernel
theorem dX6_between_59 : decode cX6_between 59 = .ok (.istore 4, 2) := by decide +kernel
theorem dX6_between_61 : decode cX6_between 61 = .ok (.iload 4, 2) := by decide +kernel
theorem dX6_between_63 : decode cX6_between 63 = .ok (.iconst (-1), 1) := by decide +kernel
theorem dX6_between_64 : decode cX6_between 64 = .ok (.if_icmp .ne 6, 3) := by decide +kernel
theorem dX6_between_67 : decode cX6_between 67 = .ok (.bipush (-2), 2) := by decide +kernel
theorem dX6_between_69 : decode cX6_between 69 = .ok (.ireturn, 1) := by decide +kernel
theorem dX6_between_70 : decode cX6_between 70 = .ok (.aload_n 0, 1) := by decide +kernel
theorem dX6_between_71 : decode cX6_between 71 = .ok (.getfield 26, 3) := by decide +kernel
theorem dX6_between_74 : decode cX6_between 74 = .ok (.aload_n 0, 1) := by decide +kernel
theorem dX6_between_75 : decode cX6_between 75 = .ok (.getfield 19, 3) := by decide +kernel
theorem dX6_between_78 : decode cX6_between 78 = .ok (.getfield 178, 3) := by decide +kernel
theorem dX6_between_81 : decode cX6_between 81 = .ok (.i2l, 1) := by decide +kernel
theorem dX6_between_82 : decode cX6_between 82 = .ok (.invokevirtual 175, 3) := by decide +kernel
theorem dX6_between_85 : decode cX6_between 85 = .ok (.iload 4, 2) := by decide +kernel
theorem dX6_between_87 : decode cX6_between 87 = .ok (.ireturn, 1) := by decide +kernel
theorem dX6_load_0 : decode cX6_load 0 = .ok (.aload_n 0, 1) := by decide +kernel
theorem dX6_load_1 : decode cX6_load 1 = .ok (.getfield 19, 3) := by decide +kernel
theorem dX6_load_4 : decode cX6_load 4 = .ok (.iload_n 1, 1) := by decide +kernel
theorem dX6_load_5 : decode cX6_load 5 = .ok (.iload_n 2, 1) := by decide +kernel
theorem dX6_load_6 : decode cX6_load 6 = .ok (.invokevirtual 186, 3) := by decide +kernel
theorem dX6_load_9 : decode cX6_load 9 = .ok (.ifCond .ne 5, 3) := by decide +kernel
theorem dX6_load_12 : decode cX6_load 12 = .ok (.iconst (-1), 1) := by decide +kernel
theorem dX6_load_13 : decode cX6_load 13 = .ok (.ireturn, 1) := by decide +kernel
theorem dX6_load_14 : decode cX6_load 14 = .ok (.aload_n 0, 1) := by decide +kernel
theorem dX6_load_15 : decode cX6_load 15 = .ok (.getfield 19, 3) := by decide +kernel
theorem dX6_load_18 : decode cX6_load 18 = .ok (.invokevirtual 216, 3) := by decide +kernel
theorem dX6_load_21 : decode cX6_load 21 = .ok (.aload_n 0, 1) := by decide +kernel
theorem dX6_load_22 : decode cX6_load 22 = .ok (.getfield 19, 3) := by decide +kernel
theorem dX6_load_25 : decode cX6_load 25 = .ok (.getfield 90, 3) := by decide +kernel
theorem dX6_load_28 : decode cX6_load 28 = .ok (.iload_n 1, 1) := by decide +kernel
theorem dX6_load_29 : decode cX6_load 29 = .ok (.aaload, 1) := by decide +kernel
theorem dX6_load_30 : decode cX6_load 30 = .ok (.getfield 219, 3) := by decide +kernel
theorem dX6_load_33 : decode cX6_load 33 = .ok (.iload_n 2, 1) := by decide +kernel
theorem dX6_load_34 : decode cX6_load 34 = .ok (.iaload, 1) := by decide +kernel
theorem dX6_load_35 : decode cX6_load 35 = .ok (.ireturn, 1) := by decide +kernel
theorem dX6_passes_0 : decode cX6_passes 0 = .ok (.iload_n 1, 1) := by decide +kernel
theorem dX6_passes_1 : decode cX6_passes 1 = .ok (.invokestatic 75, 3) := by decide +kernel
theorem dX6_passes_4 : decode cX6_passes 4 = .ok (.ifCond .ne 5, 3) := by decide +kernel
theorem dX6_passes_7 : decode cX6_passes 7 = .ok (.iconst (-1), 1) := by decide +kernel
theorem dX6_passes_8 : decode cX6_passes 8 = .ok (.ireturn, 1) := by decide +kernel
theorem dX6_passes_9 : decode cX6_passes 9 = .ok (.aload_n 0, 1) := by decide +kernel
theorem dX6_passes_10 : decode cX6_passes 10 = .ok (.getfield 19, 3) := by decide +kernel
theorem dX6_passes_13 : decode cX6_passes 13 = .ok (.invokevirtual 216, 3) := by decide +kernel
theorem dX6_passes_16 : decode cX6_passes 16 = .ok (.aload_n 0, 1) := by decide +kernel
theorem dX6_passes_17 : decode cX6_passes 17 = .ok (.getfield 19, 3) := by decide +kernel
theorem dX6_passes_20 : decode cX6_passes 20 = .ok (.getfield 81, 3) := by decide +kernel
theorem dX6_passes_23 : decode cX6_passes 23 = .ok (.iload_n 1, 1) := by decide +kernel
theorem dX6_passes_24 : decode cX6_passes 24 = .ok (.aaload, 1) := by decide +kernel
theorem dX6_passes_25 : decode cX6_passes 25 = .ok (.astore_n 2, 1) := by decide +kernel
theorem dX6_passes_26 : decode cX6_passes 26 = .ok (.aload_n 0, 1) := by decide +kernel
theorem dX6_passes_27 : decode cX6_passes 27 = .ok (.getfield 26, 3) := by decide +kernel
theorem dX6_passes_30 : decode cX6_passes 30 = .ok (.aload_n 2, 1) := by decide +kernel
theorem dX6_passes_31 : decode cX6_passes 31 = .ok (.getfield 222, 3) := by decide +kernel
theorem dX6_passes_34 : decode cX6_passes 34 = .ok (.i2l, 1) := by decide +kernel
theorem dX6_passes_35 : decode cX6_passes 35 = .ok (.invokevirtual 175, 3) := by decide +kernel
theorem dX6_passes_38 : decode cX6_passes 38 = .ok (.aload_n 2, 1) := by decide +kernel
theorem dX6_passes_39 : decode cX6_passes 39 = .ok (.getfield 85, 3) := by decide +kernel
theorem dX6_passes_42 : decode cX6_passes 42 = .ok (.aload_n 2, 1) := by decide +kernel
theorem dX6_passes_43 : decode cX6_passes 43 = .ok (.getfield 222, 3) := by decide +kernel
theorem dX6_passes_46 : decode cX6_passes 46 = .ok (.iadd, 1) := by decide +kernel
theorem dX6_passes_47 : decode cX6_passes 47 = .ok (.ireturn, 1) := by decide +kernel
theorem dX6_ridden_0 : decode cX6_ridden 0 = .ok (.aload_n 0, 1) := by decide +kernel
theorem dX6_ridden_1 : decode cX6_ridden 1 = .ok (.getfield 19, 3) := by decide +kernel
theorem dX6_ridden_4 : decode cX6_ridden 4 = .ok (.iload_n 1, 1) := by decide +kernel
theorem dX6_ridden_5 : decode cX6_ridden 5 = .ok (.invokevirtual 65, 3) := by decide +kernel
theorem dX6_ridden_8 : decode cX6_ridden 8 = .ok (.ifCond .ne 5, 3) := by decide +kernel
theorem dX6_ridden_11 : decode cX6_ridden 11 = .ok (.iconst (-1), 1) := by decide +kernel
theorem dX6_ridden_12 : decode cX6_ridden 12 = .ok (.ireturn, 1) := by decide +kernel
theorem dX6_ridden_13 : decode cX6_ridden 13 = .ok (.aload_n 0, 1) := by decide +kernel
theorem dX6_ridden_14 : decode cX6_ridden 14 = .ok (.getfield 19, 3) := by decide +kernel
theorem dX6_ridden_17 : decode cX6_ridden 17 = .ok (.invokevirtual 216, 3) := by decide +kernel
theorem dX6_ridden_20 : decode cX6_ridden 20 = .ok (.aload_n 0, 1) := by decide +kernel
theorem dX6_ridden_21 : decode cX6_ridden 21 = .ok (.getfield 19, 3) := by decide +kernel
theorem dX6_ridden_24 : decode cX6_ridden 24 = .ok (.getfield 90, 3) := by decide +kernel
theorem dX6_ridden_27 : decode cX6_ridden 27 = .ok (.iload_n 1, 1) := by decide +kernel
theorem dX6_ridden_28 : decode cX6_ridden 28 = .ok (.aaload, 1) := by decide +kernel
theorem dX6_ridden_29 : decode cX6_ridden 29 = .ok (.astore_n 2, 1) := by decide +kernel
theorem dX6_ridden_30 : decode cX6_ridden 30 = .ok (.aload_n 2, 1) := by decide +kernel
theorem dX6_ridden_31 : decode cX6_ridden 31 = .ok (.invokevirtual 225, 3) := by decide +kernel
theorem dX6_ridden_34 : decode cX6_ridden 34 = .ok (.istore_n 3, 1) := by decide +kernel
theorem dX6_ridden_35 : decode cX6_ridden 35 = .ok (.aload_n 0, 1) := by decide +kernel
theorem dX6_ridden_36 : decode cX6_ridden 36 = .ok (.getfield 26, 3) := by decide +kernel
theorem dX6_ridden_39 : decode cX6_ridden 39 = .ok (.aload_n 2, 1) := by decide +kernel
theorem dX6_ridden_40 : decode cX6_ridden 40 = .ok (.getfield 219, 3) := by decide +kernel
theorem dX6_ridden_43 : decode cX6_ridden 43 = .ok (.iload_n 3, 1) := by decide +kernel
theorem dX6_ridden_44 : decode cX6_ridden 44 = .ok (.iaload, 1) := by decide +kernel
theorem dX6_ridden_45 : decode cX6_ridden 45 = .ok (.i2l, 1) := by decide +kernel
theorem dX6_ridden_46 : decode cX6_ridden 46 = .ok (.iload_n 3, 1) := by decide +kernel
theorem dX6_ridden_47 : decode cX6_ridden 47 = .ok (.i2l, 1) := by decide +kernel
theorem dX6_ridden_48 : decode cX6_ridden 48 = .ok (.invokevirtual 167, 3) := by decide +kernel
theorem dX6_ridden_51 : decode cX6_ridden 51 = .ok (.aload_n 2, 1) := by decide +kernel
theorem dX6_ridden_52 : decode cX6_ridden 52 = .ok (.invokevirtual 228, 3) := by decide +kernel
theorem dX6_ridden_55 : decode cX6_ridden 55 = .ok (.ireturn, 1) := by decide +kernel
theorem dX6_boardings_0 : decode cX6_boardings 0 = .ok (.aload_n 0, 1) := by decide +kernel
theorem dX6_boardings_1 : decode cX6_boardings 1 = .ok (.getfield 19, 3) := by decide +kernel
theorem dX6_boardings_4 : decode cX6_boardings 4 = .ok (.iload_n 1, 1) := by decide +kernel
theorem dX6_boardings_5 : decode cX6_boardings 5 = .ok (.iload_n 2, 1) := by decide +kernel
theorem dX6_boardings_6 : decode cX6_boardings 6 = .ok (.invokevirtual 132, 3) := by decide +kernel
theorem dX6_boardings_9 : decode cX6_boardings 9 = .ok (.ifCond .ne 5, 3) := by decide +kernel
theorem dX6_boardings_12 : decode cX6_boardings 12 = .ok (.iconst (-1), 1) := by decide +kernel
theorem dX6_boardings_13 : decode cX6_boardings 13 = .ok (.ireturn, 1) := by decide +kernel
theorem dX6_boardings_14 : decode cX6_boardings 14 = .ok (.aload_n 0, 1) := by decide +kernel
theorem dX6_boardings_15 : decode cX6_boardings 15 = .ok (.getfield 19, 3) := by decide +kernel
theorem dX6_boardings_18 : decode cX6_boardings 18 = .ok (.invokevirtual 216, 3) := by decide +kernel
theorem dX6_boardings_21 : decode cX6_boardings 21 = .ok (.aload_n 0, 1) := by decide +kernel
theorem dX6_boardings_22 : decode cX6_boardings 22 = .ok (.getfield 26, 3) := by decide +kernel
theorem dX6_boardings_25 : decode cX6_boardings 25 = .ok (.aload_n 0, 1) := by decide +kernel
theorem dX6_boardings_26 : decode cX6_boardings 26 = .ok (.getfield 19, 3) := by decide +kernel
theorem dX6_boardings_29 : decode cX6_boardings 29 = .ok (.getfield 90, 3) := by decide +kernel
theorem dX6_boardings_32 : decode cX6_boardings 32 = .ok (.iload_n 1, 1) := by decide +kernel
theorem dX6_boardings_33 : decode cX6_boardings 33 = .ok (.aaload, 1) := by decide +kernel
theorem dX6_boardings_34 : decode cX6_boardings 34 = .ok (.getfield 231, 3) := by decide +kernel
theorem dX6_boardings_37 : decode cX6_boardings 37 = .ok (.iload_n 2, 1) := by decide +kernel
theorem dX6_boardings_38 : decode cX6_boardings 38 = .ok (.iaload, 1) := by decide +kernel
theorem dX6_boardings_39 : decode cX6_boardings 39 = .ok (.i2l, 1) := by decide +kernel
theorem dX6_boardings_40 : decode cX6_boardings 40 = .ok (.invokevirtual 175, 3) := by decide +kernel
theorem dX6_boardings_43 : decode cX6_boardings 43 = .ok (.aload_n 0, 1) := by decide +kernel
theorem dX6_boardings_44 : decode cX6_boardings 44 = .ok (.getfield 19, 3) := by decide +kernel
theorem dX6_boardings_47 : decode cX6_boardings 47 = .ok (.getfield 90, 3) := by decide +kernel
theorem dX6_boardings_50 : decode cX6_boardings 50 = .ok (.iload_n 1, 1) := by decide +kernel
theorem dX6_boardings_51 : decode cX6_boardings 51 = .ok (.aaload, 1) := by decide +kernel
theorem dX6_boardings_52 : decode cX6_boardings 52 = .ok (.getfield 234, 3) := by decide +kernel
theorem dX6_boardings_55 : decode cX6_boardings 55 = .ok (.iload_n 2, 1) := by decide +kernel
theorem dX6_boardings_56 : decode cX6_boardings 56 = .ok (.iaload, 1) := by decide +kernel
theorem dX6_boardings_57 : decode cX6_boardings 57 = .ok (.ireturn, 1) := by decide +kernel
theorem dX6_total_0 : decode cX6_total 0 = .ok (.aload_n 0, 1) := by decide +kernel
theorem dX6_total_1 : decode cX6_total 1 = .ok (.getfield 19, 3) := by decide +kernel
theorem dX6_total_4 : decode cX6_total 4 = .ok (.invokevirtual 237, 3) := by decide +kernel
theorem dX6_total_7 : decode cX6_total 7 = .ok (.aload_n 0, 1) := by decide +kernel
theorem dX6_total_8 : decode cX6_total 8 = .ok (.getfield 19, 3) := by decide +kernel
theorem dX6_total_11 : decode cX6_total 11 = .ok (.invokevirtual 240, 3) := by decide +kernel
theorem dX6_total_14 : decode cX6_total 14 = .ok (.aload_n 0, 1) := by decide +kernel
theorem dX6_total_15 : decode cX6_total 15 = .ok (.getfield 26, 3) := by decide +kernel
theorem dX6_total_18 : decode cX6_total 18 = .ok (.aload_n 0, 1) := by decide +kernel
theorem dX6_total_19 : decode cX6_total 19 = .ok (.getfield 19, 3) := by decide +kernel
theorem dX6_total_22 : decode cX6_total 22 = .ok (.getfield 243, 3) := by decide +kernel
theorem dX6_total_25 : decode cX6_total 25 = .ok (.aload_n 0, 1) := by decide +kernel
theorem dX6_total_26 : decode cX6_total 26 = .ok (.getfield 19, 3) := by decide +kernel
theorem dX6_total_29 : decode cX6_total 29 = .ok (.invokevirtual 247, 3) := by decide +kernel
theorem dX6_total_32 : decode cX6_total 32 = .ok (.invokevirtual 167, 3) := by decide +kernel
theorem dX6_total_35 : decode cX6_total 35 = .ok (.aload_n 0, 1) := by decide +kernel
theorem dX6_total_36 : decode cX6_total 36 = .ok (.getfield 19, 3) := by decide +kernel
theorem dX6_total_39 : decode cX6_total 39 = .ok (.getfield 250, 3) := by decide +kernel
theorem dX6_total_42 : decode cX6_total 42 = .ok (.lreturn, 1) := by decide +kernel
theorem dX6_fullest_0 : decode cX6_fullest 0 = .ok (.aload_n 0, 1) := by decide +kernel
theorem dX6_fullest_1 : decode cX6_fullest 1 = .ok (.getfield 19, 3) := by decide +kernel
theorem dX6_fullest_4 : decode cX6_fullest 4 = .ok (.getfield 56, 3) := by decide +kernel
theorem dX6_fullest_7 : decode cX6_fullest 7 = .ok (.ifCond .ne 6, 3) := by decide +kernel
theorem dX6_fullest_10 : decode cX6_fullest 10 = .ok (.bipush (-2), 2) := by decide +kernel
theorem dX6_fullest_12 : decode cX6_fullest 12 = .ok (.ireturn, 1) := by decide +kernel
theorem dX6_fullest_13 : decode cX6_fullest 13 = .ok (.aload_n 0, 1) := by decide +kernel
theorem dX6_fullest_14 : decode cX6_fullest 14 = .ok (.getfield 19, 3) := by decide +kernel
theorem dX6_fullest_17 : decode cX6_fullest 17 = .ok (.invokevirtual 216, 3) := by decide +kernel
theorem dX6_fullest_20 : decode cX6_fullest 20 = .ok (.iconst 0, 1) := by decide +kernel
theorem dX6_fullest_21 : decode cX6_fullest 21 = .ok (.istore_n 1, 1) := by decide +kernel
theorem dX6_fullest_22 : decode cX6_fullest 22 = .ok (.iconst (-1), 1) := by decide +kernel
theorem dX6_fullest_23 : decode cX6_fullest 23 = .ok (.istore_n 2, 1) := by decide +kernel
theorem dX6_fullest_24 : decode cX6_fullest 24 = .ok (.iconst 0, 1) := by decide +kernel
theorem dX6_fullest_25 : decode cX6_fullest 25 = .ok (.istore_n 3, 1) := by decide +kernel
theorem dX6_fullest_26 : decode cX6_fullest 26 = .ok (.iload_n 3, 1) := by decide +kernel
theorem dX6_fullest_27 : decode cX6_fullest 27 = .ok (.aload_n 0, 1) := by decide +kernel
theorem dX6_fullest_28 : decode cX6_fullest 28 = .ok (.getfield 19, 3) := by decide +kernel
theorem dX6_fullest_31 : decode cX6_fullest 31 = .ok (.getfield 56, 3) := by decide +kernel
theorem dX6_fullest_34 : decode cX6_fullest 34 = .ok (.if_icmp .ge 66, 3) := by decide +kernel
theorem dX6_fullest_37 : decode cX6_fullest 37 = .ok (.aload_n 0, 1) := by decide +kernel
theorem dX6_fullest_38 : decode cX6_fullest 38 = .ok (.getfield 19, 3) := by decide +kernel
theorem dX6_fullest_41 : decode cX6_fullest 41 = .ok (.getfield 90, 3) := by decide +kernel
theorem dX6_fullest_44 : decode cX6_fullest 44 = .ok (.iload_n 3, 1) := by decide +kernel
theorem dX6_fullest_45 : decode cX6_fullest 45 = .ok (.aaload, 1) := by decide +kernel
theorem dX6_fullest_46 : decode cX6_fullest 46 = .ok (.invokevirtual 225, 3) := by decide +kernel
theorem dX6_fullest_49 : decode cX6_fullest 49 = .ok (.istore 4, 2) := by decide +kernel
theorem dX6_fullest_51 : decode cX6_fullest 51 = .ok (.aload_n 0, 1) := by decide +kernel
theorem dX6_fullest_52 : decode cX6_fullest 52 = .ok (.getfield 19, 3) := by decide +kernel
theorem dX6_fullest_55 : decode cX6_fullest 55 = .ok (.getfield 90, 3) := by decide +kernel
theorem dX6_fullest_58 : decode cX6_fullest 58 = .ok (.iload_n 3, 1) := by decide +kernel
theorem dX6_fullest_59 : decode cX6_fullest 59 = .ok (.aaload, 1) := by decide +kernel
theorem dX6_fullest_60 : decode cX6_fullest 60 = .ok (.getfield 219, 3) := by decide +kernel
theorem dX6_fullest_63 : decode cX6_fullest 63 = .ok (.iload 4, 2) := by decide +kernel
theorem dX6_fullest_65 : decode cX6_fullest 65 = .ok (.iaload, 1) := by decide +kernel
theorem dX6_fullest_66 : decode cX6_fullest 66 = .ok (.iload_n 2, 1) := by decide +kernel
theorem dX6_fullest_67 : decode cX6_fullest 67 = .ok (.if_icmp .le 27, 3) := by decide +kernel
theorem dX6_fullest_70 : decode cX6_fullest 70 = .ok (.aload_n 0, 1) := by decide +kernel
theorem dX6_fullest_71 : decode cX6_fullest 71 = .ok (.getfield 19, 3) := by decide +kernel
theorem dX6_fullest_74 : decode cX6_fullest 74 = .ok (.getfield 90, 3) := by decide +kernel
theorem dX6_fullest_77 : decode cX6_fullest 77 = .ok (.iload_n 3, 1) := by decide +kernel
theorem dX6_fullest_78 : decode cX6_fullest 78 = .ok (.aaload, 1) := by decide +kernel
theorem dX6_fullest_79 : decode cX6_fullest 79 = .ok (.getfield 219, 3) := by decide +kernel
theorem dX6_fullest_82 : decode cX6_fullest 82 = .ok (.iload 4, 2) := by decide +kernel
theorem dX6_fullest_84 : decode cX6_fullest 84 = .ok (.iaload, 1) := by decide +kernel
theorem dX6_fullest_85 : decode cX6_fullest 85 = .ok (.istore_n 2, 1) := by decide +kernel
theorem dX6_fullest_86 : decode cX6_fullest 86 = .ok (.bipush 100, 2) := by decide +kernel
theorem dX6_fullest_88 : decode cX6_fullest 88 = .ok (.iload_n 3, 1) := by decide +kernel
theorem dX6_fullest_89 : decode cX6_fullest 89 = .ok (.imul, 1) := by decide +kernel
theorem dX6_fullest_90 : decode cX6_fullest 90 = .ok (.iload 4, 2) := by decide +kernel
theorem dX6_fullest_92 : decode cX6_fullest 92 = .ok (.iadd, 1) := by decide +kernel
theorem dX6_fullest_93 : decode cX6_fullest 93 = .ok (.istore_n 1, 1) := by decide +kernel
theorem dX6_fullest_94 : decode cX6_fullest 94 = .ok (.iinc 3 1, 3) := by decide +kernel
theorem dX6_fullest_97 : decode cX6_fullest 97 = .ok (.goto (-71), 3) := by decide +kernel
theorem dX6_fullest_100 : decode cX6_fullest 100 = .ok (.aload_n 0, 1) := by decide +kernel
theorem dX6_fullest_101 : decode cX6_fullest 101 = .ok (.getfield 26, 3) := by decide +kernel
theorem dX6_fullest_104 : decode cX6_fullest 104 = .ok (.iload_n 2, 1) := by decide +kernel
theorem dX6_fullest_105 : decode cX6_fullest 105 = .ok (.i2l, 1) := by decide +kernel
theorem dX6_fullest_106 : decode cX6_fullest 106 = .ok (.invokevirtual 175, 3) := by decide +kernel
theorem dX6_fullest_109 : decode cX6_fullest 109 = .ok (.iload_n 1, 1) := by decide +kernel
theorem dX6_fullest_110 : decode cX6_fullest 110 = .ok (.ireturn, 1) := by decide +kernel
theorem dX6_changes_0 : decode cX6_changes 0 = .ok (.aload_n 0, 1) := by decide +kernel
theorem dX6_changes_1 : decode cX6_changes 1 = .ok (.getfield 19, 3) := by decide +kernel
theorem dX6_changes_4 : decode cX6_changes 4 = .ok (.invokevirtual 216, 3) := by decide +kernel
theorem dX6_changes_7 : decode cX6_changes 7 = .ok (.aload_n 0, 1) := by decide +kernel
theorem dX6_changes_8 : decode cX6_changes 8 = .ok (.getfield 19, 3) := by decide +kernel
theorem dX6_changes_11 : decode cX6_changes 11 = .ok (.invokevirtual 253, 3) := by decide +kernel
theorem dX6_changes_14 : decode cX6_changes 14 = .ok (.ireturn, 1) := by decide +kernel
theorem dX6_crowd_0 : decode cX6_crowd 0 = .ok (.iload_n 1, 1) := by decide +kernel
theorem dX6_crowd_1 : decode cX6_crowd 1 = .ok (.ifCond .lt 10, 3) := by decide +kernel
theorem dX6_crowd_4 : decode cX6_crowd 4 = .ok (.iload_n 1, 1) := by decide +kernel
theorem dX6_crowd_5 : decode cX6_crowd 5 = .ok (.sipush 9999, 3) := by decide +kernel
theorem dX6_crowd_8 : decode cX6_crowd 8 = .ok (.if_icmp .le 5, 3) := by decide +kernel
theorem dX6_crowd_11 : decode cX6_crowd 11 = .ok (.iconst (-1), 1) := by decide +kernel
theorem dX6_crowd_12 : decode cX6_crowd 12 = .ok (.ireturn, 1) := by decide +kernel
theorem dX6_crowd_13 : decode cX6_crowd 13 = .ok (.aload_n 0, 1) := by decide +kernel
theorem dX6_crowd_14 : decode cX6_crowd 14 = .ok (.getfield 19, 3) := by decide +kernel
theorem dX6_crowd_17 : decode cX6_crowd 17 = .ok (.getfield 256, 3) := by decide +kernel
theorem dX6_crowd_20 : decode cX6_crowd 20 = .ok (.istore_n 2, 1) := by decide +kernel
theorem dX6_crowd_21 : decode cX6_crowd 21 = .ok (.aload_n 0, 1) := by decide +kernel
theorem dX6_crowd_22 : decode cX6_crowd 22 = .ok (.getfield 19, 3) := by decide +kernel
theorem dX6_crowd_25 : decode cX6_crowd 25 = .ok (.iload_n 1, 1) := by decide +kernel
theorem dX6_crowd_26 : decode cX6_crowd 26 = .ok (.putfield 256, 3) := by decide +kernel
theorem dX6_crowd_29 : decode cX6_crowd 29 = .ok (.iload_n 2, 1) := by decide +kernel
theorem dX6_crowd_30 : decode cX6_crowd 30 = .ok (.ireturn, 1) := by decide +kernel
theorem dX6_seats_0 : decode cX6_seats 0 = .ok (.aload_n 0, 1) := by decide +kernel
theorem dX6_seats_1 : decode cX6_seats 1 = .ok (.getfield 19, 3) := by decide +kernel
theorem dX6_seats_4 : decode cX6_seats 4 = .ok (.iload_n 1, 1) := by decide +kernel
theorem dX6_seats_5 : decode cX6_seats 5 = .ok (.invokevirtual 65, 3) := by decide +kernel
theorem dX6_seats_8 : decode cX6_seats 8 = .ok (.ifCond .eq 15, 3) := by decide +kernel
theorem dX6_seats_11 : decode cX6_seats 11 = .ok (.iload_n 2, 1) := by decide +kernel
theorem dX6_seats_12 : decode cX6_seats 12 = .ok (.iconst 1, 1) := by decide +kernel
theorem dX6_seats_13 : decode cX6_seats 13 = .ok (.if_icmp .lt 10, 3) := by decide +kernel
theorem dX6_seats_16 : decode cX6_seats 16 = .ok (.iload_n 2, 1) := by decide +kernel
theorem dX6_seats_17 : decode cX6_seats 17 = .ok (.sipush 999, 3) := by decide +kernel
theorem dX6_seats_20 : decode cX6_seats 20 = .ok (.if_icmp .le 5, 3) := by decide +kernel
theorem dX6_seats_23 : decode cX6_seats 23 = .ok (.iconst (-1), 1) := by decide +kernel
theorem dX6_seats_24 : decode cX6_seats 24 = .ok (.ireturn, 1) := by decide +kernel
theorem dX6_seats_25 : decode cX6_seats 25 = .ok (.aload_n 0, 1) := by decide +kernel
theorem dX6_seats_26 : decode cX6_seats 26 = .ok (.getfield 19, 3) := by decide +kernel
theorem dX6_seats_29 : decode cX6_seats 29 = .ok (.getfield 90, 3) := by decide +kernel
theorem dX6_seats_32 : decode cX6_seats 32 = .ok (.iload_n 1, 1) := by decide +kernel
theorem dX6_seats_33 : decode cX6_seats 33 = .ok (.aaload, 1) := by decide +kernel
theorem dX6_seats_34 : decode cX6_seats 34 = .ok (.getfield 122, 3) := by decide +kernel
theorem dX6_seats_37 : decode cX6_seats 37 = .ok (.istore_n 3, 1) := by decide +kernel
theorem dX6_seats_38 : decode cX6_seats 38 = .ok (.aload_n 0, 1) := by decide +kernel
theorem dX6_seats_39 : decode cX6_seats 39 = .ok (.getfield 19, 3) := by decide +kernel
theorem dX6_seats_42 : decode cX6_seats 42 = .ok (.getfield 90, 3) := by decide +kernel
theorem dX6_seats_45 : decode cX6_seats 45 = .ok (.iload_n 1, 1) := by decide +kernel
theorem dX6_seats_46 : decode cX6_seats 46 = .ok (.aaload, 1) := by decide +kernel
theorem dX6_seats_47 : decode cX6_seats 47 = .ok (.iload_n 2, 1) := by decide +kernel
theorem dX6_seats_48 : decode cX6_seats 48 = .ok (.putfield 122, 3) := by decide +kernel
theorem dX6_seats_51 : decode cX6_seats 51 = .ok (.iload_n 3, 1) := by decide +kernel
theorem dX6_seats_52 : decode cX6_seats 52 = .ok (.ireturn, 1) := by decide +kernel
theorem dX6_settles_0 : decode cX6_settles 0 = .ok (.iload_n 1, 1) := by decide +kernel
theorem dX6_settles_1 : decode cX6_settles 1 = .ok (.iconst 1, 1) := by decide +kernel
theorem dX6_settles_2 : decode cX6_settles 2 = .ok (.if_icmp .lt 9, 3) := by decide +kernel
theorem dX6_settles_5 : decode cX6_settles 5 = .ok (.iload_n 1, 1) := by decide +kernel
theorem dX6_settles_6 : decode cX6_settles 6 = .ok (.bipush 50, 2) := by decide +kernel
theorem dX6_settles_8 : decode cX6_settles 8 = .ok (.if_icmp .le 5, 3) := by decide +kernel
theorem dX6_settles_11 : decode cX6_settles 11 = .ok (.iconst (-1), 1) := by decide +kernel
theorem dX6_settles_12 : decode cX6_settles 12 = .ok (.ireturn, 1) := by decide +kernel
theorem dX6_settles_13 : decode cX6_settles 13 = .ok (.iconst 0, 1) := by decide +kernel
theorem dX6_settles_14 : decode cX6_settles 14 = .ok (.istore_n 2, 1) := by decide +kernel
theorem dX6_settles_15 : decode cX6_settles 15 = .ok (.iconst 0, 1) := by decide +kernel
theorem dX6_settles_16 : decode cX6_settles 16 = .ok (.istore_n 3, 1) := by decide +kernel
theorem dX6_settles_17 : decode cX6_settles 17 = .ok (.iload_n 3, 1) := by decide +kernel
theorem dX6_settles_18 : decode cX6_settles 18 = .ok (.iload_n 1, 1) := by decide +kernel
theorem dX6_settles_19 : decode cX6_settles 19 = .ok (.if_icmp .ge 17, 3) := by decide +kernel
theorem dX6_settles_22 : decode cX6_settles 22 = .ok (.aload_n 0, 1) := by decide +kernel
theorem dX6_settles_23 : decode cX6_settles 23 = .ok (.getfield 19, 3) := by decide +kernel
theorem dX6_settles_26 : decode cX6_settles 26 = .ok (.invokevirtual 259, 3) := by decide +kernel
theorem dX6_settles_29 : decode cX6_settles 29 = .ok (.istore_n 2, 1) := by decide +kernel
theorem dX6_settles_30 : decode cX6_settles 30 = .ok (.iinc 3 1, 3) := by decide +kernel
theorem dX6_settles_33 : decode cX6_settles 33 = .ok (.goto (-16), 3) := by decide +kernel
theorem dX6_settles_36 : decode cX6_settles 36 = .ok (.aload_n 0, 1) := by decide +kernel
theorem dX6_settles_37 : decode cX6_settles 37 = .ok (.getfield 19, 3) := by decide +kernel
theorem dX6_settles_40 : decode cX6_settles 40 = .ok (.invokevirtual 237, 3) := by decide +kernel
theorem dX6_settles_43 : decode cX6_settles 43 = .ok (.aload_n 0, 1) := by decide +kernel
theorem dX6_settles_44 : decode cX6_settles 44 = .ok (.getfield 26, 3) := by decide +kernel
theorem dX6_settles_47 : decode cX6_settles 47 = .ok (.aload_n 0, 1) := by decide +kernel
theorem dX6_settles_48 : decode cX6_settles 48 = .ok (.getfield 19, 3) := by decide +kernel
theorem dX6_settles_51 : decode cX6_settles 51 = .ok (.getfield 262, 3) := by decide +kernel
theorem dX6_settles_54 : decode cX6_settles 54 = .ok (.i2l, 1) := by decide +kernel
theorem dX6_settles_55 : decode cX6_settles 55 = .ok (.aload_n 0, 1) := by decide +kernel
theorem dX6_settles_56 : decode cX6_settles 56 = .ok (.getfield 19, 3) := by decide +kernel
theorem dX6_settles_59 : decode cX6_settles 59 = .ok (.getfield 250, 3) := by decide +kernel
theorem dX6_settles_62 : decode cX6_settles 62 = .ok (.invokevirtual 167, 3) := by decide +kernel
theorem dX6_settles_65 : decode cX6_settles 65 = .ok (.iload_n 2, 1) := by decide +kernel
theorem dX6_settles_66 : decode cX6_settles 66 = .ok (.ireturn, 1) := by decide +kernel
theorem dX6_balances_0 : decode cX6_balances 0 = .ok (.iload_n 1, 1) := by decide +kernel
theorem dX6_balances_1 : decode cX6_balances 1 = .ok (.ifCond .lt 15, 3) := by decide +kernel
theorem dX6_balances_4 : decode cX6_balances 4 = .ok (.iload_n 2, 1) := by decide +kernel
theorem dX6_balances_5 : decode cX6_balances 5 = .ok (.iconst 1, 1) := by decide +kernel
theorem dX6_balances_6 : decode cX6_balances 6 = .ok (.if_icmp .lt 10, 3) := by decide +kernel
theorem dX6_balances_9 : decode cX6_balances 9 = .ok (.iload_n 2, 1) := by decide +kernel
theorem dX6_balances_10 : decode cX6_balances 10 = .ok (.sipush 200, 3) := by decide +kernel
theorem dX6_balances_13 : decode cX6_balances 13 = .ok (.if_icmp .le 5, 3) := by decide +kernel
theorem dX6_balances_16 : decode cX6_balances 16 = .ok (.iconst (-1), 1) := by decide +kernel
theorem dX6_balances_17 : decode cX6_balances 17 = .ok (.ireturn, 1) := by decide +kernel
theorem dX6_balances_18 : decode cX6_balances 18 = .ok (.aload_n 0, 1) := by decide +kernel
theorem dX6_balances_19 : decode cX6_balances 19 = .ok (.getfield 19, 3) := by decide +kernel
theorem dX6_balances_22 : decode cX6_balances 22 = .ok (.invokevirtual 259, 3) := by decide +kernel
theorem dX6_balances_25 : decode cX6_balances 25 = .ok (.istore_n 3, 1) := by decide +kernel
theorem dX6_balances_26 : decode cX6_balances 26 = .ok (.iconst 1, 1) := by decide +kernel
theorem dX6_balances_27 : decode cX6_balances 27 = .ok (.istore 4, 2) := by decide +kernel
theorem dX6_balances_29 : decode cX6_balances 29 = .ok (.iload 4, 2) := by decide +kernel
theorem dX6_balances_31 : decode cX6_balances 31 = .ok (.iload_n 2, 1) := by decide +kernel
theorem dX6_balances_32 : decode cX6_balances 32 = .ok (.if_icmp .ge 22, 3) := by decide +kernel
theorem dX6_balances_35 : decode cX6_balances 35 = .ok (.iload_n 3, 1) := by decide +kernel
theorem dX6_balances_36 : decode cX6_balances 36 = .ok (.iload_n 1, 1) := by decide +kernel
theorem dX6_balances_37 : decode cX6_balances 37 = .ok (.if_icmp .le 17, 3) := by decide +kernel
theorem dX6_balances_40 : decode cX6_balances 40 = .ok (.aload_n 0, 1) := by decide +kernel
theorem dX6_balances_41 : decode cX6_balances 41 = .ok (.getfield 19, 3) := by decide +kernel
theorem dX6_balances_44 : decode cX6_balances 44 = .ok (.invokevirtual 259, 3) := by decide +kernel
theorem dX6_balances_47 : decode cX6_balances 47 = .ok (.istore_n 3, 1) := by decide +kernel
theorem dX6_balances_48 : decode cX6_balances 48 = .ok (.iinc 4 1, 3) := by decide +kernel
theorem dX6_balances_51 : decode cX6_balances 51 = .ok (.goto (-22), 3) := by decide +kernel
theorem dX6_balances_54 : decode cX6_balances 54 = .ok (.aload_n 0, 1) := by decide +kernel
theorem dX6_balances_55 : decode cX6_balances 55 = .ok (.getfield 26, 3) := by decide +kernel
theorem dX6_balances_58 : decode cX6_balances 58 = .ok (.iload_n 3, 1) := by decide +kernel
theorem dX6_balances_59 : decode cX6_balances 59 = .ok (.i2l, 1) := by decide +kernel
theorem dX6_balances_60 : decode cX6_balances 60 = .ok (.aload_n 0, 1) := by decide +kernel
theorem dX6_balances_61 : decode cX6_balances 61 = .ok (.getfield 19, 3) := by decide +kernel
theorem dX6_balances_64 : decode cX6_balances 64 = .ok (.getfield 262, 3) := by decide +kernel
theorem dX6_balances_67 : decode cX6_balances 67 = .ok (.i2l, 1) := by decide +kernel
theorem dX6_balances_68 : decode cX6_balances 68 = .ok (.invokevirtual 167, 3) := by decide +kernel
theorem dX6_balances_71 : decode cX6_balances 71 = .ok (.iload 4, 2) := by decide +kernel
theorem dX6_balances_73 : decode cX6_balances 73 = .ok (.ireturn, 1) := by decide +kernel
theorem dX6_averaged_0 : decode cX6_averaged 0 = .ok (.aload_n 0, 1) := by decide +kernel
theorem dX6_averaged_1 : decode cX6_averaged 1 = .ok (.getfield 19, 3) := by decide +kernel
theorem dX6_averaged_4 : decode cX6_averaged 4 = .ok (.iload_n 1, 1) := by decide +kernel
theorem dX6_averaged_5 : decode cX6_averaged 5 = .ok (.iload_n 2, 1) := by decide +kernel
theorem dX6_averaged_6 : decode cX6_averaged 6 = .ok (.invokevirtual 186, 3) := by decide +kernel
theorem dX6_averaged_9 : decode cX6_averaged 9 = .ok (.ifCond .ne 5, 3) := by decide +kernel
theorem dX6_averaged_12 : decode cX6_averaged 12 = .ok (.iconst (-1), 1) := by decide +kernel
theorem dX6_averaged_13 : decode cX6_averaged 13 = .ok (.ireturn, 1) := by decide +kernel
theorem dX6_averaged_14 : decode cX6_averaged 14 = .ok (.aload_n 0, 1) := by decide +kernel
theorem dX6_averaged_15 : decode cX6_averaged 15 = .ok (.getfield 26, 3) := by decide +kernel
theorem dX6_averaged_18 : decode cX6_averaged 18 = .ok (.aload_n 0, 1) := by decide +kernel
theorem dX6_averaged_19 : decode cX6_averaged 19 = .ok (.getfield 19, 3) := by decide +kernel
theorem dX6_averaged_22 : decode cX6_averaged 22 = .ok (.getfield 90, 3) := by decide +kernel
theorem dX6_averaged_25 : decode cX6_averaged 25 = .ok (.iload_n 1, 1) := by decide +kernel
theorem dX6_averaged_26 : decode cX6_averaged 26 = .ok (.aaload, 1) := by decide +kernel
theorem dX6_averaged_27 : decode cX6_averaged 27 = .ok (.getfield 150, 3) := by decide +kernel
theorem dX6_averaged_30 : decode cX6_averaged 30 = .ok (.iload_n 2, 1) := by decide +kernel
theorem dX6_averaged_31 : decode cX6_averaged 31 = .ok (.iaload, 1) := by decide +kernel
theorem dX6_averaged_32 : decode cX6_averaged 32 = .ok (.i2l, 1) := by decide +kernel
theorem dX6_averaged_33 : decode cX6_averaged 33 = .ok (.invokevirtual 175, 3) := by decide +kernel
theorem dX6_averaged_36 : decode cX6_averaged 36 = .ok (.aload_n 0, 1) := by decide +kernel
theorem dX6_averaged_37 : decode cX6_averaged 37 = .ok (.getfield 19, 3) := by decide +kernel
theorem dX6_averaged_40 : decode cX6_averaged 40 = .ok (.getfield 90, 3) := by decide +kernel
theorem dX6_averaged_43 : decode cX6_averaged 43 = .ok (.iload_n 1, 1) := by decide +kernel
theorem dX6_averaged_44 : decode cX6_averaged 44 = .ok (.aaload, 1) := by decide +kernel
theorem dX6_averaged_45 : decode cX6_averaged 45 = .ok (.getfield 265, 3) := by decide +kernel
theorem dX6_averaged_48 : decode cX6_averaged 48 = .ok (.iload_n 2, 1) := by decide +kernel
theorem dX6_averaged_49 : decode cX6_averaged 49 = .ok (.iaload, 1) := by decide +kernel
theorem dX6_averaged_50 : decode cX6_averaged 50 = .ok (.ireturn, 1) := by decide +kernel
theorem dX6_clears_0 : decode cX6_clears 0 = .ok (.aload_n 0, 1) := by decide +kernel
theorem dX6_clears_1 : decode cX6_clears 1 = .ok (.getfield 19, 3) := by decide +kernel
theorem dX6_clears_4 : decode cX6_clears 4 = .ok (.getfield 262, 3) := by decide +kernel
theorem dX6_clears_7 : decode cX6_clears 7 = .ok (.istore_n 1, 1) := by decide +kernel
theorem dX6_clears_8 : decode cX6_clears 8 = .ok (.aload_n 0, 1) := by decide +kernel
theorem dX6_clears_9 : decode cX6_clears 9 = .ok (.getfield 19, 3) := by decide +kernel
theorem dX6_clears_12 : decode cX6_clears 12 = .ok (.invokevirtual 268, 3) := by decide +kernel
theorem dX6_clears_15 : decode cX6_clears 15 = .ok (.iload_n 1, 1) := by decide +kernel
theorem dX6_clears_16 : decode cX6_clears 16 = .ok (.ireturn, 1) := by decide +kernel
theorem dX6_without_0 : decode cX6_without 0 = .ok (.aload_n 0, 1) := by decide +kernel
theorem dX6_without_1 : decode cX6_without 1 = .ok (.getfield 19, 3) := by decide +kernel
theorem dX6_without_4 : decode cX6_without 4 = .ok (.iload_n 1, 1) := by decide +kernel
theorem dX6_without_5 : decode cX6_without 5 = .ok (.invokevirtual 65, 3) := by decide +kernel
theorem dX6_without_8 : decode cX6_without 8 = .ok (.ifCond .ne 7, 3) := by decide +kernel
theorem dX6_without_11 : decode cX6_without 11 = .ok (.ldc2_w 271, 3) := by decide +kernel
theorem dX6_without_14 : decode cX6_without 14 = .ok (.lreturn, 1) := by decide +kernel
theorem dX6_without_15 : decode cX6_without 15 = .ok (.aload_n 0, 1) := by decide +kernel
theorem dX6_without_16 : decode cX6_without 16 = .ok (.getfield 19, 3) := by decide +kernel
theorem dX6_without_19 : decode cX6_without 19 = .ok (.getfield 90, 3) := by decide +kernel
theorem dX6_without_22 : decode cX6_without 22 = .ok (.iload_n 1, 1) := by decide +kernel
theorem dX6_without_23 : decode cX6_without 23 = .ok (.aaload, 1) := by decide +kernel
theorem dX6_without_24 : decode cX6_without 24 = .ok (.astore_n 2, 1) := by decide +kernel
theorem dX6_without_25 : decode cX6_without 25 = .ok (.aload_n 2, 1) := by decide +kernel
theorem dX6_without_26 : decode cX6_without 26 = .ok (.getfield 94, 3) := by decide +kernel
theorem dX6_without_29 : decode cX6_without 29 = .ok (.ifCond .eq 7, 3) := by decide +kernel
theorem dX6_without_32 : decode cX6_without 32 = .ok (.ldc2_w 273, 3) := by decide +kernel
theorem dX6_without_35 : decode cX6_without 35 = .ok (.lreturn, 1) := by decide +kernel
theorem dX6_without_36 : decode cX6_without 36 = .ok (.aload_n 0, 1) := by decide +kernel
theorem dX6_without_37 : decode cX6_without 37 = .ok (.invokevirtual 275, 3) := by decide +kernel
theorem dX6_without_40 : decode cX6_without 40 = .ok (.lstore_n 3, 1) := by decide +kernel
theorem dX6_without_41 : decode cX6_without 41 = .ok (.aload_n 2, 1) := by decide +kernel
theorem dX6_without_42 : decode cX6_without 42 = .ok (.iconst 1, 1) := by decide +kernel
theorem dX6_without_43 : decode cX6_without 43 = .ok (.putfield 94, 3) := by decide +kernel
theorem dX6_without_46 : decode cX6_without 46 = .ok (.aload_n 0, 1) := by decide +kernel
theorem dX6_without_47 : decode cX6_without 47 = .ok (.getfield 19, 3) := by decide +kernel
theorem dX6_without_50 : decode cX6_without 50 = .ok (.invokevirtual 237, 3) := by decide +kernel
theorem dX6_without_53 : decode cX6_without 53 = .ok (.aload_n 2, 1) := by decide +kernel
theorem dX6_without_54 : decode cX6_without 54 = .ok (.iconst 0, 1) := by decide +kernel
theorem dX6_without_55 : decode cX6_without 55 = .ok (.putfield 94, 3) := by decide +kernel
theorem dX6_without_58 : decode cX6_without 58 = .ok (.aload_n 0, 1) := by decide +kernel
theorem dX6_without_59 : decode cX6_without 59 = .ok (.lload_n 3, 1) := by decide +kernel
theorem dX6_without_60 : decode cX6_without 60 = .ok (.invokevirtual 278, 3) := by decide +kernel
theorem dX6_without_63 : decode cX6_without 63 = .ok (.lreturn, 1) := by decide +kernel
theorem dX6_shut_0 : decode cX6_shut 0 = .ok (.iload_n 1, 1) := by decide +kernel
theorem dX6_shut_1 : decode cX6_shut 1 = .ok (.invokestatic 75, 3) := by decide +kernel
theorem dX6_shut_4 : decode cX6_shut 4 = .ok (.ifCond .ne 7, 3) := by decide +kernel
theorem dX6_shut_7 : decode cX6_shut 7 = .ok (.ldc2_w 271, 3) := by decide +kernel
theorem dX6_shut_10 : decode cX6_shut 10 = .ok (.lreturn, 1) := by decide +kernel
theorem dX6_shut_11 : decode cX6_shut 11 = .ok (.aload_n 0, 1) := by decide +kernel
theorem dX6_shut_12 : decode cX6_shut 12 = .ok (.getfield 19, 3) := by decide +kernel
theorem dX6_shut_15 : decode cX6_shut 15 = .ok (.getfield 81, 3) := by decide +kernel
theorem dX6_shut_18 : decode cX6_shut 18 = .ok (.iload_n 1, 1) := by decide +kernel
theorem dX6_shut_19 : decode cX6_shut 19 = .ok (.aaload, 1) := by decide +kernel
theorem dX6_shut_20 : decode cX6_shut 20 = .ok (.astore_n 2, 1) := by decide +kernel
theorem dX6_shut_21 : decode cX6_shut 21 = .ok (.aload_n 2, 1) := by decide +kernel
theorem dX6_shut_22 : decode cX6_shut 22 = .ok (.getfield 110, 3) := by decide +kernel
theorem dX6_shut_25 : decode cX6_shut 25 = .ok (.ifCond .eq 7, 3) := by decide +kernel
theorem dX6_shut_28 : decode cX6_shut 28 = .ok (.ldc2_w 273, 3) := by decide +kernel
theorem dX6_shut_31 : decode cX6_shut 31 = .ok (.lreturn, 1) := by decide +kernel
theorem dX6_shut_32 : decode cX6_shut 32 = .ok (.aload_n 0, 1) := by decide +kernel
theorem dX6_shut_33 : decode cX6_shut 33 = .ok (.invokevirtual 275, 3) := by decide +kernel
theorem dX6_shut_36 : decode cX6_shut 36 = .ok (.lstore_n 3, 1) := by decide +kernel
theorem dX6_shut_37 : decode cX6_shut 37 = .ok (.aload_n 2, 1) := by decide +kernel
theorem dX6_shut_38 : decode cX6_shut 38 = .ok (.iconst 1, 1) := by decide +kernel
theorem dX6_shut_39 : decode cX6_shut 39 = .ok (.putfield 110, 3) := by decide +kernel
theorem dX6_shut_42 : decode cX6_shut 42 = .ok (.aload_n 0, 1) := by decide +kernel
theorem dX6_shut_43 : decode cX6_shut 43 = .ok (.getfield 19, 3) := by decide +kernel
theorem dX6_shut_46 : decode cX6_shut 46 = .ok (.invokevirtual 237, 3) := by decide +kernel
theorem dX6_shut_49 : decode cX6_shut 49 = .ok (.aload_n 2, 1) := by decide +kernel
theorem dX6_shut_50 : decode cX6_shut 50 = .ok (.iconst 0, 1) := by decide +kernel
theorem dX6_shut_51 : decode cX6_shut 51 = .ok (.putfield 110, 3) := by decide +kernel
theorem dX6_shut_54 : decode cX6_shut 54 = .ok (.aload_n 0, 1) := by decide +kernel
theorem dX6_shut_55 : decode cX6_shut 55 = .ok (.lload_n 3, 1) := by decide +kernel
theorem dX6_shut_56 : decode cX6_shut 56 = .ok (.invokevirtual 278, 3) := by decide +kernel
theorem dX6_shut_59 : decode cX6_shut 59 = .ok (.lreturn, 1) := by decide +kernel
theorem dX6_more_0 : decode cX6_more 0 = .ok (.aload_n 0, 1) := by decide +kernel
theorem dX6_more_1 : decode cX6_more 1 = .ok (.getfield 19, 3) := by decide +kernel
theorem dX6_more_4 : decode cX6_more 4 = .ok (.iload_n 1, 1) := by decide +kernel
theorem dX6_more_5 : decode cX6_more 5 = .ok (.invokevirtual 65, 3) := by decide +kernel
theorem dX6_more_8 : decode cX6_more 8 = .ok (.ifCond .eq 19, 3) := by decide +kernel
theorem dX6_more_11 : decode cX6_more 11 = .ok (.aload_n 0, 1) := by decide +kernel
theorem dX6_more_12 : decode cX6_more 12 = .ok (.getfield 19, 3) := by decide +kernel
theorem dX6_more_15 : decode cX6_more 15 = .ok (.getfield 90, 3) := by decide +kernel
theorem dX6_more_18 : decode cX6_more 18 = .ok (.iload_n 1, 1) := by decide +kernel
theorem dX6_more_19 : decode cX6_more 19 = .ok (.aaload, 1) := by decide +kernel
theorem dX6_more_20 : decode cX6_more 20 = .ok (.iload_n 2, 1) := by decide +kernel
theorem dX6_more_21 : decode cX6_more 21 = .ok (.invokestatic 282, 3) := by decide +kernel
theorem dX6_more_24 : decode cX6_more 24 = .ok (.ifCond .ne 7, 3) := by decide +kernel
theorem dX6_more_27 : decode cX6_more 27 = .ok (.ldc2_w 271, 3) := by decide +kernel
theorem dX6_more_30 : decode cX6_more 30 = .ok (.lreturn, 1) := by decide +kernel
theorem dX6_more_31 : decode cX6_more 31 = .ok (.aload_n 0, 1) := by decide +kernel
theorem dX6_more_32 : decode cX6_more 32 = .ok (.invokevirtual 275, 3) := by decide +kernel
theorem dX6_more_35 : decode cX6_more 35 = .ok (.lstore_n 3, 1) := by decide +kernel
theorem dX6_more_36 : decode cX6_more 36 = .ok (.aload_n 0, 1) := by decide +kernel
theorem dX6_more_37 : decode cX6_more 37 = .ok (.aload_n 0, 1) := by decide +kernel
theorem dX6_more_38 : decode cX6_more 38 = .ok (.getfield 19, 3) := by decide +kernel
theorem dX6_more_41 : decode cX6_more 41 = .ok (.getfield 90, 3) := by decide +kernel
theorem dX6_more_44 : decode cX6_more 44 = .ok (.iload_n 1, 1) := by decide +kernel
theorem dX6_more_45 : decode cX6_more 45 = .ok (.aaload, 1) := by decide +kernel
theorem dX6_more_46 : decode cX6_more 46 = .ok (.iload_n 2, 1) := by decide +kernel
theorem dX6_more_47 : decode cX6_more 47 = .ok (.invokevirtual 286, 3) := by decide +kernel
theorem dX6_more_50 : decode cX6_more 50 = .ok (.aload_n 0, 1) := by decide +kernel
theorem dX6_more_51 : decode cX6_more 51 = .ok (.lload_n 3, 1) := by decide +kernel
theorem dX6_more_52 : decode cX6_more 52 = .ok (.invokevirtual 278, 3) := by decide +kernel
theorem dX6_more_55 : decode cX6_more 55 = .ok (.lreturn, 1) := by decide +kernel
theorem dX6_best_0 : decode cX6_best 0 = .ok (.iload_n 1, 1) := by decide +kernel
theorem dX6_best_1 : decode cX6_best 1 = .ok (.iconst 1, 1) := by decide +kernel
theorem dX6_best_2 : decode cX6_best 2 = .ok (.if_icmp .lt 9, 3) := by decide +kernel
theorem dX6_best_5 : decode cX6_best 5 = .ok (.iload_n 1, 1) := by decide +kernel
theorem dX6_best_6 : decode cX6_best 6 = .ok (.bipush 59, 2) := by decide +kernel
theorem dX6_best_8 : decode cX6_best 8 = .ok (.if_icmp .le 5, 3) := by decide +kernel
theorem dX6_best_11 : decode cX6_best 11 = .ok (.iconst (-1), 1) := by decide +kernel
theorem dX6_best_12 : decode cX6_best 12 = .ok (.ireturn, 1) := by decide +kernel
theorem dX6_best_13 : decode cX6_best 13 = .ok (.aload_n 0, 1) := by decide +kernel
theorem dX6_best_14 : decode cX6_best 14 = .ok (.invokevirtual 275, 3) := by decide +kernel
theorem dX6_best_17 : decode cX6_best 17 = .ok (.lstore_n 2, 1) := by decide +kernel
theorem dX6_best_18 : decode cX6_best 18 = .ok (.lconst 0, 1) := by decide +kernel
theorem dX6_best_19 : decode cX6_best 19 = .ok (.lstore 4, 2) := by decide +kernel
theorem dX6_best_21 : decode cX6_best 21 = .ok (.iconst (-1), 1) := by decide +kernel
theorem dX6_best_22 : decode cX6_best 22 = .ok (.istore 6, 2) := by decide +kernel
theorem dX6_best_24 : decode cX6_best 24 = .ok (.iconst 0, 1) := by decide +kernel
theorem dX6_best_25 : decode cX6_best 25 = .ok (.istore 7, 2) := by decide +kernel
theorem dX6_best_27 : decode cX6_best 27 = .ok (.iload 7, 2) := by decide +kernel
theorem dX6_best_29 : decode cX6_best 29 = .ok (.aload_n 0, 1) := by decide +kernel
theorem dX6_best_30 : decode cX6_best 30 = .ok (.getfield 19, 3) := by decide +kernel
theorem dX6_best_33 : decode cX6_best 33 = .ok (.getfield 56, 3) := by decide +kernel
theorem dX6_best_36 : decode cX6_best 36 = .ok (.if_icmp .ge 89, 3) := by decide +kernel
theorem dX6_best_39 : decode cX6_best 39 = .ok (.aload_n 0, 1) := by decide +kernel
theorem dX6_best_40 : decode cX6_best 40 = .ok (.getfield 19, 3) := by decide +kernel
theorem dX6_best_43 : decode cX6_best 43 = .ok (.getfield 90, 3) := by decide +kernel
theorem dX6_best_46 : decode cX6_best 46 = .ok (.iload 7, 2) := by decide +kernel
theorem dX6_best_48 : decode cX6_best 48 = .ok (.aaload, 1) := by decide +kernel
theorem dX6_best_49 : decode cX6_best 49 = .ok (.getfield 94, 3) := by decide +kernel
theorem dX6_best_52 : decode cX6_best 52 = .ok (.ifCond .ne 67, 3) := by decide +kernel
theorem dX6_best_55 : decode cX6_best 55 = .ok (.aload_n 0, 1) := by decide +kernel
theorem dX6_best_56 : decode cX6_best 56 = .ok (.getfield 19, 3) := by decide +kernel
theorem dX6_best_59 : decode cX6_best 59 = .ok (.getfield 90, 3) := by decide +kernel
theorem dX6_best_62 : decode cX6_best 62 = .ok (.iload 7, 2) := by decide +kernel
theorem dX6_best_64 : decode cX6_best 64 = .ok (.aaload, 1) := by decide +kernel
theorem dX6_best_65 : decode cX6_best 65 = .ok (.iload_n 1, 1) := by decide +kernel
theorem dX6_best_66 : decode cX6_best 66 = .ok (.invokestatic 282, 3) := by decide +kernel
theorem dX6_best_69 : decode cX6_best 69 = .ok (.ifCond .eq 50, 3) := by decide +kernel
theorem dX6_best_72 : decode cX6_best 72 = .ok (.aload_n 0, 1) := by decide +kernel
theorem dX6_best_73 : decode cX6_best 73 = .ok (.aload_n 0, 1) := by decide +kernel
theorem dX6_best_74 : decode cX6_best 74 = .ok (.getfield 19, 3) := by decide +kernel
theorem dX6_best_77 : decode cX6_best 77 = .ok (.getfield 90, 3) := by decide +kernel
theorem dX6_best_80 : decode cX6_best 80 = .ok (.iload 7, 2) := by decide +kernel
theorem dX6_best_82 : decode cX6_best 82 = .ok (.aaload, 1) := by decide +kernel
theorem dX6_best_83 : decode cX6_best 83 = .ok (.iload_n 1, 1) := by decide +kernel
theorem dX6_best_84 : decode cX6_best 84 = .ok (.invokevirtual 286, 3) := by decide +kernel
theorem dX6_best_87 : decode cX6_best 87 = .ok (.iload 6, 2) := by decide +kernel
theorem dX6_best_89 : decode cX6_best 89 = .ok (.iconst (-1), 1) := by decide +kernel
theorem dX6_best_90 : decode cX6_best 90 = .ok (.if_icmp .eq 16, 3) := by decide +kernel
theorem dX6_best_93 : decode cX6_best 93 = .ok (.aload_n 0, 1) := by decide +kernel
theorem dX6_best_94 : decode cX6_best 94 = .ok (.getfield 19, 3) := by decide +kernel
theorem dX6_best_97 : decode cX6_best 97 = .ok (.getfield 250, 3) := by decide +kernel
theorem dX6_best_100 : decode cX6_best 100 = .ok (.lload 4, 2) := by decide +kernel
theorem dX6_best_102 : decode cX6_best 102 = .ok (.lcmp, 1) := by decide +kernel
theorem dX6_best_103 : decode cX6_best 103 = .ok (.ifCond .ge 16, 3) := by decide +kernel
theorem dX6_best_106 : decode cX6_best 106 = .ok (.iload 7, 2) := by decide +kernel
theorem dX6_best_108 : decode cX6_best 108 = .ok (.istore 6, 2) := by decide +kernel
theorem dX6_best_110 : decode cX6_best 110 = .ok (.aload_n 0, 1) := by decide +kernel
theorem dX6_best_111 : decode cX6_best 111 = .ok (.getfield 19, 3) := by decide +kernel
theorem dX6_best_114 : decode cX6_best 114 = .ok (.getfield 250, 3) := by decide +kernel
theorem dX6_best_117 : decode cX6_best 117 = .ok (.lstore 4, 2) := by decide +kernel
theorem dX6_best_119 : decode cX6_best 119 = .ok (.iinc 7 1, 3) := by decide +kernel
theorem dX6_best_122 : decode cX6_best 122 = .ok (.goto (-95), 3) := by decide +kernel
theorem dX6_best_125 : decode cX6_best 125 = .ok (.iload 6, 2) := by decide +kernel
theorem dX6_best_127 : decode cX6_best 127 = .ok (.iconst (-1), 1) := by decide +kernel
theorem dX6_best_128 : decode cX6_best 128 = .ok (.if_icmp .ne 6, 3) := by decide +kernel
theorem dX6_best_131 : decode cX6_best 131 = .ok (.bipush (-2), 2) := by decide +kernel
theorem dX6_best_133 : decode cX6_best 133 = .ok (.ireturn, 1) := by decide +kernel
theorem dX6_best_134 : decode cX6_best 134 = .ok (.aload_n 0, 1) := by decide +kernel
theorem dX6_best_135 : decode cX6_best 135 = .ok (.getfield 26, 3) := by decide +kernel
theorem dX6_best_138 : decode cX6_best 138 = .ok (.lload 4, 2) := by decide +kernel
theorem dX6_best_140 : decode cX6_best 140 = .ok (.lload_n 2, 1) := by decide +kernel
theorem dX6_best_141 : decode cX6_best 141 = .ok (.lsub, 1) := by decide +kernel
theorem dX6_best_142 : decode cX6_best 142 = .ok (.invokevirtual 175, 3) := by decide +kernel
theorem dX6_best_145 : decode cX6_best 145 = .ok (.iload 6, 2) := by decide +kernel
theorem dX6_best_147 : decode cX6_best 147 = .ok (.ireturn, 1) := by decide +kernel
theorem dX6_towards_0 : decode cX6_towards 0 = .ok (.iload_n 1, 1) := by decide +kernel
theorem dX6_towards_1 : decode cX6_towards 1 = .ok (.invokestatic 75, 3) := by decide +kernel
theorem dX6_towards_4 : decode cX6_towards 4 = .ok (.ifCond .ne 7, 3) := by decide +kernel
theorem dX6_towards_7 : decode cX6_towards 7 = .ok (.ldc2_w 271, 3) := by decide +kernel
theorem dX6_towards_10 : decode cX6_towards 10 = .ok (.lreturn, 1) := by decide +kernel
theorem dX6_towards_11 : decode cX6_towards 11 = .ok (.aload_n 0, 1) := by decide +kernel
theorem dX6_towards_12 : decode cX6_towards 12 = .ok (.invokevirtual 275, 3) := by decide +kernel
theorem dX6_towards_15 : decode cX6_towards 15 = .ok (.lstore_n 2, 1) := by decide +kernel
theorem dX6_towards_16 : decode cX6_towards 16 = .ok (.aload_n 0, 1) := by decide +kernel
theorem dX6_towards_17 : decode cX6_towards 17 = .ok (.iload_n 1, 1) := by decide +kernel
theorem dX6_towards_18 : decode cX6_towards 18 = .ok (.invokevirtual 290, 3) := by decide +kernel
theorem dX6_towards_21 : decode cX6_towards 21 = .ok (.aload_n 0, 1) := by decide +kernel
theorem dX6_towards_22 : decode cX6_towards 22 = .ok (.lload_n 2, 1) := by decide +kernel
theorem dX6_towards_23 : decode cX6_towards 23 = .ok (.invokevirtual 278, 3) := by decide +kernel
theorem dX6_towards_26 : decode cX6_towards 26 = .ok (.lreturn, 1) := by decide +kernel
theorem dX6_slower_0 : decode cX6_slower 0 = .ok (.aload_n 0, 1) := by decide +kernel
theorem dX6_slower_1 : decode cX6_slower 1 = .ok (.getfield 19, 3) := by decide +kernel
theorem dX6_slower_4 : decode cX6_slower 4 = .ok (.iload_n 1, 1) := by decide +kernel
theorem dX6_slower_5 : decode cX6_slower 5 = .ok (.iload_n 2, 1) := by decide +kernel
theorem dX6_slower_6 : decode cX6_slower 6 = .ok (.invokevirtual 186, 3) := by decide +kernel
theorem dX6_slower_9 : decode cX6_slower 9 = .ok (.ifCond .ne 7, 3) := by decide +kernel
theorem dX6_slower_12 : decode cX6_slower 12 = .ok (.ldc2_w 271, 3) := by decide +kernel
theorem dX6_slower_15 : decode cX6_slower 15 = .ok (.lreturn, 1) := by decide +kernel
theorem dX6_slower_16 : decode cX6_slower 16 = .ok (.aload_n 0, 1) := by decide +kernel
theorem dX6_slower_17 : decode cX6_slower 17 = .ok (.getfield 19, 3) := by decide +kernel
theorem dX6_slower_20 : decode cX6_slower 20 = .ok (.getfield 90, 3) := by decide +kernel
theorem dX6_slower_23 : decode cX6_slower 23 = .ok (.iload_n 1, 1) := by decide +kernel
theorem dX6_slower_24 : decode cX6_slower 24 = .ok (.aaload, 1) := by decide +kernel
theorem dX6_slower_25 : decode cX6_slower 25 = .ok (.astore 4, 2) := by decide +kernel
theorem dX6_slower_27 : decode cX6_slower 27 = .ok (.aload 4, 2) := by decide +kernel
theorem dX6_slower_29 : decode cX6_slower 29 = .ok (.getfield 142, 3) := by decide +kernel
theorem dX6_slower_32 : decode cX6_slower 32 = .ok (.iload_n 2, 1) := by decide +kernel
theorem dX6_slower_33 : decode cX6_slower 33 = .ok (.iaload, 1) := by decide +kernel
theorem dX6_slower_34 : decode cX6_slower 34 = .ok (.istore 5, 2) := by decide +kernel
theorem dX6_slower_36 : decode cX6_slower 36 = .ok (.iload 5, 2) := by decide +kernel
theorem dX6_slower_38 : decode cX6_slower 38 = .ok (.i2l, 1) := by decide +kernel
theorem dX6_slower_39 : decode cX6_slower 39 = .ok (.iload_n 3, 1) := by decide +kernel
theorem dX6_slower_40 : decode cX6_slower 40 = .ok (.i2l, 1) := by decide +kernel
theorem dX6_slower_41 : decode cX6_slower 41 = .ok (.ladd, 1) := by decide +kernel
theorem dX6_slower_42 : decode cX6_slower 42 = .ok (.lstore 6, 2) := by decide +kernel
theorem dX6_slower_44 : decode cX6_slower 44 = .ok (.lload 6, 2) := by decide +kernel
theorem dX6_slower_46 : decode cX6_slower 46 = .ok (.lconst 1, 1) := by decide +kernel
theorem dX6_slower_47 : decode cX6_slower 47 = .ok (.lcmp, 1) := by decide +kernel
theorem dX6_slower_48 : decode cX6_slower 48 = .ok (.ifCond .lt 12, 3) := by decide +kernel
theorem dX6_slower_51 : decode cX6_slower 51 = .ok (.lload 6, 2) := by decide +kernel
theorem dX6_slower_53 : decode cX6_slower 53 = .ok (.ldc2_w 293, 3) := by decide +kernel
theorem dX6_slower_56 : decode cX6_slower 56 = .ok (.lcmp, 1) := by decide +kernel
theorem dX6_slower_57 : decode cX6_slower 57 = .ok (.ifCond .le 7, 3) := by decide +kernel
theorem dX6_slower_60 : decode cX6_slower 60 = .ok (.ldc2_w 271, 3) := by decide +kernel
theorem dX6_slower_63 : decode cX6_slower 63 = .ok (.lreturn, 1) := by decide +kernel
theorem dX6_slower_64 : decode cX6_slower 64 = .ok (.aload_n 0, 1) := by decide +kernel
theorem dX6_slower_65 : decode cX6_slower 65 = .ok (.invokevirtual 275, 3) := by decide +kernel
theorem dX6_slower_68 : decode cX6_slower 68 = .ok (.lstore 8, 2) := by decide +kernel
theorem dX6_slower_70 : decode cX6_slower 70 = .ok (.aload 4, 2) := by decide +kernel
theorem dX6_slower_72 : decode cX6_slower 72 = .ok (.getfield 142, 3) := by decide +kernel
theorem dX6_slower_75 : decode cX6_slower 75 = .ok (.iload_n 2, 1) := by decide +kernel
theorem dX6_slower_76 : decode cX6_slower 76 = .ok (.lload 6, 2) := by decide +kernel
theorem dX6_slower_78 : decode cX6_slower 78 = .ok (.l2i, 1) := by decide +kernel
theorem dX6_slower_79 : decode cX6_slower 79 = .ok (.iastore, 1) := by decide +kernel
theorem dX6_slower_80 : decode cX6_slower 80 = .ok (.aload_n 0, 1) := by decide +kernel
theorem dX6_slower_81 : decode cX6_slower 81 = .ok (.getfield 19, 3) := by decide +kernel
theorem dX6_slower_84 : decode cX6_slower 84 = .ok (.invokevirtual 237, 3) := by decide +kernel
theorem dX6_slower_87 : decode cX6_slower 87 = .ok (.aload 4, 2) := by decide +kernel
theorem dX6_slower_89 : decode cX6_slower 89 = .ok (.getfield 142, 3) := by decide +kernel
theorem dX6_slower_92 : decode cX6_slower 92 = .ok (.iload_n 2, 1) := by decide +kernel
theorem dX6_slower_93 : decode cX6_slower 93 = .ok (.iload 5, 2) := by decide +kernel
theorem dX6_slower_95 : decode cX6_slower 95 = .ok (.iastore, 1) := by decide +kernel
theorem dX6_slower_96 : decode cX6_slower 96 = .ok (.aload_n 0, 1) := by decide +kernel
theorem dX6_slower_97 : decode cX6_slower 97 = .ok (.lload 8, 2) := by decide +kernel
theorem dX6_slower_99 : decode cX6_slower 99 = .ok (.invokevirtual 278, 3) := by decide +kernel
theorem dX6_slower_102 : decode cX6_slower 102 = .ok (.lreturn, 1) := by decide +kernel
theorem dX6_skips_0 : decode cX6_skips 0 = .ok (.aload_n 0, 1) := by decide +kernel
theorem dX6_skips_1 : decode cX6_skips 1 = .ok (.getfield 19, 3) := by decide +kernel
theorem dX6_skips_4 : decode cX6_skips 4 = .ok (.iload_n 1, 1) := by decide +kernel
theorem dX6_skips_5 : decode cX6_skips 5 = .ok (.iload_n 2, 1) := by decide +kernel
theorem dX6_skips_6 : decode cX6_skips 6 = .ok (.invokevirtual 186, 3) := by decide +kernel
theorem dX6_skips_9 : decode cX6_skips 9 = .ok (.ifCond .eq 7, 3) := by decide +kernel
theorem dX6_skips_12 : decode cX6_skips 12 = .ok (.iload_n 2, 1) := by decide +kernel
theorem dX6_skips_13 : decode cX6_skips 13 = .ok (.ifCond .ne 7, 3) := by decide +kernel
theorem dX6_skips_16 : decode cX6_skips 16 = .ok (.ldc2_w 271, 3) := by decide +kernel
theorem dX6_skips_19 : decode cX6_skips 19 = .ok (.lreturn, 1) := by decide +kernel
theorem dX6_skips_20 : decode cX6_skips 20 = .ok (.aload_n 0, 1) := by decide +kernel
theorem dX6_skips_21 : decode cX6_skips 21 = .ok (.invokevirtual 275, 3) := by decide +kernel
theorem dX6_skips_24 : decode cX6_skips 24 = .ok (.lstore_n 3, 1) := by decide +kernel
theorem dX6_skips_25 : decode cX6_skips 25 = .ok (.aload_n 0, 1) := by decide +kernel
theorem dX6_skips_26 : decode cX6_skips 26 = .ok (.getfield 19, 3) := by decide +kernel
theorem dX6_skips_29 : decode cX6_skips 29 = .ok (.aload_n 0, 1) := by decide +kernel
theorem dX6_skips_30 : decode cX6_skips 30 = .ok (.getfield 19, 3) := by decide +kernel
theorem dX6_skips_33 : decode cX6_skips 33 = .ok (.getfield 90, 3) := by decide +kernel
theorem dX6_skips_36 : decode cX6_skips 36 = .ok (.iload_n 1, 1) := by decide +kernel
theorem dX6_skips_37 : decode cX6_skips 37 = .ok (.aaload, 1) := by decide +kernel
theorem dX6_skips_38 : decode cX6_skips 38 = .ok (.iload_n 2, 1) := by decide +kernel
theorem dX6_skips_39 : decode cX6_skips 39 = .ok (.invokevirtual 295, 3) := by decide +kernel
theorem dX6_skips_42 : decode cX6_skips 42 = .ok (.aload_n 0, 1) := by decide +kernel
theorem dX6_skips_43 : decode cX6_skips 43 = .ok (.lload_n 3, 1) := by decide +kernel
theorem dX6_skips_44 : decode cX6_skips 44 = .ok (.invokevirtual 278, 3) := by decide +kernel
theorem dX6_skips_47 : decode cX6_skips 47 = .ok (.lreturn, 1) := by decide +kernel
theorem dX6_uses_0 : decode cX6_uses 0 = .ok (.iload_n 1, 1) := by decide +kernel
theorem dX6_uses_1 : decode cX6_uses 1 = .ok (.invokestatic 75, 3) := by decide +kernel
theorem dX6_uses_4 : decode cX6_uses 4 = .ok (.ifCond .eq 14, 3) := by decide +kernel
theorem dX6_uses_7 : decode cX6_uses 7 = .ok (.aload_n 0, 1) := by decide +kernel
theorem dX6_uses_8 : decode cX6_uses 8 = .ok (.getfield 19, 3) := by decide +kernel
theorem dX6_uses_11 : decode cX6_uses 11 = .ok (.iload_n 2, 1) := by decide +kernel
theorem dX6_uses_12 : decode cX6_uses 12 = .ok (.invokevirtual 65, 3) := by decide +kernel
theorem dX6_uses_15 : decode cX6_uses 15 = .ok (.ifCond .ne 5, 3) := by decide +kernel
theorem dX6_uses_18 : decode cX6_uses 18 = .ok (.iconst (-1), 1) := by decide +kernel
theorem dX6_uses_19 : decode cX6_uses 19 = .ok (.ireturn, 1) := by decide +kernel
theorem dX6_uses_20 : decode cX6_uses 20 = .ok (.aload_n 0, 1) := by decide +kernel
theorem dX6_uses_21 : decode cX6_uses 21 = .ok (.getfield 19, 3) := by decide +kernel
theorem dX6_uses_24 : decode cX6_uses 24 = .ok (.invokevirtual 155, 3) := by decide +kernel
theorem dX6_uses_27 : decode cX6_uses 27 = .ok (.aload_n 0, 1) := by decide +kernel
theorem dX6_uses_28 : decode cX6_uses 28 = .ok (.getfield 19, 3) := by decide +kernel
theorem dX6_uses_31 : decode cX6_uses 31 = .ok (.getfield 81, 3) := by decide +kernel
theorem dX6_uses_34 : decode cX6_uses 34 = .ok (.iload_n 1, 1) := by decide +kernel
theorem dX6_uses_35 : decode cX6_uses 35 = .ok (.aaload, 1) := by decide +kernel
theorem dX6_uses_36 : decode cX6_uses 36 = .ok (.getfield 158, 3) := by decide +kernel
theorem dX6_uses_39 : decode cX6_uses 39 = .ok (.iconst (-1), 1) := by decide +kernel
theorem dX6_uses_40 : decode cX6_uses 40 = .ok (.if_icmp .ne 6, 3) := by decide +kernel
theorem dX6_uses_43 : decode cX6_uses 43 = .ok (.bipush (-2), 2) := by decide +kernel
theorem dX6_uses_45 : decode cX6_uses 45 = .ok (.ireturn, 1) := by decide +kernel
theorem dX6_uses_46 : decode cX6_uses 46 = .ok (.aload_n 0, 1) := by decide +kernel
theorem dX6_uses_47 : decode cX6_uses 47 = .ok (.getfield 19, 3) := by decide +kernel
theorem dX6_uses_50 : decode cX6_uses 50 = .ok (.iload_n 1, 1) := by decide +kernel
theorem dX6_uses_51 : decode cX6_uses 51 = .ok (.sipush 1000, 3) := by decide +kernel
theorem dX6_uses_54 : decode cX6_uses 54 = .ok (.invokevirtual 298, 3) := by decide +kernel
theorem dX6_uses_57 : decode cX6_uses 57 = .ok (.aload_n 0, 1) := by decide +kernel
theorem dX6_uses_58 : decode cX6_uses 58 = .ok (.getfield 26, 3) := by decide +kernel
theorem dX6_uses_61 : decode cX6_uses 61 = .ok (.aload_n 0, 1) := by decide +kernel
theorem dX6_uses_62 : decode cX6_uses 62 = .ok (.getfield 19, 3) := by decide +kernel
theorem dX6_uses_65 : decode cX6_uses 65 = .ok (.invokevirtual 253, 3) := by decide +kernel
theorem dX6_uses_68 : decode cX6_uses 68 = .ok (.i2l, 1) := by decide +kernel
theorem dX6_uses_69 : decode cX6_uses 69 = .ok (.invokevirtual 175, 3) := by decide +kernel
theorem dX6_uses_72 : decode cX6_uses 72 = .ok (.aload_n 0, 1) := by decide +kernel
theorem dX6_uses_73 : decode cX6_uses 73 = .ok (.getfield 19, 3) := by decide +kernel
theorem dX6_uses_76 : decode cX6_uses 76 = .ok (.getfield 90, 3) := by decide +kernel
theorem dX6_uses_79 : decode cX6_uses 79 = .ok (.iload_n 2, 1) := by decide +kernel
theorem dX6_uses_80 : decode cX6_uses 80 = .ok (.aaload, 1) := by decide +kernel
theorem dX6_uses_81 : decode cX6_uses 81 = .ok (.invokevirtual 228, 3) := by decide +kernel
theorem dX6_uses_84 : decode cX6_uses 84 = .ok (.ireturn, 1) := by decide +kernel
theorem dX6_centre_0 : decode cX6_centre 0 = .ok (.iconst 0, 1) := by decide +kernel
theorem dX6_centre_1 : decode cX6_centre 1 = .ok (.istore_n 1, 1) := by decide +kernel
theorem dX6_centre_2 : decode cX6_centre 2 = .ok (.lconst 0, 1) := by decide +kernel
theorem dX6_centre_3 : decode cX6_centre 3 = .ok (.lstore_n 2, 1) := by decide +kernel
theorem dX6_centre_4 : decode cX6_centre 4 = .ok (.lconst 0, 1) := by decide +kernel
theorem dX6_centre_5 : decode cX6_centre 5 = .ok (.lstore 4, 2) := by decide +kernel
theorem dX6_centre_7 : decode cX6_centre 7 = .ok (.iconst 0, 1) := by decide +kernel
theorem dX6_centre_8 : decode cX6_centre 8 = .ok (.istore 6, 2) := by decide +kernel
theorem dX6_centre_10 : decode cX6_centre 10 = .ok (.iload 6, 2) := by decide +kernel
theorem dX6_centre_12 : decode cX6_centre 12 = .ok (.bipush 10, 2) := by decide +kernel
theorem dX6_centre_14 : decode cX6_centre 14 = .ok (.if_icmp .ge 101, 3) := by decide +kernel
theorem dX6_centre_17 : decode cX6_centre 17 = .ok (.aload_n 0, 1) := by decide +kernel
theorem dX6_centre_18 : decode cX6_centre 18 = .ok (.iload 6, 2) := by decide +kernel
theorem dX6_centre_20 : decode cX6_centre 20 = .ok (.invokevirtual 290, 3) := by decide +kernel
theorem dX6_centre_23 : decode cX6_centre 23 = .ok (.aload_n 0, 1) := by decide +kernel
theorem dX6_centre_24 : decode cX6_centre 24 = .ok (.getfield 19, 3) := by decide +kernel
theorem dX6_centre_27 : decode cX6_centre 27 = .ok (.getfield 243, 3) := by decide +kernel
theorem dX6_centre_30 : decode cX6_centre 30 = .ok (.lload_n 2, 1) := by decide +kernel
theorem dX6_centre_31 : decode cX6_centre 31 = .ok (.lcmp, 1) := by decide +kernel
theorem dX6_centre_32 : decode cX6_centre 32 = .ok (.ifCond .ge 7, 3) := by decide +kernel
theorem dX6_centre_35 : decode cX6_centre 35 = .ok (.iconst 1, 1) := by decide +kernel
theorem dX6_centre_36 : decode cX6_centre 36 = .ok (.goto 4, 3) := by decide +kernel
theorem dX6_centre_39 : decode cX6_centre 39 = .ok (.iconst 0, 1) := by decide +kernel
theorem dX6_centre_40 : decode cX6_centre 40 = .ok (.istore 7, 2) := by decide +kernel
theorem dX6_centre_42 : decode cX6_centre 42 = .ok (.aload_n 0, 1) := by decide +kernel
theorem dX6_centre_43 : decode cX6_centre 43 = .ok (.getfield 19, 3) := by decide +kernel
theorem dX6_centre_46 : decode cX6_centre 46 = .ok (.getfield 243, 3) := by decide +kernel
theorem dX6_centre_49 : decode cX6_centre 49 = .ok (.lload_n 2, 1) := by decide +kernel
theorem dX6_centre_50 : decode cX6_centre 50 = .ok (.lcmp, 1) := by decide +kernel
theorem dX6_centre_51 : decode cX6_centre 51 = .ok (.ifCond .ne 20, 3) := by decide +kernel
theorem dX6_centre_54 : decode cX6_centre 54 = .ok (.aload_n 0, 1) := by decide +kernel
theorem dX6_centre_55 : decode cX6_centre 55 = .ok (.getfield 19, 3) := by decide +kernel
theorem dX6_centre_58 : decode cX6_centre 58 = .ok (.getfield 250, 3) := by decide +kernel
theorem dX6_centre_61 : decode cX6_centre 61 = .ok (.lload 4, 2) := by decide +kernel
theorem dX6_centre_63 : decode cX6_centre 63 = .ok (.lcmp, 1) := by decide +kernel
theorem dX6_centre_64 : decode cX6_centre 64 = .ok (.ifCond .ge 7, 3) := by decide +kernel
theorem dX6_centre_67 : decode cX6_centre 67 = .ok (.iconst 1, 1) := by decide +kernel
theorem dX6_centre_68 : decode cX6_centre 68 = .ok (.goto 4, 3) := by decide +kernel
theorem dX6_centre_71 : decode cX6_centre 71 = .ok (.iconst 0, 1) := by decide +kernel
theorem dX6_centre_72 : decode cX6_centre 72 = .ok (.istore 8, 2) := by decide +kernel
theorem dX6_centre_74 : decode cX6_centre 74 = .ok (.iload 6, 2) := by decide +kernel
theorem dX6_centre_76 : decode cX6_centre 76 = .ok (.ifCond .eq 13, 3) := by decide +kernel
theorem dX6_centre_79 : decode cX6_centre 79 = .ok (.iload 7, 2) := by decide +kernel
theorem dX6_centre_81 : decode cX6_centre 81 = .ok (.ifCond .ne 8, 3) := by decide +kernel
theorem dX6_centre_84 : decode cX6_centre 84 = .ok (.iload 8, 2) := by decide +kernel
theorem dX6_centre_86 : decode cX6_centre 86 = .ok (.ifCond .eq 23, 3) := by decide +kernel
theorem dX6_centre_89 : decode cX6_centre 89 = .ok (.iload 6, 2) := by decide +kernel
theorem dX6_centre_91 : decode cX6_centre 91 = .ok (.istore_n 1, 1) := by decide +kernel
theorem dX6_centre_92 : decode cX6_centre 92 = .ok (.aload_n 0, 1) := by decide +kernel
theorem dX6_centre_93 : decode cX6_centre 93 = .ok (.getfield 19, 3) := by decide +kernel
theorem dX6_centre_96 : decode cX6_centre 96 = .ok (.getfield 243, 3) := by decide +kernel
theorem dX6_centre_99 : decode cX6_centre 99 = .ok (.lstore_n 2, 1) := by decide +kernel
theorem dX6_centre_100 : decode cX6_centre 100 = .ok (.aload_n 0, 1) := by decide +kernel
theorem dX6_centre_101 : decode cX6_centre 101 = .ok (.getfield 19, 3) := by decide +kernel
theorem dX6_centre_104 : decode cX6_centre 104 = .ok (.getfield 250, 3) := by decide +kernel
theorem dX6_centre_107 : decode cX6_centre 107 = .ok (.lstore 4, 2) := by decide +kernel
theorem dX6_centre_109 : decode cX6_centre 109 = .ok (.iinc 6 1, 3) := by decide +kernel
theorem dX6_centre_112 : decode cX6_centre 112 = .ok (.goto (-102), 3) := by decide +kernel
theorem dX6_centre_115 : decode cX6_centre 115 = .ok (.aload_n 0, 1) := by decide +kernel
theorem dX6_centre_116 : decode cX6_centre 116 = .ok (.getfield 26, 3) := by decide +kernel
theorem dX6_centre_119 : decode cX6_centre 119 = .ok (.lload 4, 2) := by decide +kernel
theorem dX6_centre_121 : decode cX6_centre 121 = .ok (.lload_n 2, 1) := by decide +kernel
theorem dX6_centre_122 : decode cX6_centre 122 = .ok (.invokevirtual 167, 3) := by decide +kernel
theorem dX6_centre_125 : decode cX6_centre 125 = .ok (.iload_n 1, 1) := by decide +kernel
theorem dX6_centre_126 : decode cX6_centre 126 = .ok (.ireturn, 1) := by decide +kernel
theorem dX6_spare_0 : decode cX6_spare 0 = .ok (.aload_n 0, 1) := by decide +kernel
theorem dX6_spare_1 : decode cX6_spare 1 = .ok (.invokevirtual 275, 3) := by decide +kernel
theorem dX6_spare_4 : decode cX6_spare 4 = .ok (.lstore_n 1, 1) := by decide +kernel
theorem dX6_spare_5 : decode cX6_spare 5 = .ok (.aload_n 0, 1) := by decide +kernel
theorem dX6_spare_6 : decode cX6_spare 6 = .ok (.getfield 19, 3) := by decide +kernel
theorem dX6_spare_9 : decode cX6_spare 9 = .ok (.getfield 243, 3) := by decide +kernel
theorem dX6_spare_12 : decode cX6_spare 12 = .ok (.lstore_n 3, 1) := by decide +kernel
theorem dX6_spare_13 : decode cX6_spare 13 = .ok (.iconst 0, 1) := by decide +kernel
theorem dX6_spare_14 : decode cX6_spare 14 = .ok (.istore 5, 2) := by decide +kernel
theorem dX6_spare_16 : decode cX6_spare 16 = .ok (.iconst 0, 1) := by decide +kernel
theorem dX6_spare_17 : decode cX6_spare 17 = .ok (.istore 6, 2) := by decide +kernel
theorem dX6_spare_19 : decode cX6_spare 19 = .ok (.iload 6, 2) := by decide +kernel
theorem dX6_spare_21 : decode cX6_spare 21 = .ok (.aload_n 0, 1) := by decide +kernel
theorem dX6_spare_22 : decode cX6_spare 22 = .ok (.getfield 19, 3) := by decide +kernel
theorem dX6_spare_25 : decode cX6_spare 25 = .ok (.getfield 56, 3) := by decide +kernel
theorem dX6_spare_28 : decode cX6_spare 28 = .ok (.if_icmp .ge 84, 3) := by decide +kernel
theorem dX6_spare_31 : decode cX6_spare 31 = .ok (.aload_n 0, 1) := by decide +kernel
theorem dX6_spare_32 : decode cX6_spare 32 = .ok (.getfield 19, 3) := by decide +kernel
theorem dX6_spare_35 : decode cX6_spare 35 = .ok (.getfield 90, 3) := by decide +kernel
theorem dX6_spare_38 : decode cX6_spare 38 = .ok (.iload 6, 2) := by decide +kernel
theorem dX6_spare_40 : decode cX6_spare 40 = .ok (.aaload, 1) := by decide +kernel
theorem dX6_spare_41 : decode cX6_spare 41 = .ok (.astore 7, 2) := by decide +kernel
theorem dX6_spare_43 : decode cX6_spare 43 = .ok (.aload 7, 2) := by decide +kernel
theorem dX6_spare_45 : decode cX6_spare 45 = .ok (.getfield 94, 3) := by decide +kernel
theorem dX6_spare_48 : decode cX6_spare 48 = .ok (.ifCond .ne 58, 3) := by decide +kernel
theorem dX6_spare_51 : decode cX6_spare 51 = .ok (.aload 7, 2) := by decide +kernel
theorem dX6_spare_53 : decode cX6_spare 53 = .ok (.iconst 1, 1) := by decide +kernel
theorem dX6_spare_54 : decode cX6_spare 54 = .ok (.putfield 94, 3) := by decide +kernel
theorem dX6_spare_57 : decode cX6_spare 57 = .ok (.aload_n 0, 1) := by decide +kernel
theorem dX6_spare_58 : decode cX6_spare 58 = .ok (.getfield 19, 3) := by decide +kernel
theorem dX6_spare_61 : decode cX6_spare 61 = .ok (.invokevirtual 237, 3) := by decide +kernel
theorem dX6_spare_64 : decode cX6_spare 64 = .ok (.aload_n 0, 1) := by decide +kernel
theorem dX6_spare_65 : decode cX6_spare 65 = .ok (.getfield 19, 3) := by decide +kernel
theorem dX6_spare_68 : decode cX6_spare 68 = .ok (.getfield 250, 3) := by decide +kernel
theorem dX6_spare_71 : decode cX6_spare 71 = .ok (.lload_n 1, 1) := by decide +kernel
theorem dX6_spare_72 : decode cX6_spare 72 = .ok (.lcmp, 1) := by decide +kernel
theorem dX6_spare_73 : decode cX6_spare 73 = .ok (.ifCond .ne 27, 3) := by decide +kernel
theorem dX6_spare_76 : decode cX6_spare 76 = .ok (.aload_n 0, 1) := by decide +kernel
theorem dX6_spare_77 : decode cX6_spare 77 = .ok (.getfield 19, 3) := by decide +kernel
theorem dX6_spare_80 : decode cX6_spare 80 = .ok (.getfield 243, 3) := by decide +kernel
theorem dX6_spare_83 : decode cX6_spare 83 = .ok (.lload_n 3, 1) := by decide +kernel
theorem dX6_spare_84 : decode cX6_spare 84 = .ok (.lcmp, 1) := by decide +kernel
theorem dX6_spare_85 : decode cX6_spare 85 = .ok (.ifCond .ne 15, 3) := by decide +kernel
theorem dX6_spare_88 : decode cX6_spare 88 = .ok (.iload 5, 2) := by decide +kernel
theorem dX6_spare_90 : decode cX6_spare 90 = .ok (.iconst 1, 1) := by decide +kernel
theorem dX6_spare_91 : decode cX6_spare 91 = .ok (.iload 6, 2) := by decide +kernel
theorem dX6_spare_93 : decode cX6_spare 93 = .ok (.ishl, 1) := by decide +kernel
theorem dX6_spare_94 : decode cX6_spare 94 = .ok (.ior, 1) := by decide +kernel
theorem dX6_spare_95 : decode cX6_spare 95 = .ok (.istore 5, 2) := by decide +kernel
theorem dX6_spare_97 : decode cX6_spare 97 = .ok (.goto 9, 3) := by decide +kernel
theorem dX6_spare_100 : decode cX6_spare 100 = .ok (.aload 7, 2) := by decide +kernel
theorem dX6_spare_102 : decode cX6_spare 102 = .ok (.iconst 0, 1) := by decide +kernel
theorem dX6_spare_103 : decode cX6_spare 103 = .ok (.putfield 94, 3) := by decide +kernel
theorem dX6_spare_106 : decode cX6_spare 106 = .ok (.iinc 6 1, 3) := by decide +kernel
theorem dX6_spare_109 : decode cX6_spare 109 = .ok (.goto (-90), 3) := by decide +kernel
theorem dX6_spare_112 : decode cX6_spare 112 = .ok (.aload_n 0, 1) := by decide +kernel
theorem dX6_spare_113 : decode cX6_spare 113 = .ok (.getfield 19, 3) := by decide +kernel
theorem dX6_spare_116 : decode cX6_spare 116 = .ok (.iload 5, 2) := by decide +kernel
theorem dX6_spare_118 : decode cX6_spare 118 = .ok (.invokevirtual 302, 3) := by decide +kernel
theorem dX6_spare_121 : decode cX6_spare 121 = .ok (.aload_n 0, 1) := by decide +kernel
theorem dX6_spare_122 : decode cX6_spare 122 = .ok (.getfield 26, 3) := by decide +kernel
theorem dX6_spare_125 : decode cX6_spare 125 = .ok (.iload 5, 2) := by decide +kernel
theorem dX6_spare_127 : decode cX6_spare 127 = .ok (.invokestatic 104, 3) := by decide +kernel
theorem dX6_spare_130 : decode cX6_spare 130 = .ok (.i2l, 1) := by decide +kernel
theorem dX6_spare_131 : decode cX6_spare 131 = .ok (.invokevirtual 175, 3) := by decide +kernel
theorem dX6_spare_134 : decode cX6_spare 134 = .ok (.iload 5, 2) := by decide +kernel
theorem dX6_spare_136 : decode cX6_spare 136 = .ok (.ireturn, 1) := by decide +kernel
theorem dX6_offset_0 : decode cX6_offset 0 = .ok (.aload_n 0, 1) := by decide +kernel
theorem dX6_offset_1 : decode cX6_offset 1 = .ok (.getfield 19, 3) := by decide +kernel
theorem dX6_offset_4 : decode cX6_offset 4 = .ok (.iload_n 1, 1) := by decide +kernel
theorem dX6_offset_5 : decode cX6_offset 5 = .ok (.invokevirtual 65, 3) := by decide +kernel
theorem dX6_offset_8 : decode cX6_offset 8 = .ok (.ifCond .eq 13, 3) := by decide +kernel
theorem dX6_offset_11 : decode cX6_offset 11 = .ok (.iload_n 2, 1) := by decide +kernel
theorem dX6_offset_12 : decode cX6_offset 12 = .ok (.ifCond .lt 9, 3) := by decide +kernel
theorem dX6_offset_15 : decode cX6_offset 15 = .ok (.iload_n 2, 1) := by decide +kernel
theorem dX6_offset_16 : decode cX6_offset 16 = .ok (.bipush 59, 2) := by decide +kernel
theorem dX6_offset_18 : decode cX6_offset 18 = .ok (.if_icmp .le 5, 3) := by decide +kernel
theorem dX6_offset_21 : decode cX6_offset 21 = .ok (.iconst (-1), 1) := by decide +kernel
theorem dX6_offset_22 : decode cX6_offset 22 = .ok (.ireturn, 1) := by decide +kernel
theorem dX6_offset_23 : decode cX6_offset 23 = .ok (.aload_n 0, 1) := by decide +kernel
theorem dX6_offset_24 : decode cX6_offset 24 = .ok (.getfield 19, 3) := by decide +kernel
theorem dX6_offset_27 : decode cX6_offset 27 = .ok (.getfield 90, 3) := by decide +kernel
theorem dX6_offset_30 : decode cX6_offset 30 = .ok (.iload_n 1, 1) := by decide +kernel
theorem dX6_offset_31 : decode cX6_offset 31 = .ok (.aaload, 1) := by decide +kernel
theorem dX6_offset_32 : decode cX6_offset 32 = .ok (.getfield 125, 3) := by decide +kernel
theorem dX6_offset_35 : decode cX6_offset 35 = .ok (.istore_n 3, 1) := by decide +kernel
theorem dX6_offset_36 : decode cX6_offset 36 = .ok (.aload_n 0, 1) := by decide +kernel
theorem dX6_offset_37 : decode cX6_offset 37 = .ok (.getfield 19, 3) := by decide +kernel
theorem dX6_offset_40 : decode cX6_offset 40 = .ok (.getfield 90, 3) := by decide +kernel
theorem dX6_offset_43 : decode cX6_offset 43 = .ok (.iload_n 1, 1) := by decide +kernel
theorem dX6_offset_44 : decode cX6_offset 44 = .ok (.aaload, 1) := by decide +kernel
theorem dX6_offset_45 : decode cX6_offset 45 = .ok (.iload_n 2, 1) := by decide +kernel
theorem dX6_offset_46 : decode cX6_offset 46 = .ok (.putfield 125, 3) := by decide +kernel
theorem dX6_offset_49 : decode cX6_offset 49 = .ok (.iload_n 3, 1) := by decide +kernel
theorem dX6_offset_50 : decode cX6_offset 50 = .ok (.ireturn, 1) := by decide +kernel
theorem dX6_comes_0 : decode cX6_comes 0 = .ok (.aload_n 0, 1) := by decide +kernel
theorem dX6_comes_1 : decode cX6_comes 1 = .ok (.getfield 19, 3) := by decide +kernel
theorem dX6_comes_4 : decode cX6_comes 4 = .ok (.iload_n 1, 1) := by decide +kernel
theorem dX6_comes_5 : decode cX6_comes 5 = .ok (.iload_n 2, 1) := by decide +kernel
theorem dX6_comes_6 : decode cX6_comes 6 = .ok (.invokevirtual 132, 3) := by decide +kernel
theorem dX6_comes_9 : decode cX6_comes 9 = .ok (.ifCond .eq 10, 3) := by decide +kernel
theorem dX6_comes_12 : decode cX6_comes 12 = .ok (.iload_n 3, 1) := by decide +kernel
theorem dX6_comes_13 : decode cX6_comes 13 = .ok (.invokestatic 305, 3) := by decide +kernel
theorem dX6_comes_16 : decode cX6_comes 16 = .ok (.ifCond .ne 5, 3) := by decide +kernel
theorem dX6_comes_19 : decode cX6_comes 19 = .ok (.iconst (-1), 1) := by decide +kernel
theorem dX6_comes_20 : decode cX6_comes 20 = .ok (.ireturn, 1) := by decide +kernel
theorem dX6_comes_21 : decode cX6_comes 21 = .ok (.aload_n 0, 1) := by decide +kernel
theorem dX6_comes_22 : decode cX6_comes 22 = .ok (.getfield 19, 3) := by decide +kernel
theorem dX6_comes_25 : decode cX6_comes 25 = .ok (.getfield 90, 3) := by decide +kernel
theorem dX6_comes_28 : decode cX6_comes 28 = .ok (.iload_n 1, 1) := by decide +kernel
theorem dX6_comes_29 : decode cX6_comes 29 = .ok (.aaload, 1) := by decide +kernel
theorem dX6_comes_30 : decode cX6_comes 30 = .ok (.iload_n 2, 1) := by decide +kernel
theorem dX6_comes_31 : decode cX6_comes 31 = .ok (.iload_n 3, 1) := by decide +kernel
theorem dX6_comes_32 : decode cX6_comes 32 = .ok (.invokevirtual 308, 3) := by decide +kernel
theorem dX6_comes_35 : decode cX6_comes 35 = .ok (.ireturn, 1) := by decide +kernel
theorem dX6_journey_0 : decode cX6_journey 0 = .ok (.iload_n 1, 1) := by decide +kernel
theorem dX6_journey_1 : decode cX6_journey 1 = .ok (.invokestatic 75, 3) := by decide +kernel
theorem dX6_journey_4 : decode cX6_journey 4 = .ok (.ifCond .eq 10, 3) := by decide +kernel
theorem dX6_journey_7 : decode cX6_journey 7 = .ok (.iload_n 2, 1) := by decide +kernel
theorem dX6_journey_8 : decode cX6_journey 8 = .ok (.invokestatic 305, 3) := by decide +kernel
theorem dX6_journey_11 : decode cX6_journey 11 = .ok (.ifCond .ne 5, 3) := by decide +kernel
theorem dX6_journey_14 : decode cX6_journey 14 = .ok (.iconst (-1), 1) := by decide +kernel
theorem dX6_journey_15 : decode cX6_journey 15 = .ok (.ireturn, 1) := by decide +kernel
theorem dX6_journey_16 : decode cX6_journey 16 = .ok (.aload_n 0, 1) := by decide +kernel
theorem dX6_journey_17 : decode cX6_journey 17 = .ok (.getfield 19, 3) := by decide +kernel
theorem dX6_journey_20 : decode cX6_journey 20 = .ok (.invokevirtual 155, 3) := by decide +kernel
theorem dX6_journey_23 : decode cX6_journey 23 = .ok (.aload_n 0, 1) := by decide +kernel
theorem dX6_journey_24 : decode cX6_journey 24 = .ok (.getfield 19, 3) := by decide +kernel
theorem dX6_journey_27 : decode cX6_journey 27 = .ok (.getfield 81, 3) := by decide +kernel
theorem dX6_journey_30 : decode cX6_journey 30 = .ok (.iload_n 1, 1) := by decide +kernel
theorem dX6_journey_31 : decode cX6_journey 31 = .ok (.aaload, 1) := by decide +kernel
theorem dX6_journey_32 : decode cX6_journey 32 = .ok (.getfield 158, 3) := by decide +kernel
theorem dX6_journey_35 : decode cX6_journey 35 = .ok (.iconst (-1), 1) := by decide +kernel
theorem dX6_journey_36 : decode cX6_journey 36 = .ok (.if_icmp .ne 6, 3) := by decide +kernel
theorem dX6_journey_39 : decode cX6_journey 39 = .ok (.bipush (-2), 2) := by decide +kernel
theorem dX6_journey_41 : decode cX6_journey 41 = .ok (.ireturn, 1) := by decide +kernel
theorem dX6_journey_42 : decode cX6_journey 42 = .ok (.aload_n 0, 1) := by decide +kernel
theorem dX6_journey_43 : decode cX6_journey 43 = .ok (.getfield 33, 3) := by decide +kernel
theorem dX6_journey_46 : decode cX6_journey 46 = .ok (.aload_n 0, 1) := by decide +kernel
theorem dX6_journey_47 : decode cX6_journey 47 = .ok (.getfield 19, 3) := by decide +kernel
theorem dX6_journey_50 : decode cX6_journey 50 = .ok (.iload_n 1, 1) := by decide +kernel
theorem dX6_journey_51 : decode cX6_journey 51 = .ok (.iload_n 2, 1) := by decide +kernel
theorem dX6_journey_52 : decode cX6_journey 52 = .ok (.invokevirtual 312, 3) := by decide +kernel
theorem dX6_journey_55 : decode cX6_journey 55 = .ok (.istore_n 3, 1) := by decide +kernel
theorem dX6_journey_56 : decode cX6_journey 56 = .ok (.aload_n 0, 1) := by decide +kernel
theorem dX6_journey_57 : decode cX6_journey 57 = .ok (.getfield 26, 3) := by decide +kernel
theorem dX6_journey_60 : decode cX6_journey 60 = .ok (.invokevirtual 136, 3) := by decide +kernel
theorem dX6_journey_63 : decode cX6_journey 63 = .ok (.iconst 0, 1) := by decide +kernel
theorem dX6_journey_64 : decode cX6_journey 64 = .ok (.istore 4, 2) := by decide +kernel
theorem dX6_journey_66 : decode cX6_journey 66 = .ok (.iload 4, 2) := by decide +kernel
theorem dX6_journey_68 : decode cX6_journey 68 = .ok (.aload_n 0, 1) := by decide +kernel
theorem dX6_journey_69 : decode cX6_journey 69 = .ok (.getfield 33, 3) := by decide +kernel
theorem dX6_journey_72 : decode cX6_journey 72 = .ok (.getfield 316, 3) := by decide +kernel
theorem dX6_journey_75 : decode cX6_journey 75 = .ok (.if_icmp .ge 45, 3) := by decide +kernel
theorem dX6_journey_78 : decode cX6_journey 78 = .ok (.aload_n 0, 1) := by decide +kernel
theorem dX6_journey_79 : decode cX6_journey 79 = .ok (.getfield 26, 3) := by decide +kernel
theorem dX6_journey_82 : decode cX6_journey 82 = .ok (.aload_n 0, 1) := by decide +kernel
theorem dX6_journey_83 : decode cX6_journey 83 = .ok (.getfield 33, 3) := by decide +kernel
theorem dX6_journey_86 : decode cX6_journey 86 = .ok (.getfield 319, 3) := by decide +kernel
theorem dX6_journey_89 : decode cX6_journey 89 = .ok (.iload 4, 2) := by decide +kernel
theorem dX6_journey_91 : decode cX6_journey 91 = .ok (.iaload, 1) := by decide +kernel
theorem dX6_journey_92 : decode cX6_journey 92 = .ok (.i2l, 1) := by decide +kernel
theorem dX6_journey_93 : decode cX6_journey 93 = .ok (.invokevirtual 146, 3) := by decide +kernel
theorem dX6_journey_96 : decode cX6_journey 96 = .ok (.aload_n 0, 1) := by decide +kernel
theorem dX6_journey_97 : decode cX6_journey 97 = .ok (.getfield 26, 3) := by decide +kernel
theorem dX6_journey_100 : decode cX6_journey 100 = .ok (.aload_n 0, 1) := by decide +kernel
theorem dX6_journey_101 : decode cX6_journey 101 = .ok (.getfield 33, 3) := by decide +kernel
theorem dX6_journey_104 : decode cX6_journey 104 = .ok (.getfield 320, 3) := by decide +kernel
theorem dX6_journey_107 : decode cX6_journey 107 = .ok (.iload 4, 2) := by decide +kernel
theorem dX6_journey_109 : decode cX6_journey 109 = .ok (.iaload, 1) := by decide +kernel
theorem dX6_journey_110 : decode cX6_journey 110 = .ok (.i2l, 1) := by decide +kernel
theorem dX6_journey_111 : decode cX6_journey 111 = .ok (.invokevirtual 146, 3) := by decide +kernel
theorem dX6_journey_114 : decode cX6_journey 114 = .ok (.iinc 4 1, 3) := by decide +kernel
theorem dX6_journey_117 : decode cX6_journey 117 = .ok (.goto (-51), 3) := by decide +kernel
theorem dX6_journey_120 : decode cX6_journey 120 = .ok (.iload_n 3, 1) := by decide +kernel
theorem dX6_journey_121 : decode cX6_journey 121 = .ok (.ireturn, 1) := by decide +kernel
theorem dX6_usual_0 : decode cX6_usual 0 = .ok (.iload_n 1, 1) := by decide +kernel
theorem dX6_usual_1 : decode cX6_usual 1 = .ok (.invokestatic 75, 3) := by decide +kernel
theorem dX6_usual_4 : decode cX6_usual 4 = .ok (.ifCond .eq 14, 3) := by decide +kernel
theorem dX6_usual_7 : decode cX6_usual 7 = .ok (.iload_n 2, 1) := by decide +kernel
theorem dX6_usual_8 : decode cX6_usual 8 = .ok (.iconst 1, 1) := by decide +kernel
theorem dX6_usual_9 : decode cX6_usual 9 = .ok (.if_icmp .lt 9, 3) := by decide +kernel
theorem dX6_usual_12 : decode cX6_usual 12 = .ok (.iload_n 2, 1) := by decide +kernel
theorem dX6_usual_13 : decode cX6_usual 13 = .ok (.bipush 60, 2) := by decide +kernel
theorem dX6_usual_15 : decode cX6_usual 15 = .ok (.if_icmp .le 5, 3) := by decide +kernel
theorem dX6_usual_18 : decode cX6_usual 18 = .ok (.iconst (-1), 1) := by decide +kernel
theorem dX6_usual_19 : decode cX6_usual 19 = .ok (.ireturn, 1) := by decide +kernel
theorem dX6_usual_20 : decode cX6_usual 20 = .ok (.aload_n 0, 1) := by decide +kernel
theorem dX6_usual_21 : decode cX6_usual 21 = .ok (.getfield 19, 3) := by decide +kernel
theorem dX6_usual_24 : decode cX6_usual 24 = .ok (.invokevirtual 155, 3) := by decide +kernel
theorem dX6_usual_27 : decode cX6_usual 27 = .ok (.aload_n 0, 1) := by decide +kernel
theorem dX6_usual_28 : decode cX6_usual 28 = .ok (.getfield 19, 3) := by decide +kernel
theorem dX6_usual_31 : decode cX6_usual 31 = .ok (.getfield 81, 3) := by decide +kernel
theorem dX6_usual_34 : decode cX6_usual 34 = .ok (.iload_n 1, 1) := by decide +kernel
theorem dX6_usual_35 : decode cX6_usual 35 = .ok (.aaload, 1) := by decide +kernel
theorem dX6_usual_36 : decode cX6_usual 36 = .ok (.getfield 158, 3) := by decide +kernel
theorem dX6_usual_39 : decode cX6_usual 39 = .ok (.iconst (-1), 1) := by decide +kernel
theorem dX6_usual_40 : decode cX6_usual 40 = .ok (.if_icmp .ne 6, 3) := by decide +kernel
theorem dX6_usual_43 : decode cX6_usual 43 = .ok (.bipush (-2), 2) := by decide +kernel
theorem dX6_usual_45 : decode cX6_usual 45 = .ok (.ireturn, 1) := by decide +kernel
theorem dX6_usual_46 : decode cX6_usual 46 = .ok (.lconst 0, 1) := by decide +kernel
theorem dX6_usual_47 : decode cX6_usual 47 = .ok (.lstore_n 3, 1) := by decide +kernel
theorem dX6_usual_48 : decode cX6_usual 48 = .ok (.ldc 171, 2) := by decide +kernel
theorem dX6_usual_50 : decode cX6_usual 50 = .ok (.istore 5, 2) := by decide +kernel
theorem dX6_usual_52 : decode cX6_usual 52 = .ok (.iconst 0, 1) := by decide +kernel
theorem dX6_usual_53 : decode cX6_usual 53 = .ok (.istore 6, 2) := by decide +kernel
theorem dX6_usual_55 : decode cX6_usual 55 = .ok (.iconst 0, 1) := by decide +kernel
theorem dX6_usual_56 : decode cX6_usual 56 = .ok (.istore 7, 2) := by decide +kernel
theorem dX6_usual_58 : decode cX6_usual 58 = .ok (.iload 7, 2) := by decide +kernel
theorem dX6_usual_60 : decode cX6_usual 60 = .ok (.iload_n 2, 1) := by decide +kernel
theorem dX6_usual_61 : decode cX6_usual 61 = .ok (.if_icmp .ge 52, 3) := by decide +kernel
theorem dX6_usual_64 : decode cX6_usual 64 = .ok (.aload_n 0, 1) := by decide +kernel
theorem dX6_usual_65 : decode cX6_usual 65 = .ok (.getfield 33, 3) := by decide +kernel
theorem dX6_usual_68 : decode cX6_usual 68 = .ok (.aload_n 0, 1) := by decide +kernel
theorem dX6_usual_69 : decode cX6_usual 69 = .ok (.getfield 19, 3) := by decide +kernel
theorem dX6_usual_72 : decode cX6_usual 72 = .ok (.iload_n 1, 1) := by decide +kernel
theorem dX6_usual_73 : decode cX6_usual 73 = .ok (.bipush 100, 2) := by decide +kernel
theorem dX6_usual_75 : decode cX6_usual 75 = .ok (.iload 7, 2) := by decide +kernel
theorem dX6_usual_77 : decode cX6_usual 77 = .ok (.imul, 1) := by decide +kernel
theorem dX6_usual_78 : decode cX6_usual 78 = .ok (.invokevirtual 312, 3) := by decide +kernel
theorem dX6_usual_81 : decode cX6_usual 81 = .ok (.istore 8, 2) := by decide +kernel
theorem dX6_usual_83 : decode cX6_usual 83 = .ok (.lload_n 3, 1) := by decide +kernel
theorem dX6_usual_84 : decode cX6_usual 84 = .ok (.iload 8, 2) := by decide +kernel
theorem dX6_usual_86 : decode cX6_usual 86 = .ok (.i2l, 1) := by decide +kernel
theorem dX6_usual_87 : decode cX6_usual 87 = .ok (.ladd, 1) := by decide +kernel
theorem dX6_usual_88 : decode cX6_usual 88 = .ok (.lstore_n 3, 1) := by decide +kernel
theorem dX6_usual_89 : decode cX6_usual 89 = .ok (.iload 5, 2) := by decide +kernel
theorem dX6_usual_91 : decode cX6_usual 91 = .ok (.iload 8, 2) := by decide +kernel
theorem dX6_usual_93 : decode cX6_usual 93 = .ok (.invokestatic 321, 3) := by decide +kernel
theorem dX6_usual_96 : decode cX6_usual 96 = .ok (.istore 5, 2) := by decide +kernel
theorem dX6_usual_98 : decode cX6_usual 98 = .ok (.iload 6, 2) := by decide +kernel
theorem dX6_usual_100 : decode cX6_usual 100 = .ok (.iload 8, 2) := by decide +kernel
theorem dX6_usual_102 : decode cX6_usual 102 = .ok (.invokestatic 326, 3) := by decide +kernel
theorem dX6_usual_105 : decode cX6_usual 105 = .ok (.istore 6, 2) := by decide +kernel
theorem dX6_usual_107 : decode cX6_usual 107 = .ok (.iinc 7 1, 3) := by decide +kernel
theorem dX6_usual_110 : decode cX6_usual 110 = .ok (.goto (-52), 3) := by decide +kernel
theorem dX6_usual_113 : decode cX6_usual 113 = .ok (.aload_n 0, 1) := by decide +kernel
theorem dX6_usual_114 : decode cX6_usual 114 = .ok (.getfield 26, 3) := by decide +kernel
theorem dX6_usual_117 : decode cX6_usual 117 = .ok (.iload 5, 2) := by decide +kernel
theorem dX6_usual_119 : decode cX6_usual 119 = .ok (.i2l, 1) := by decide +kernel
theorem dX6_usual_120 : decode cX6_usual 120 = .ok (.iload 6, 2) := by decide +kernel
theorem dX6_usual_122 : decode cX6_usual 122 = .ok (.i2l, 1) := by decide +kernel
theorem dX6_usual_123 : decode cX6_usual 123 = .ok (.invokevirtual 167, 3) := by decide +kernel
theorem dX6_usual_126 : decode cX6_usual 126 = .ok (.lload_n 3, 1) := by decide +kernel
theorem dX6_usual_127 : decode cX6_usual 127 = .ok (.iload_n 2, 1) := by decide +kernel
theorem dX6_usual_128 : decode cX6_usual 128 = .ok (.i2l, 1) := by decide +kernel
theorem dX6_usual_129 : decode cX6_usual 129 = .ok (.invokestatic 206, 3) := by decide +kernel
theorem dX6_usual_132 : decode cX6_usual 132 = .ok (.l2i, 1) := by decide +kernel
theorem dX6_usual_133 : decode cX6_usual 133 = .ok (.ireturn, 1) := by decide +kernel
theorem dX6_count_0 : decode cX6_count 0 = .ok (.iload_n 1, 1) := by decide +kernel
theorem dX6_count_1 : decode cX6_count 1 = .ok (.tableswitch 187 0 12 #[67, 75, 83, 91, 99, 107, 115, 123, 131, 139, 147, 155, 170], 67) := by decide +kernel
theorem dX6_count_68 : decode cX6_count 68 = .ok (.aload_n 0, 1) := by decide +kernel
theorem dX6_count_69 : decode cX6_count 69 = .ok (.getfield 19, 3) := by decide +kernel
theorem dX6_count_72 : decode cX6_count 72 = .ok (.getfield 56, 3) := by decide +kernel
theorem dX6_count_75 : decode cX6_count 75 = .ok (.ireturn, 1) := by decide +kernel
theorem dX6_count_76 : decode cX6_count 76 = .ok (.aload_n 0, 1) := by decide +kernel
theorem dX6_count_77 : decode cX6_count 77 = .ok (.getfield 19, 3) := by decide +kernel
theorem dX6_count_80 : decode cX6_count 80 = .ok (.getfield 72, 3) := by decide +kernel
theorem dX6_count_83 : decode cX6_count 83 = .ok (.ireturn, 1) := by decide +kernel
theorem dX6_count_84 : decode cX6_count 84 = .ok (.aload_n 0, 1) := by decide +kernel
theorem dX6_count_85 : decode cX6_count 85 = .ok (.getfield 19, 3) := by decide +kernel
theorem dX6_count_88 : decode cX6_count 88 = .ok (.getfield 78, 3) := by decide +kernel
theorem dX6_count_91 : decode cX6_count 91 = .ok (.ireturn, 1) := by decide +kernel
theorem dX6_count_92 : decode cX6_count 92 = .ok (.aload_n 0, 1) := by decide +kernel
theorem dX6_count_93 : decode cX6_count 93 = .ok (.getfield 19, 3) := by decide +kernel
theorem dX6_count_96 : decode cX6_count 96 = .ok (.invokevirtual 329, 3) := by decide +kernel
theorem dX6_count_99 : decode cX6_count 99 = .ok (.ireturn, 1) := by decide +kernel
theorem dX6_count_100 : decode cX6_count 100 = .ok (.aload_n 0, 1) := by decide +kernel
theorem dX6_count_101 : decode cX6_count 101 = .ok (.getfield 19, 3) := by decide +kernel
theorem dX6_count_104 : decode cX6_count 104 = .ok (.getfield 256, 3) := by decide +kernel
theorem dX6_count_107 : decode cX6_count 107 = .ok (.ireturn, 1) := by decide +kernel
theorem dX6_count_108 : decode cX6_count 108 = .ok (.aload_n 0, 1) := by decide +kernel
theorem dX6_count_109 : decode cX6_count 109 = .ok (.getfield 19, 3) := by decide +kernel
theorem dX6_count_112 : decode cX6_count 112 = .ok (.getfield 262, 3) := by decide +kernel
theorem dX6_count_115 : decode cX6_count 115 = .ok (.ireturn, 1) := by decide +kernel
theorem dX6_count_116 : decode cX6_count 116 = .ok (.aload_n 0, 1) := by decide +kernel
theorem dX6_count_117 : decode cX6_count 117 = .ok (.getfield 19, 3) := by decide +kernel
theorem dX6_count_120 : decode cX6_count 120 = .ok (.invokevirtual 332, 3) := by decide +kernel
theorem dX6_count_123 : decode cX6_count 123 = .ok (.ireturn, 1) := by decide +kernel
theorem dX6_count_124 : decode cX6_count 124 = .ok (.aload_n 0, 1) := by decide +kernel
theorem dX6_count_125 : decode cX6_count 125 = .ok (.getfield 19, 3) := by decide +kernel
theorem dX6_count_128 : decode cX6_count 128 = .ok (.invokevirtual 113, 3) := by decide +kernel
theorem dX6_count_131 : decode cX6_count 131 = .ok (.ireturn, 1) := by decide +kernel
theorem dX6_count_132 : decode cX6_count 132 = .ok (.aload_n 0, 1) := by decide +kernel
theorem dX6_count_133 : decode cX6_count 133 = .ok (.getfield 19, 3) := by decide +kernel
theorem dX6_count_136 : decode cX6_count 136 = .ok (.invokevirtual 100, 3) := by decide +kernel
theorem dX6_count_139 : decode cX6_count 139 = .ok (.ireturn, 1) := by decide +kernel
theorem dX6_count_140 : decode cX6_count 140 = .ok (.aload_n 0, 1) := by decide +kernel
theorem dX6_count_141 : decode cX6_count 141 = .ok (.getfield 26, 3) := by decide +kernel
theorem dX6_count_144 : decode cX6_count 144 = .ok (.getfield 335, 3) := by decide +kernel
theorem dX6_count_147 : decode cX6_count 147 = .ok (.ireturn, 1) := by decide +kernel
theorem dX6_count_148 : decode cX6_count 148 = .ok (.aload_n 0, 1) := by decide +kernel
theorem dX6_count_149 : decode cX6_count 149 = .ok (.getfield 10, 3) := by decide +kernel
theorem dX6_count_152 : decode cX6_count 152 = .ok (.getfield 41, 3) := by decide +kernel
theorem dX6_count_155 : decode cX6_count 155 = .ok (.ireturn, 1) := by decide +kernel
theorem dX6_count_156 : decode cX6_count 156 = .ok (.aload_n 0, 1) := by decide +kernel
theorem dX6_count_157 : decode cX6_count 157 = .ok (.getfield 19, 3) := by decide +kernel
theorem dX6_count_160 : decode cX6_count 160 = .ok (.invokevirtual 155, 3) := by decide +kernel
theorem dX6_count_163 : decode cX6_count 163 = .ok (.aload_n 0, 1) := by decide +kernel
theorem dX6_count_164 : decode cX6_count 164 = .ok (.getfield 19, 3) := by decide +kernel
theorem dX6_count_167 : decode cX6_count 167 = .ok (.invokevirtual 338, 3) := by decide +kernel
theorem dX6_count_170 : decode cX6_count 170 = .ok (.ireturn, 1) := by decide +kernel
theorem dX6_count_171 : decode cX6_count 171 = .ok (.aload_n 0, 1) := by decide +kernel
theorem dX6_count_172 : decode cX6_count 172 = .ok (.getfield 19, 3) := by decide +kernel
theorem dX6_count_175 : decode cX6_count 175 = .ok (.invokevirtual 155, 3) := by decide +kernel
theorem dX6_count_178 : decode cX6_count 178 = .ok (.aload_n 0, 1) := by decide +kernel
theorem dX6_count_179 : decode cX6_count 179 = .ok (.getfield 19, 3) := by decide +kernel
theorem dX6_count_182 : decode cX6_count 182 = .ok (.ldc 171, 2) := by decide +kernel
theorem dX6_count_184 : decode cX6_count 184 = .ok (.invokevirtual 172, 3) := by decide +kernel
theorem dX6_count_187 : decode cX6_count 187 = .ok (.ireturn, 1) := by decide +kernel
theorem dX6_count_188 : decode cX6_count 188 = .ok (.iconst (-1), 1) := by decide +kernel
theorem dX6_count_189 : decode cX6_count 189 = .ok (.ireturn, 1) := by decide +kernel
theorem dX6_row_0 : decode cX6_row 0 = .ok (.iload_n 1, 1) := by decide +kernel
theorem dX6_row_1 : decode cX6_row 1 = .ok (.ifCond .lt 14, 3) := by decide +kernel
theorem dX6_row_4 : decode cX6_row 4 = .ok (.iload_n 1, 1) := by decide +kernel
theorem dX6_row_5 : decode cX6_row 5 = .ok (.aload_n 0, 1) := by decide +kernel
theorem dX6_row_6 : decode cX6_row 6 = .ok (.getfield 26, 3) := by decide +kernel
theorem dX6_row_9 : decode cX6_row 9 = .ok (.getfield 335, 3) := by decide +kernel
theorem dX6_row_12 : decode cX6_row 12 = .ok (.if_icmp .lt 14, 3) := by decide +kernel
theorem dX6_row_15 : decode cX6_row 15 = .ok (.new 341, 3) := by decide +kernel
theorem dX6_row_18 : decode cX6_row 18 = .ok (.dup, 1) := by decide +kernel
theorem dX6_row_19 : decode cX6_row 19 = .ok (.ldc_w 343, 3) := by decide +kernel
theorem dX6_row_22 : decode cX6_row 22 = .ok (.invokespecial 345, 3) := by decide +kernel
theorem dX6_row_25 : decode cX6_row 25 = .ok (.athrow, 1) := by decide +kernel
theorem dX6_row_26 : decode cX6_row 26 = .ok (.aload_n 0, 1) := by decide +kernel
theorem dX6_row_27 : decode cX6_row 27 = .ok (.getfield 26, 3) := by decide +kernel
theorem dX6_row_30 : decode cX6_row 30 = .ok (.getfield 348, 3) := by decide +kernel
theorem dX6_row_33 : decode cX6_row 33 = .ok (.iload_n 1, 1) := by decide +kernel
theorem dX6_row_34 : decode cX6_row 34 = .ok (.laload, 1) := by decide +kernel
theorem dX6_row_35 : decode cX6_row 35 = .ok (.lreturn, 1) := by decide +kernel
theorem dX6_totalNow_0 : decode cX6_totalNow 0 = .ok (.aload_n 0, 1) := by decide +kernel
theorem dX6_totalNow_1 : decode cX6_totalNow 1 = .ok (.getfield 19, 3) := by decide +kernel
theorem dX6_totalNow_4 : decode cX6_totalNow 4 = .ok (.invokevirtual 237, 3) := by decide +kernel
theorem dX6_totalNow_7 : decode cX6_totalNow 7 = .ok (.aload_n 0, 1) := by decide +kernel
theorem dX6_totalNow_8 : decode cX6_totalNow 8 = .ok (.getfield 19, 3) := by decide +kernel
theorem dX6_totalNow_11 : decode cX6_totalNow 11 = .ok (.getfield 250, 3) := by decide +kernel
theorem dX6_totalNow_14 : decode cX6_totalNow 14 = .ok (.lreturn, 1) := by decide +kernel
theorem dX6_tellDifference_0 : decode cX6_tellDifference 0 = .ok (.aload_n 0, 1) := by decide +kernel
theorem dX6_tellDifference_1 : decode cX6_tellDifference 1 = .ok (.getfield 26, 3) := by decide +kernel
theorem dX6_tellDifference_4 : decode cX6_tellDifference 4 = .ok (.aload_n 0, 1) := by decide +kernel
theorem dX6_tellDifference_5 : decode cX6_tellDifference 5 = .ok (.getfield 19, 3) := by decide +kernel
theorem dX6_tellDifference_8 : decode cX6_tellDifference 8 = .ok (.getfield 250, 3) := by decide +kernel
theorem dX6_tellDifference_11 : decode cX6_tellDifference 11 = .ok (.lload_n 1, 1) := by decide +kernel
theorem dX6_tellDifference_12 : decode cX6_tellDifference 12 = .ok (.lsub, 1) := by decide +kernel
theorem dX6_tellDifference_13 : decode cX6_tellDifference 13 = .ok (.aload_n 0, 1) := by decide +kernel
theorem dX6_tellDifference_14 : decode cX6_tellDifference 14 = .ok (.getfield 19, 3) := by decide +kernel
theorem dX6_tellDifference_17 : decode cX6_tellDifference 17 = .ok (.getfield 243, 3) := by decide +kernel
theorem dX6_tellDifference_20 : decode cX6_tellDifference 20 = .ok (.invokevirtual 167, 3) := by decide +kernel
theorem dX6_tellDifference_23 : decode cX6_tellDifference 23 = .ok (.aload_n 0, 1) := by decide +kernel
theorem dX6_tellDifference_24 : decode cX6_tellDifference 24 = .ok (.getfield 19, 3) := by decide +kernel
theorem dX6_tellDifference_27 : decode cX6_tellDifference 27 = .ok (.getfield 250, 3) := by decide +kernel
theorem dX6_tellDifference_30 : decode cX6_tellDifference 30 = .ok (.lreturn, 1) := by decide +kernel
theorem dX6_findTotalTowards_0 : decode cX6_findTotalTowards 0 = .ok (.aload_n 0, 1) := by decide +kernel
theorem dX6_findTotalTowards_1 : decode cX6_findTotalTowards 1 = .ok (.getfield 19, 3) := by decide +kernel
theorem dX6_findTotalTowards_4 : decode cX6_findTotalTowards 4 = .ok (.getfield 78, 3) := by decide +kernel
theorem dX6_findTotalTowards_7 : decode cX6_findTotalTowards 7 = .ok (.istore_n 2, 1) := by decide +kernel
theorem dX6_findTotalTowards_8 : decode cX6_findTotalTowards 8 = .ok (.aload_n 0, 1) := by decide +kernel
theorem dX6_findTotalTowards_9 : decode cX6_findTotalTowards 9 = .ok (.getfield 19, 3) := by decide +kernel
theorem dX6_findTotalTowards_12 : decode cX6_findTotalTowards 12 = .ok (.iload_n 1, 1) := by decide +kernel
theorem dX6_findTotalTowards_13 : decode cX6_findTotalTowards 13 = .ok (.putfield 78, 3) := by decide +kernel
theorem dX6_findTotalTowards_16 : decode cX6_findTotalTowards 16 = .ok (.aload_n 0, 1) := by decide +kernel
theorem dX6_findTotalTowards_17 : decode cX6_findTotalTowards 17 = .ok (.getfield 19, 3) := by decide +kernel
theorem dX6_findTotalTowards_20 : decode cX6_findTotalTowards 20 = .ok (.invokevirtual 237, 3) := by decide +kernel
theorem dX6_findTotalTowards_23 : decode cX6_findTotalTowards 23 = .ok (.aload_n 0, 1) := by decide +kernel
theorem dX6_findTotalTowards_24 : decode cX6_findTotalTowards 24 = .ok (.getfield 19, 3) := by decide +kernel
theorem dX6_findTotalTowards_27 : decode cX6_findTotalTowards 27 = .ok (.iload_n 2, 1) := by decide +kernel
theorem dX6_findTotalTowards_28 : decode cX6_findTotalTowards 28 = .ok (.putfield 78, 3) := by decide +kernel
theorem dX6_findTotalTowards_31 : decode cX6_findTotalTowards 31 = .ok (.return_, 1) := by decide +kernel
theorem dX6_findTotalWithMore_0 : decode cX6_findTotalWithMore 0 = .ok (.aload_n 1, 1) := by decide +kernel
theorem dX6_findTotalWithMore_1 : decode cX6_findTotalWithMore 1 = .ok (.dup, 1) := by decide +kernel
theorem dX6_findTotalWithMore_2 : decode cX6_findTotalWithMore 2 = .ok (.getfield 116, 3) := by decide +kernel
theorem dX6_findTotalWithMore_5 : decode cX6_findTotalWithMore 5 = .ok (.iload_n 2, 1) := by decide +kernel
theorem dX6_findTotalWithMore_6 : decode cX6_findTotalWithMore 6 = .ok (.iadd, 1) := by decide +kernel
theorem dX6_findTotalWithMore_7 : decode cX6_findTotalWithMore 7 = .ok (.putfield 116, 3) := by decide +kernel
theorem dX6_findTotalWithMore_10 : decode cX6_findTotalWithMore 10 = .ok (.aload_n 0, 1) := by decide +kernel
theorem dX6_findTotalWithMore_11 : decode cX6_findTotalWithMore 11 = .ok (.getfield 19, 3) := by decide +kernel
theorem dX6_findTotalWithMore_14 : decode cX6_findTotalWithMore 14 = .ok (.invokevirtual 237, 3) := by decide +kernel
theorem dX6_findTotalWithMore_17 : decode cX6_findTotalWithMore 17 = .ok (.aload_n 1, 1) := by decide +kernel
theorem dX6_findTotalWithMore_18 : decode cX6_findTotalWithMore 18 = .ok (.dup, 1) := by decide +kernel
theorem dX6_findTotalWithMore_19 : decode cX6_findTotalWithMore 19 = .ok (.getfield 116, 3) := by decide +kernel
theorem dX6_findTotalWithMore_22 : decode cX6_findTotalWithMore 22 = .ok (.iload_n 2, 1) := by decide +kernel
theorem dX6_findTotalWithMore_23 : decode cX6_findTotalWithMore 23 = .ok (.isub, 1) := by decide +kernel
theorem dX6_findTotalWithMore_24 : decode cX6_findTotalWithMore 24 = .ok (.putfield 116, 3) := by decide +kernel
theorem dX6_findTotalWithMore_27 : decode cX6_findTotalWithMore 27 = .ok (.return_, 1) := by decide +kernel
theorem dX6_canBeMore_0 : decode cX6_canBeMore 0 = .ok (.iload_n 1, 1) := by decide +kernel
theorem dX6_canBeMore_1 : decode cX6_canBeMore 1 = .ok (.bipush (-59), 2) := by decide +kernel
theorem dX6_canBeMore_3 : decode cX6_canBeMore 3 = .ok (.if_icmp .lt 9, 3) := by decide +kernel
