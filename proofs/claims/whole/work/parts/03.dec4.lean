theorem dX12_copyDigits_68 : decode cX12_copyDigits 68 = .ok (.aload_n 0, 1) := by decide +kernel
theorem dX12_copyDigits_69 : decode cX12_copyDigits 69 = .ok (.iload_n 1, 1) := by decide +kernel
theorem dX12_copyDigits_70 : decode cX12_copyDigits 70 = .ok (.iload_n 2, 1) := by decide +kernel
theorem dX12_copyDigits_71 : decode cX12_copyDigits 71 = .ok (.aload_n 0, 1) := by decide +kernel
theorem dX12_copyDigits_72 : decode cX12_copyDigits 72 = .ok (.getfield 35, 3) := by decide +kernel
theorem dX12_copyDigits_75 : decode cX12_copyDigits 75 = .ok (.bipush 13, 2) := by decide +kernel
theorem dX12_copyDigits_77 : decode cX12_copyDigits 77 = .ok (.iload_n 2, 1) := by decide +kernel
theorem dX12_copyDigits_78 : decode cX12_copyDigits 78 = .ok (.iadd, 1) := by decide +kernel
theorem dX12_copyDigits_79 : decode cX12_copyDigits 79 = .ok (.iaload, 1) := by decide +kernel
theorem dX12_copyDigits_80 : decode cX12_copyDigits 80 = .ok (.i2l, 1) := by decide +kernel
theorem dX12_copyDigits_81 : decode cX12_copyDigits 81 = .ok (.invokevirtual 346, 3) := by decide +kernel
theorem dX12_copyDigits_84 : decode cX12_copyDigits 84 = .ok (.pop, 1) := by decide +kernel
theorem dX12_copyDigits_85 : decode cX12_copyDigits 85 = .ok (.iinc 2 1, 3) := by decide +kernel
theorem dX12_copyDigits_88 : decode cX12_copyDigits 88 = .ok (.goto (-28), 3) := by decide +kernel
theorem dX12_copyDigits_91 : decode cX12_copyDigits 91 = .ok (.aload_n 0, 1) := by decide +kernel
theorem dX12_copyDigits_92 : decode cX12_copyDigits 92 = .ok (.invokevirtual 301, 3) := by decide +kernel
theorem dX12_copyDigits_95 : decode cX12_copyDigits 95 = .ok (.ireturn, 1) := by decide +kernel
theorem dX12_besideOf_0 : decode cX12_besideOf 0 = .ok (.iload_n 1, 1) := by decide +kernel
theorem dX12_besideOf_1 : decode cX12_besideOf 1 = .ok (.aload_n 0, 1) := by decide +kernel
theorem dX12_besideOf_2 : decode cX12_besideOf 2 = .ok (.getfield 35, 3) := by decide +kernel
theorem dX12_besideOf_5 : decode cX12_besideOf 5 = .ok (.iconst 2, 1) := by decide +kernel
theorem dX12_besideOf_6 : decode cX12_besideOf 6 = .ok (.iaload, 1) := by decide +kernel
theorem dX12_besideOf_7 : decode cX12_besideOf 7 = .ok (.irem, 1) := by decide +kernel
theorem dX12_besideOf_8 : decode cX12_besideOf 8 = .ok (.istore_n 3, 1) := by decide +kernel
theorem dX12_besideOf_9 : decode cX12_besideOf 9 = .ok (.iload_n 2, 1) := by decide +kernel
theorem dX12_besideOf_10 : decode cX12_besideOf 10 = .ok (.iconst 1, 1) := by decide +kernel
theorem dX12_besideOf_11 : decode cX12_besideOf 11 = .ok (.if_icmp .ne 15, 3) := by decide +kernel
theorem dX12_besideOf_14 : decode cX12_besideOf 14 = .ok (.iload_n 3, 1) := by decide +kernel
theorem dX12_besideOf_15 : decode cX12_besideOf 15 = .ok (.ifCond .ne 7, 3) := by decide +kernel
theorem dX12_besideOf_18 : decode cX12_besideOf 18 = .ok (.iconst (-1), 1) := by decide +kernel
theorem dX12_besideOf_19 : decode cX12_besideOf 19 = .ok (.goto 6, 3) := by decide +kernel
theorem dX12_besideOf_22 : decode cX12_besideOf 22 = .ok (.iload_n 1, 1) := by decide +kernel
theorem dX12_besideOf_23 : decode cX12_besideOf 23 = .ok (.iconst 1, 1) := by decide +kernel
theorem dX12_besideOf_24 : decode cX12_besideOf 24 = .ok (.isub, 1) := by decide +kernel
theorem dX12_besideOf_25 : decode cX12_besideOf 25 = .ok (.ireturn, 1) := by decide +kernel
theorem dX12_besideOf_26 : decode cX12_besideOf 26 = .ok (.iload_n 2, 1) := by decide +kernel
theorem dX12_besideOf_27 : decode cX12_besideOf 27 = .ok (.iconst 2, 1) := by decide +kernel
theorem dX12_besideOf_28 : decode cX12_besideOf 28 = .ok (.if_icmp .ne 23, 3) := by decide +kernel
theorem dX12_besideOf_31 : decode cX12_besideOf 31 = .ok (.iload_n 3, 1) := by decide +kernel
theorem dX12_besideOf_32 : decode cX12_besideOf 32 = .ok (.aload_n 0, 1) := by decide +kernel
theorem dX12_besideOf_33 : decode cX12_besideOf 33 = .ok (.getfield 35, 3) := by decide +kernel
theorem dX12_besideOf_36 : decode cX12_besideOf 36 = .ok (.iconst 2, 1) := by decide +kernel
theorem dX12_besideOf_37 : decode cX12_besideOf 37 = .ok (.iaload, 1) := by decide +kernel
theorem dX12_besideOf_38 : decode cX12_besideOf 38 = .ok (.iconst 1, 1) := by decide +kernel
theorem dX12_besideOf_39 : decode cX12_besideOf 39 = .ok (.isub, 1) := by decide +kernel
theorem dX12_besideOf_40 : decode cX12_besideOf 40 = .ok (.if_icmp .ne 7, 3) := by decide +kernel
theorem dX12_besideOf_43 : decode cX12_besideOf 43 = .ok (.iconst (-1), 1) := by decide +kernel
theorem dX12_besideOf_44 : decode cX12_besideOf 44 = .ok (.goto 6, 3) := by decide +kernel
theorem dX12_besideOf_47 : decode cX12_besideOf 47 = .ok (.iload_n 1, 1) := by decide +kernel
theorem dX12_besideOf_48 : decode cX12_besideOf 48 = .ok (.iconst 1, 1) := by decide +kernel
theorem dX12_besideOf_49 : decode cX12_besideOf 49 = .ok (.iadd, 1) := by decide +kernel
theorem dX12_besideOf_50 : decode cX12_besideOf 50 = .ok (.ireturn, 1) := by decide +kernel
theorem dX12_besideOf_51 : decode cX12_besideOf 51 = .ok (.iload_n 2, 1) := by decide +kernel
theorem dX12_besideOf_52 : decode cX12_besideOf 52 = .ok (.iconst 3, 1) := by decide +kernel
theorem dX12_besideOf_53 : decode cX12_besideOf 53 = .ok (.if_icmp .ne 14, 3) := by decide +kernel
theorem dX12_besideOf_56 : decode cX12_besideOf 56 = .ok (.iload_n 1, 1) := by decide +kernel
theorem dX12_besideOf_57 : decode cX12_besideOf 57 = .ok (.aload_n 0, 1) := by decide +kernel
theorem dX12_besideOf_58 : decode cX12_besideOf 58 = .ok (.getfield 35, 3) := by decide +kernel
theorem dX12_besideOf_61 : decode cX12_besideOf 61 = .ok (.iconst 2, 1) := by decide +kernel
theorem dX12_besideOf_62 : decode cX12_besideOf 62 = .ok (.iaload, 1) := by decide +kernel
theorem dX12_besideOf_63 : decode cX12_besideOf 63 = .ok (.isub, 1) := by decide +kernel
theorem dX12_besideOf_64 : decode cX12_besideOf 64 = .ok (.goto 11, 3) := by decide +kernel
theorem dX12_besideOf_67 : decode cX12_besideOf 67 = .ok (.iload_n 1, 1) := by decide +kernel
theorem dX12_besideOf_68 : decode cX12_besideOf 68 = .ok (.aload_n 0, 1) := by decide +kernel
theorem dX12_besideOf_69 : decode cX12_besideOf 69 = .ok (.getfield 35, 3) := by decide +kernel
theorem dX12_besideOf_72 : decode cX12_besideOf 72 = .ok (.iconst 2, 1) := by decide +kernel
theorem dX12_besideOf_73 : decode cX12_besideOf 73 = .ok (.iaload, 1) := by decide +kernel
theorem dX12_besideOf_74 : decode cX12_besideOf 74 = .ok (.iadd, 1) := by decide +kernel
theorem dX12_besideOf_75 : decode cX12_besideOf 75 = .ok (.istore 4, 2) := by decide +kernel
theorem dX12_besideOf_77 : decode cX12_besideOf 77 = .ok (.aload_n 0, 1) := by decide +kernel
theorem dX12_besideOf_78 : decode cX12_besideOf 78 = .ok (.iload 4, 2) := by decide +kernel
theorem dX12_besideOf_80 : decode cX12_besideOf 80 = .ok (.invokevirtual 330, 3) := by decide +kernel
theorem dX12_besideOf_83 : decode cX12_besideOf 83 = .ok (.ifCond .eq 8, 3) := by decide +kernel
theorem dX12_besideOf_86 : decode cX12_besideOf 86 = .ok (.iload 4, 2) := by decide +kernel
theorem dX12_besideOf_88 : decode cX12_besideOf 88 = .ok (.goto 4, 3) := by decide +kernel
theorem dX12_besideOf_91 : decode cX12_besideOf 91 = .ok (.iconst (-1), 1) := by decide +kernel
theorem dX12_besideOf_92 : decode cX12_besideOf 92 = .ok (.ireturn, 1) := by decide +kernel
theorem dX12_bearsOn_0 : decode cX12_bearsOn 0 = .ok (.aload_n 0, 1) := by decide +kernel
theorem dX12_bearsOn_1 : decode cX12_bearsOn 1 = .ok (.getfield 35, 3) := by decide +kernel
theorem dX12_bearsOn_4 : decode cX12_bearsOn 4 = .ok (.bipush 88, 2) := by decide +kernel
theorem dX12_bearsOn_6 : decode cX12_bearsOn 6 = .ok (.iload_n 1, 1) := by decide +kernel
theorem dX12_bearsOn_7 : decode cX12_bearsOn 7 = .ok (.iadd, 1) := by decide +kernel
theorem dX12_bearsOn_8 : decode cX12_bearsOn 8 = .ok (.iaload, 1) := by decide +kernel
theorem dX12_bearsOn_9 : decode cX12_bearsOn 9 = .ok (.aload_n 0, 1) := by decide +kernel
theorem dX12_bearsOn_10 : decode cX12_bearsOn 10 = .ok (.getfield 35, 3) := by decide +kernel
theorem dX12_bearsOn_13 : decode cX12_bearsOn 13 = .ok (.bipush 13, 2) := by decide +kernel
theorem dX12_bearsOn_15 : decode cX12_bearsOn 15 = .ok (.iload_n 2, 1) := by decide +kernel
theorem dX12_bearsOn_16 : decode cX12_bearsOn 16 = .ok (.iadd, 1) := by decide +kernel
theorem dX12_bearsOn_17 : decode cX12_bearsOn 17 = .ok (.iaload, 1) := by decide +kernel
theorem dX12_bearsOn_18 : decode cX12_bearsOn 18 = .ok (.if_icmp .eq 5, 3) := by decide +kernel
theorem dX12_bearsOn_21 : decode cX12_bearsOn 21 = .ok (.iconst 0, 1) := by decide +kernel
theorem dX12_bearsOn_22 : decode cX12_bearsOn 22 = .ok (.ireturn, 1) := by decide +kernel
theorem dX12_bearsOn_23 : decode cX12_bearsOn 23 = .ok (.aload_n 0, 1) := by decide +kernel
theorem dX12_bearsOn_24 : decode cX12_bearsOn 24 = .ok (.getfield 35, 3) := by decide +kernel
theorem dX12_bearsOn_27 : decode cX12_bearsOn 27 = .ok (.bipush 108, 2) := by decide +kernel
theorem dX12_bearsOn_29 : decode cX12_bearsOn 29 = .ok (.iload_n 1, 1) := by decide +kernel
theorem dX12_bearsOn_30 : decode cX12_bearsOn 30 = .ok (.iadd, 1) := by decide +kernel
theorem dX12_bearsOn_31 : decode cX12_bearsOn 31 = .ok (.iaload, 1) := by decide +kernel
theorem dX12_bearsOn_32 : decode cX12_bearsOn 32 = .ok (.ifCond .ne 5, 3) := by decide +kernel
theorem dX12_bearsOn_35 : decode cX12_bearsOn 35 = .ok (.iconst 1, 1) := by decide +kernel
theorem dX12_bearsOn_36 : decode cX12_bearsOn 36 = .ok (.ireturn, 1) := by decide +kernel
theorem dX12_bearsOn_37 : decode cX12_bearsOn 37 = .ok (.aload_n 0, 1) := by decide +kernel
theorem dX12_bearsOn_38 : decode cX12_bearsOn 38 = .ok (.iload_n 2, 1) := by decide +kernel
theorem dX12_bearsOn_39 : decode cX12_bearsOn 39 = .ok (.aload_n 0, 1) := by decide +kernel
theorem dX12_bearsOn_40 : decode cX12_bearsOn 40 = .ok (.getfield 35, 3) := by decide +kernel
theorem dX12_bearsOn_43 : decode cX12_bearsOn 43 = .ok (.bipush 108, 2) := by decide +kernel
theorem dX12_bearsOn_45 : decode cX12_bearsOn 45 = .ok (.iload_n 1, 1) := by decide +kernel
theorem dX12_bearsOn_46 : decode cX12_bearsOn 46 = .ok (.iadd, 1) := by decide +kernel
theorem dX12_bearsOn_47 : decode cX12_bearsOn 47 = .ok (.iaload, 1) := by decide +kernel
theorem dX12_bearsOn_48 : decode cX12_bearsOn 48 = .ok (.invokevirtual 350, 3) := by decide +kernel
theorem dX12_bearsOn_51 : decode cX12_bearsOn 51 = .ok (.istore_n 3, 1) := by decide +kernel
theorem dX12_bearsOn_52 : decode cX12_bearsOn 52 = .ok (.iload_n 3, 1) := by decide +kernel
theorem dX12_bearsOn_53 : decode cX12_bearsOn 53 = .ok (.ifCond .lt 28, 3) := by decide +kernel
theorem dX12_bearsOn_56 : decode cX12_bearsOn 56 = .ok (.aload_n 0, 1) := by decide +kernel
theorem dX12_bearsOn_57 : decode cX12_bearsOn 57 = .ok (.getfield 35, 3) := by decide +kernel
theorem dX12_bearsOn_60 : decode cX12_bearsOn 60 = .ok (.bipush 13, 2) := by decide +kernel
theorem dX12_bearsOn_62 : decode cX12_bearsOn 62 = .ok (.iload_n 3, 1) := by decide +kernel
theorem dX12_bearsOn_63 : decode cX12_bearsOn 63 = .ok (.iadd, 1) := by decide +kernel
theorem dX12_bearsOn_64 : decode cX12_bearsOn 64 = .ok (.iaload, 1) := by decide +kernel
theorem dX12_bearsOn_65 : decode cX12_bearsOn 65 = .ok (.aload_n 0, 1) := by decide +kernel
theorem dX12_bearsOn_66 : decode cX12_bearsOn 66 = .ok (.getfield 35, 3) := by decide +kernel
theorem dX12_bearsOn_69 : decode cX12_bearsOn 69 = .ok (.bipush 118, 2) := by decide +kernel
theorem dX12_bearsOn_71 : decode cX12_bearsOn 71 = .ok (.iload_n 1, 1) := by decide +kernel
theorem dX12_bearsOn_72 : decode cX12_bearsOn 72 = .ok (.iadd, 1) := by decide +kernel
theorem dX12_bearsOn_73 : decode cX12_bearsOn 73 = .ok (.iaload, 1) := by decide +kernel
theorem dX12_bearsOn_74 : decode cX12_bearsOn 74 = .ok (.if_icmp .ne 7, 3) := by decide +kernel
theorem dX12_bearsOn_77 : decode cX12_bearsOn 77 = .ok (.iconst 1, 1) := by decide +kernel
theorem dX12_bearsOn_78 : decode cX12_bearsOn 78 = .ok (.goto 4, 3) := by decide +kernel
theorem dX12_bearsOn_81 : decode cX12_bearsOn 81 = .ok (.iconst 0, 1) := by decide +kernel
theorem dX12_bearsOn_82 : decode cX12_bearsOn 82 = .ok (.ireturn, 1) := by decide +kernel
theorem dX12_lawOn_0 : decode cX12_lawOn 0 = .ok (.iconst 0, 1) := by decide +kernel
theorem dX12_lawOn_1 : decode cX12_lawOn 1 = .ok (.istore_n 2, 1) := by decide +kernel
theorem dX12_lawOn_2 : decode cX12_lawOn 2 = .ok (.iload_n 2, 1) := by decide +kernel
theorem dX12_lawOn_3 : decode cX12_lawOn 3 = .ok (.aload_n 0, 1) := by decide +kernel
theorem dX12_lawOn_4 : decode cX12_lawOn 4 = .ok (.getfield 35, 3) := by decide +kernel
theorem dX12_lawOn_7 : decode cX12_lawOn 7 = .ok (.iconst 1, 1) := by decide +kernel
theorem dX12_lawOn_8 : decode cX12_lawOn 8 = .ok (.iaload, 1) := by decide +kernel
theorem dX12_lawOn_9 : decode cX12_lawOn 9 = .ok (.if_icmp .ge 20, 3) := by decide +kernel
theorem dX12_lawOn_12 : decode cX12_lawOn 12 = .ok (.aload_n 0, 1) := by decide +kernel
theorem dX12_lawOn_13 : decode cX12_lawOn 13 = .ok (.iload_n 2, 1) := by decide +kernel
theorem dX12_lawOn_14 : decode cX12_lawOn 14 = .ok (.iload_n 1, 1) := by decide +kernel
theorem dX12_lawOn_15 : decode cX12_lawOn 15 = .ok (.invokevirtual 353, 3) := by decide +kernel
theorem dX12_lawOn_18 : decode cX12_lawOn 18 = .ok (.ifCond .eq 5, 3) := by decide +kernel
theorem dX12_lawOn_21 : decode cX12_lawOn 21 = .ok (.iload_n 2, 1) := by decide +kernel
theorem dX12_lawOn_22 : decode cX12_lawOn 22 = .ok (.ireturn, 1) := by decide +kernel
theorem dX12_lawOn_23 : decode cX12_lawOn 23 = .ok (.iinc 2 1, 3) := by decide +kernel
theorem dX12_lawOn_26 : decode cX12_lawOn 26 = .ok (.goto (-24), 3) := by decide +kernel
theorem dX12_lawOn_29 : decode cX12_lawOn 29 = .ok (.iconst (-1), 1) := by decide +kernel
theorem dX12_lawOn_30 : decode cX12_lawOn 30 = .ok (.ireturn, 1) := by decide +kernel
theorem dX12_becomesBy_0 : decode cX12_becomesBy 0 = .ok (.aload_n 0, 1) := by decide +kernel
theorem dX12_becomesBy_1 : decode cX12_becomesBy 1 = .ok (.iload_n 1, 1) := by decide +kernel
theorem dX12_becomesBy_2 : decode cX12_becomesBy 2 = .ok (.invokevirtual 356, 3) := by decide +kernel
theorem dX12_becomesBy_5 : decode cX12_becomesBy 5 = .ok (.istore_n 2, 1) := by decide +kernel
theorem dX12_becomesBy_6 : decode cX12_becomesBy 6 = .ok (.iload_n 2, 1) := by decide +kernel
theorem dX12_becomesBy_7 : decode cX12_becomesBy 7 = .ok (.ifCond .ge 15, 3) := by decide +kernel
theorem dX12_becomesBy_10 : decode cX12_becomesBy 10 = .ok (.aload_n 0, 1) := by decide +kernel
theorem dX12_becomesBy_11 : decode cX12_becomesBy 11 = .ok (.getfield 35, 3) := by decide +kernel
theorem dX12_becomesBy_14 : decode cX12_becomesBy 14 = .ok (.bipush 13, 2) := by decide +kernel
theorem dX12_becomesBy_16 : decode cX12_becomesBy 16 = .ok (.iload_n 1, 1) := by decide +kernel
theorem dX12_becomesBy_17 : decode cX12_becomesBy 17 = .ok (.iadd, 1) := by decide +kernel
theorem dX12_becomesBy_18 : decode cX12_becomesBy 18 = .ok (.iaload, 1) := by decide +kernel
theorem dX12_becomesBy_19 : decode cX12_becomesBy 19 = .ok (.goto 12, 3) := by decide +kernel
theorem dX12_becomesBy_22 : decode cX12_becomesBy 22 = .ok (.aload_n 0, 1) := by decide +kernel
theorem dX12_becomesBy_23 : decode cX12_becomesBy 23 = .ok (.getfield 35, 3) := by decide +kernel
theorem dX12_becomesBy_26 : decode cX12_becomesBy 26 = .ok (.bipush 98, 2) := by decide +kernel
theorem dX12_becomesBy_28 : decode cX12_becomesBy 28 = .ok (.iload_n 2, 1) := by decide +kernel
theorem dX12_becomesBy_29 : decode cX12_becomesBy 29 = .ok (.iadd, 1) := by decide +kernel
theorem dX12_becomesBy_30 : decode cX12_becomesBy 30 = .ok (.iaload, 1) := by decide +kernel
theorem dX12_becomesBy_31 : decode cX12_becomesBy 31 = .ok (.ireturn, 1) := by decide +kernel
theorem dX12_goesHour_0 : decode cX12_goesHour 0 = .ok (.iconst 0, 1) := by decide +kernel
theorem dX12_goesHour_1 : decode cX12_goesHour 1 = .ok (.istore_n 1, 1) := by decide +kernel
theorem dX12_goesHour_2 : decode cX12_goesHour 2 = .ok (.iconst 0, 1) := by decide +kernel
theorem dX12_goesHour_3 : decode cX12_goesHour 3 = .ok (.istore_n 2, 1) := by decide +kernel
theorem dX12_goesHour_4 : decode cX12_goesHour 4 = .ok (.iload_n 2, 1) := by decide +kernel
theorem dX12_goesHour_5 : decode cX12_goesHour 5 = .ok (.aload_n 0, 1) := by decide +kernel
theorem dX12_goesHour_6 : decode cX12_goesHour 6 = .ok (.invokevirtual 301, 3) := by decide +kernel
theorem dX12_goesHour_9 : decode cX12_goesHour 9 = .ok (.if_icmp .ge 44, 3) := by decide +kernel
theorem dX12_goesHour_12 : decode cX12_goesHour 12 = .ok (.aload_n 0, 1) := by decide +kernel
theorem dX12_goesHour_13 : decode cX12_goesHour 13 = .ok (.getfield 47, 3) := by decide +kernel
theorem dX12_goesHour_16 : decode cX12_goesHour 16 = .ok (.iload_n 2, 1) := by decide +kernel
theorem dX12_goesHour_17 : decode cX12_goesHour 17 = .ok (.aload_n 0, 1) := by decide +kernel
theorem dX12_goesHour_18 : decode cX12_goesHour 18 = .ok (.getfield 35, 3) := by decide +kernel
theorem dX12_goesHour_21 : decode cX12_goesHour 21 = .ok (.bipush 63, 2) := by decide +kernel
theorem dX12_goesHour_23 : decode cX12_goesHour 23 = .ok (.iload_n 2, 1) := by decide +kernel
theorem dX12_goesHour_24 : decode cX12_goesHour 24 = .ok (.iadd, 1) := by decide +kernel
theorem dX12_goesHour_25 : decode cX12_goesHour 25 = .ok (.iaload, 1) := by decide +kernel
theorem dX12_goesHour_26 : decode cX12_goesHour 26 = .ok (.ifCond .le 15, 3) := by decide +kernel
theorem dX12_goesHour_29 : decode cX12_goesHour 29 = .ok (.aload_n 0, 1) := by decide +kernel
theorem dX12_goesHour_30 : decode cX12_goesHour 30 = .ok (.getfield 35, 3) := by decide +kernel
theorem dX12_goesHour_33 : decode cX12_goesHour 33 = .ok (.bipush 13, 2) := by decide +kernel
theorem dX12_goesHour_35 : decode cX12_goesHour 35 = .ok (.iload_n 2, 1) := by decide +kernel
theorem dX12_goesHour_36 : decode cX12_goesHour 36 = .ok (.iadd, 1) := by decide +kernel
theorem dX12_goesHour_37 : decode cX12_goesHour 37 = .ok (.iaload, 1) := by decide +kernel
theorem dX12_goesHour_38 : decode cX12_goesHour 38 = .ok (.goto 8, 3) := by decide +kernel
theorem dX12_goesHour_41 : decode cX12_goesHour 41 = .ok (.aload_n 0, 1) := by decide +kernel
theorem dX12_goesHour_42 : decode cX12_goesHour 42 = .ok (.iload_n 2, 1) := by decide +kernel
theorem dX12_goesHour_43 : decode cX12_goesHour 43 = .ok (.invokevirtual 359, 3) := by decide +kernel
theorem dX12_goesHour_46 : decode cX12_goesHour 46 = .ok (.iastore, 1) := by decide +kernel
theorem dX12_goesHour_47 : decode cX12_goesHour 47 = .ok (.iinc 2 1, 3) := by decide +kernel
theorem dX12_goesHour_50 : decode cX12_goesHour 50 = .ok (.goto (-46), 3) := by decide +kernel
theorem dX12_goesHour_53 : decode cX12_goesHour 53 = .ok (.iconst 0, 1) := by decide +kernel
theorem dX12_goesHour_54 : decode cX12_goesHour 54 = .ok (.istore_n 2, 1) := by decide +kernel
theorem dX12_goesHour_55 : decode cX12_goesHour 55 = .ok (.iload_n 2, 1) := by decide +kernel
theorem dX12_goesHour_56 : decode cX12_goesHour 56 = .ok (.aload_n 0, 1) := by decide +kernel
theorem dX12_goesHour_57 : decode cX12_goesHour 57 = .ok (.invokevirtual 301, 3) := by decide +kernel
theorem dX12_goesHour_60 : decode cX12_goesHour 60 = .ok (.if_icmp .ge 76, 3) := by decide +kernel
theorem dX12_goesHour_63 : decode cX12_goesHour 63 = .ok (.iload_n 1, 1) := by decide +kernel
theorem dX12_goesHour_64 : decode cX12_goesHour 64 = .ok (.ifCond .ne 21, 3) := by decide +kernel
theorem dX12_goesHour_67 : decode cX12_goesHour 67 = .ok (.aload_n 0, 1) := by decide +kernel
theorem dX12_goesHour_68 : decode cX12_goesHour 68 = .ok (.getfield 47, 3) := by decide +kernel
theorem dX12_goesHour_71 : decode cX12_goesHour 71 = .ok (.iload_n 2, 1) := by decide +kernel
theorem dX12_goesHour_72 : decode cX12_goesHour 72 = .ok (.iaload, 1) := by decide +kernel
theorem dX12_goesHour_73 : decode cX12_goesHour 73 = .ok (.aload_n 0, 1) := by decide +kernel
theorem dX12_goesHour_74 : decode cX12_goesHour 74 = .ok (.getfield 35, 3) := by decide +kernel
theorem dX12_goesHour_77 : decode cX12_goesHour 77 = .ok (.bipush 13, 2) := by decide +kernel
theorem dX12_goesHour_79 : decode cX12_goesHour 79 = .ok (.iload_n 2, 1) := by decide +kernel
theorem dX12_goesHour_80 : decode cX12_goesHour 80 = .ok (.iadd, 1) := by decide +kernel
theorem dX12_goesHour_81 : decode cX12_goesHour 81 = .ok (.iaload, 1) := by decide +kernel
theorem dX12_goesHour_82 : decode cX12_goesHour 82 = .ok (.if_icmp .eq 7, 3) := by decide +kernel
theorem dX12_goesHour_85 : decode cX12_goesHour 85 = .ok (.iconst 1, 1) := by decide +kernel
theorem dX12_goesHour_86 : decode cX12_goesHour 86 = .ok (.goto 4, 3) := by decide +kernel
theorem dX12_goesHour_89 : decode cX12_goesHour 89 = .ok (.iconst 0, 1) := by decide +kernel
theorem dX12_goesHour_90 : decode cX12_goesHour 90 = .ok (.istore_n 1, 1) := by decide +kernel
theorem dX12_goesHour_91 : decode cX12_goesHour 91 = .ok (.aload_n 0, 1) := by decide +kernel
theorem dX12_goesHour_92 : decode cX12_goesHour 92 = .ok (.getfield 35, 3) := by decide +kernel
theorem dX12_goesHour_95 : decode cX12_goesHour 95 = .ok (.bipush 13, 2) := by decide +kernel
theorem dX12_goesHour_97 : decode cX12_goesHour 97 = .ok (.iload_n 2, 1) := by decide +kernel
theorem dX12_goesHour_98 : decode cX12_goesHour 98 = .ok (.iadd, 1) := by decide +kernel
theorem dX12_goesHour_99 : decode cX12_goesHour 99 = .ok (.aload_n 0, 1) := by decide +kernel
theorem dX12_goesHour_100 : decode cX12_goesHour 100 = .ok (.getfield 47, 3) := by decide +kernel
theorem dX12_goesHour_103 : decode cX12_goesHour 103 = .ok (.iload_n 2, 1) := by decide +kernel
theorem dX12_goesHour_104 : decode cX12_goesHour 104 = .ok (.iaload, 1) := by decide +kernel
theorem dX12_goesHour_105 : decode cX12_goesHour 105 = .ok (.iastore, 1) := by decide +kernel
theorem dX12_goesHour_106 : decode cX12_goesHour 106 = .ok (.aload_n 0, 1) := by decide +kernel
theorem dX12_goesHour_107 : decode cX12_goesHour 107 = .ok (.getfield 35, 3) := by decide +kernel
theorem dX12_goesHour_110 : decode cX12_goesHour 110 = .ok (.bipush 63, 2) := by decide +kernel
theorem dX12_goesHour_112 : decode cX12_goesHour 112 = .ok (.iload_n 2, 1) := by decide +kernel
theorem dX12_goesHour_113 : decode cX12_goesHour 113 = .ok (.iadd, 1) := by decide +kernel
theorem dX12_goesHour_114 : decode cX12_goesHour 114 = .ok (.iconst 0, 1) := by decide +kernel
theorem dX12_goesHour_115 : decode cX12_goesHour 115 = .ok (.aload_n 0, 1) := by decide +kernel
theorem dX12_goesHour_116 : decode cX12_goesHour 116 = .ok (.getfield 35, 3) := by decide +kernel
theorem dX12_goesHour_119 : decode cX12_goesHour 119 = .ok (.bipush 63, 2) := by decide +kernel
theorem dX12_goesHour_121 : decode cX12_goesHour 121 = .ok (.iload_n 2, 1) := by decide +kernel
theorem dX12_goesHour_122 : decode cX12_goesHour 122 = .ok (.iadd, 1) := by decide +kernel
theorem dX12_goesHour_123 : decode cX12_goesHour 123 = .ok (.iaload, 1) := by decide +kernel
theorem dX12_goesHour_124 : decode cX12_goesHour 124 = .ok (.iconst 1, 1) := by decide +kernel
theorem dX12_goesHour_125 : decode cX12_goesHour 125 = .ok (.isub, 1) := by decide +kernel
theorem dX12_goesHour_126 : decode cX12_goesHour 126 = .ok (.invokestatic 236, 3) := by decide +kernel
theorem dX12_goesHour_129 : decode cX12_goesHour 129 = .ok (.iastore, 1) := by decide +kernel
theorem dX12_goesHour_130 : decode cX12_goesHour 130 = .ok (.iinc 2 1, 3) := by decide +kernel
theorem dX12_goesHour_133 : decode cX12_goesHour 133 = .ok (.goto (-78), 3) := by decide +kernel
theorem dX12_goesHour_136 : decode cX12_goesHour 136 = .ok (.aload_n 0, 1) := by decide +kernel
theorem dX12_goesHour_137 : decode cX12_goesHour 137 = .ok (.getfield 35, 3) := by decide +kernel
theorem dX12_goesHour_140 : decode cX12_goesHour 140 = .ok (.iconst 5, 1) := by decide +kernel
theorem dX12_goesHour_141 : decode cX12_goesHour 141 = .ok (.dup2, 1) := by decide +kernel
theorem dX12_goesHour_142 : decode cX12_goesHour 142 = .ok (.iaload, 1) := by decide +kernel
theorem dX12_goesHour_143 : decode cX12_goesHour 143 = .ok (.iconst 1, 1) := by decide +kernel
theorem dX12_goesHour_144 : decode cX12_goesHour 144 = .ok (.iadd, 1) := by decide +kernel
theorem dX12_goesHour_145 : decode cX12_goesHour 145 = .ok (.iastore, 1) := by decide +kernel
theorem dX12_goesHour_146 : decode cX12_goesHour 146 = .ok (.iload_n 1, 1) := by decide +kernel
theorem dX12_goesHour_147 : decode cX12_goesHour 147 = .ok (.ireturn, 1) := by decide +kernel
theorem dX12_wayFrom_0 : decode cX12_wayFrom 0 = .ok (.iload_n 2, 1) := by decide +kernel
theorem dX12_wayFrom_1 : decode cX12_wayFrom 1 = .ok (.iconst 4, 1) := by decide +kernel
theorem dX12_wayFrom_2 : decode cX12_wayFrom 2 = .ok (.if_icmp .ne 5, 3) := by decide +kernel
theorem dX12_wayFrom_5 : decode cX12_wayFrom 5 = .ok (.iload_n 1, 1) := by decide +kernel
theorem dX12_wayFrom_6 : decode cX12_wayFrom 6 = .ok (.ireturn, 1) := by decide +kernel
theorem dX12_wayFrom_7 : decode cX12_wayFrom 7 = .ok (.aload_n 0, 1) := by decide +kernel
theorem dX12_wayFrom_8 : decode cX12_wayFrom 8 = .ok (.iload_n 1, 1) := by decide +kernel
theorem dX12_wayFrom_9 : decode cX12_wayFrom 9 = .ok (.iload_n 2, 1) := by decide +kernel
theorem dX12_wayFrom_10 : decode cX12_wayFrom 10 = .ok (.ifCond .ne 7, 3) := by decide +kernel
theorem dX12_wayFrom_13 : decode cX12_wayFrom 13 = .ok (.iconst 3, 1) := by decide +kernel
theorem dX12_wayFrom_14 : decode cX12_wayFrom 14 = .ok (.goto 15, 3) := by decide +kernel
theorem dX12_wayFrom_17 : decode cX12_wayFrom 17 = .ok (.iload_n 2, 1) := by decide +kernel
theorem dX12_wayFrom_18 : decode cX12_wayFrom 18 = .ok (.iconst 1, 1) := by decide +kernel
theorem dX12_wayFrom_19 : decode cX12_wayFrom 19 = .ok (.if_icmp .ne 7, 3) := by decide +kernel
theorem dX12_wayFrom_22 : decode cX12_wayFrom 22 = .ok (.iconst 4, 1) := by decide +kernel
theorem dX12_wayFrom_23 : decode cX12_wayFrom 23 = .ok (.goto 6, 3) := by decide +kernel
theorem dX12_wayFrom_26 : decode cX12_wayFrom 26 = .ok (.iload_n 2, 1) := by decide +kernel
theorem dX12_wayFrom_27 : decode cX12_wayFrom 27 = .ok (.iconst 1, 1) := by decide +kernel
theorem dX12_wayFrom_28 : decode cX12_wayFrom 28 = .ok (.isub, 1) := by decide +kernel
theorem dX12_wayFrom_29 : decode cX12_wayFrom 29 = .ok (.invokevirtual 350, 3) := by decide +kernel
theorem dX12_wayFrom_32 : decode cX12_wayFrom 32 = .ok (.ireturn, 1) := by decide +kernel
theorem dX12_steps_0 : decode cX12_steps 0 = .ok (.aload_n 0, 1) := by decide +kernel
theorem dX12_steps_1 : decode cX12_steps 1 = .ok (.aload_n 0, 1) := by decide +kernel
theorem dX12_steps_2 : decode cX12_steps 2 = .ok (.getfield 35, 3) := by decide +kernel
theorem dX12_steps_5 : decode cX12_steps 5 = .ok (.bipush 7, 2) := by decide +kernel
theorem dX12_steps_7 : decode cX12_steps 7 = .ok (.iaload, 1) := by decide +kernel
theorem dX12_steps_8 : decode cX12_steps 8 = .ok (.iload_n 1, 1) := by decide +kernel
theorem dX12_steps_9 : decode cX12_steps 9 = .ok (.invokevirtual 362, 3) := by decide +kernel
theorem dX12_steps_12 : decode cX12_steps 12 = .ok (.istore_n 2, 1) := by decide +kernel
theorem dX12_steps_13 : decode cX12_steps 13 = .ok (.iload_n 2, 1) := by decide +kernel
theorem dX12_steps_14 : decode cX12_steps 14 = .ok (.ifCond .ge 5, 3) := by decide +kernel
theorem dX12_steps_17 : decode cX12_steps 17 = .ok (.iconst 0, 1) := by decide +kernel
theorem dX12_steps_18 : decode cX12_steps 18 = .ok (.ireturn, 1) := by decide +kernel
theorem dX12_steps_19 : decode cX12_steps 19 = .ok (.aload_n 0, 1) := by decide +kernel
theorem dX12_steps_20 : decode cX12_steps 20 = .ok (.getfield 35, 3) := by decide +kernel
theorem dX12_steps_23 : decode cX12_steps 23 = .ok (.bipush 7, 2) := by decide +kernel
theorem dX12_steps_25 : decode cX12_steps 25 = .ok (.iload_n 2, 1) := by decide +kernel
theorem dX12_steps_26 : decode cX12_steps 26 = .ok (.iastore, 1) := by decide +kernel
theorem dX12_steps_27 : decode cX12_steps 27 = .ok (.aload_n 0, 1) := by decide +kernel
theorem dX12_steps_28 : decode cX12_steps 28 = .ok (.getfield 35, 3) := by decide +kernel
theorem dX12_steps_31 : decode cX12_steps 31 = .ok (.bipush 63, 2) := by decide +kernel
theorem dX12_steps_33 : decode cX12_steps 33 = .ok (.iload_n 2, 1) := by decide +kernel
theorem dX12_steps_34 : decode cX12_steps 34 = .ok (.iadd, 1) := by decide +kernel
theorem dX12_steps_35 : decode cX12_steps 35 = .ok (.aload_n 0, 1) := by decide +kernel
theorem dX12_steps_36 : decode cX12_steps 36 = .ok (.getfield 35, 3) := by decide +kernel
theorem dX12_steps_39 : decode cX12_steps 39 = .ok (.iconst 3, 1) := by decide +kernel
theorem dX12_steps_40 : decode cX12_steps 40 = .ok (.iaload, 1) := by decide +kernel
theorem dX12_steps_41 : decode cX12_steps 41 = .ok (.iastore, 1) := by decide +kernel
theorem dX12_steps_42 : decode cX12_steps 42 = .ok (.aload_n 0, 1) := by decide +kernel
theorem dX12_steps_43 : decode cX12_steps 43 = .ok (.invokevirtual 365, 3) := by decide +kernel
theorem dX12_steps_46 : decode cX12_steps 46 = .ok (.pop, 1) := by decide +kernel
theorem dX12_steps_47 : decode cX12_steps 47 = .ok (.iconst 1, 1) := by decide +kernel
theorem dX12_steps_48 : decode cX12_steps 48 = .ok (.ireturn, 1) := by decide +kernel
theorem dX12_step_0 : decode cX12_step 0 = .ok (.aload_n 0, 1) := by decide +kernel
theorem dX12_step_1 : decode cX12_step 1 = .ok (.iconst 0, 1) := by decide +kernel
theorem dX12_step_2 : decode cX12_step 2 = .ok (.putfield 72, 3) := by decide +kernel
theorem dX12_step_5 : decode cX12_step 5 = .ok (.aload_n 0, 1) := by decide +kernel
theorem dX12_step_6 : decode cX12_step 6 = .ok (.iconst 0, 1) := by decide +kernel
theorem dX12_step_7 : decode cX12_step 7 = .ok (.putfield 75, 3) := by decide +kernel
theorem dX12_step_10 : decode cX12_step 10 = .ok (.iload_n 1, 1) := by decide +kernel
theorem dX12_step_11 : decode cX12_step 11 = .ok (.i2l, 1) := by decide +kernel
theorem dX12_step_12 : decode cX12_step 12 = .ok (.lconst 0, 1) := by decide +kernel
theorem dX12_step_13 : decode cX12_step 13 = .ok (.ldc2_w 368, 3) := by decide +kernel
theorem dX12_step_16 : decode cX12_step 16 = .ok (.invokestatic 107, 3) := by decide +kernel
theorem dX12_step_19 : decode cX12_step 19 = .ok (.ifCond .ne 9, 3) := by decide +kernel
theorem dX12_step_22 : decode cX12_step 22 = .ok (.aload_n 0, 1) := by decide +kernel
theorem dX12_step_23 : decode cX12_step 23 = .ok (.iconst 5, 1) := by decide +kernel
theorem dX12_step_24 : decode cX12_step 24 = .ok (.invokevirtual 318, 3) := by decide +kernel
theorem dX12_step_27 : decode cX12_step 27 = .ok (.ireturn, 1) := by decide +kernel
theorem dX12_step_28 : decode cX12_step 28 = .ok (.aload_n 0, 1) := by decide +kernel
theorem dX12_step_29 : decode cX12_step 29 = .ok (.getfield 35, 3) := by decide +kernel
theorem dX12_step_32 : decode cX12_step 32 = .ok (.iconst 5, 1) := by decide +kernel
theorem dX12_step_33 : decode cX12_step 33 = .ok (.iaload, 1) := by decide +kernel
theorem dX12_step_34 : decode cX12_step 34 = .ok (.sipush 9999, 3) := by decide +kernel
theorem dX12_step_37 : decode cX12_step 37 = .ok (.if_icmp .lt 10, 3) := by decide +kernel
theorem dX12_step_40 : decode cX12_step 40 = .ok (.aload_n 0, 1) := by decide +kernel
theorem dX12_step_41 : decode cX12_step 41 = .ok (.bipush 7, 2) := by decide +kernel
theorem dX12_step_43 : decode cX12_step 43 = .ok (.invokevirtual 318, 3) := by decide +kernel
theorem dX12_step_46 : decode cX12_step 46 = .ok (.ireturn, 1) := by decide +kernel
theorem dX12_step_47 : decode cX12_step 47 = .ok (.aload_n 0, 1) := by decide +kernel
theorem dX12_step_48 : decode cX12_step 48 = .ok (.getfield 35, 3) := by decide +kernel
theorem dX12_step_51 : decode cX12_step 51 = .ok (.iconst 0, 1) := by decide +kernel
theorem dX12_step_52 : decode cX12_step 52 = .ok (.iaload, 1) := by decide +kernel
theorem dX12_step_53 : decode cX12_step 53 = .ok (.ifCond .ne 10, 3) := by decide +kernel
theorem dX12_step_56 : decode cX12_step 56 = .ok (.aload_n 0, 1) := by decide +kernel
theorem dX12_step_57 : decode cX12_step 57 = .ok (.bipush 8, 2) := by decide +kernel
theorem dX12_step_59 : decode cX12_step 59 = .ok (.invokevirtual 318, 3) := by decide +kernel
theorem dX12_step_62 : decode cX12_step 62 = .ok (.ireturn, 1) := by decide +kernel
theorem dX12_step_63 : decode cX12_step 63 = .ok (.aload_n 0, 1) := by decide +kernel
theorem dX12_step_64 : decode cX12_step 64 = .ok (.iload_n 1, 1) := by decide +kernel
theorem dX12_step_65 : decode cX12_step 65 = .ok (.invokevirtual 370, 3) := by decide +kernel
theorem dX12_step_68 : decode cX12_step 68 = .ok (.ifCond .eq 13, 3) := by decide +kernel
theorem dX12_step_71 : decode cX12_step 71 = .ok (.aload_n 0, 1) := by decide +kernel
theorem dX12_step_72 : decode cX12_step 72 = .ok (.getfield 35, 3) := by decide +kernel
theorem dX12_step_75 : decode cX12_step 75 = .ok (.bipush 7, 2) := by decide +kernel
theorem dX12_step_77 : decode cX12_step 77 = .ok (.iaload, 1) := by decide +kernel
theorem dX12_step_78 : decode cX12_step 78 = .ok (.goto 9, 3) := by decide +kernel
theorem dX12_step_81 : decode cX12_step 81 = .ok (.aload_n 0, 1) := by decide +kernel
theorem dX12_step_82 : decode cX12_step 82 = .ok (.bipush 9, 2) := by decide +kernel
theorem dX12_step_84 : decode cX12_step 84 = .ok (.invokevirtual 318, 3) := by decide +kernel
theorem dX12_step_87 : decode cX12_step 87 = .ok (.ireturn, 1) := by decide +kernel
theorem dX12_doze_0 : decode cX12_doze 0 = .ok (.aload_n 0, 1) := by decide +kernel
theorem dX12_doze_1 : decode cX12_doze 1 = .ok (.iconst 0, 1) := by decide +kernel
theorem dX12_doze_2 : decode cX12_doze 2 = .ok (.putfield 72, 3) := by decide +kernel
theorem dX12_doze_5 : decode cX12_doze 5 = .ok (.aload_n 0, 1) := by decide +kernel
theorem dX12_doze_6 : decode cX12_doze 6 = .ok (.iconst 0, 1) := by decide +kernel
theorem dX12_doze_7 : decode cX12_doze 7 = .ok (.putfield 75, 3) := by decide +kernel
theorem dX12_doze_10 : decode cX12_doze 10 = .ok (.iload_n 1, 1) := by decide +kernel
theorem dX12_doze_11 : decode cX12_doze 11 = .ok (.i2l, 1) := by decide +kernel
theorem dX12_doze_12 : decode cX12_doze 12 = .ok (.lconst 1, 1) := by decide +kernel
theorem dX12_doze_13 : decode cX12_doze 13 = .ok (.ldc2_w 373, 3) := by decide +kernel
theorem dX12_doze_16 : decode cX12_doze 16 = .ok (.invokestatic 107, 3) := by decide +kernel
theorem dX12_doze_19 : decode cX12_doze 19 = .ok (.ifCond .ne 9, 3) := by decide +kernel
theorem dX12_doze_22 : decode cX12_doze 22 = .ok (.aload_n 0, 1) := by decide +kernel
theorem dX12_doze_23 : decode cX12_doze 23 = .ok (.iconst 5, 1) := by decide +kernel
theorem dX12_doze_24 : decode cX12_doze 24 = .ok (.invokevirtual 318, 3) := by decide +kernel
theorem dX12_doze_27 : decode cX12_doze 27 = .ok (.ireturn, 1) := by decide +kernel
theorem dX12_doze_28 : decode cX12_doze 28 = .ok (.aload_n 0, 1) := by decide +kernel
theorem dX12_doze_29 : decode cX12_doze 29 = .ok (.getfield 35, 3) := by decide +kernel
theorem dX12_doze_32 : decode cX12_doze 32 = .ok (.iconst 5, 1) := by decide +kernel
theorem dX12_doze_33 : decode cX12_doze 33 = .ok (.iaload, 1) := by decide +kernel
theorem dX12_doze_34 : decode cX12_doze 34 = .ok (.iload_n 1, 1) := by decide +kernel
theorem dX12_doze_35 : decode cX12_doze 35 = .ok (.iadd, 1) := by decide +kernel
theorem dX12_doze_36 : decode cX12_doze 36 = .ok (.sipush 9999, 3) := by decide +kernel
theorem dX12_doze_39 : decode cX12_doze 39 = .ok (.if_icmp .le 10, 3) := by decide +kernel
theorem dX12_doze_42 : decode cX12_doze 42 = .ok (.aload_n 0, 1) := by decide +kernel
theorem dX12_doze_43 : decode cX12_doze 43 = .ok (.bipush 7, 2) := by decide +kernel
theorem dX12_doze_45 : decode cX12_doze 45 = .ok (.invokevirtual 318, 3) := by decide +kernel
theorem dX12_doze_48 : decode cX12_doze 48 = .ok (.ireturn, 1) := by decide +kernel
theorem dX12_doze_49 : decode cX12_doze 49 = .ok (.iconst 0, 1) := by decide +kernel
theorem dX12_doze_50 : decode cX12_doze 50 = .ok (.istore_n 2, 1) := by decide +kernel
theorem dX12_doze_51 : decode cX12_doze 51 = .ok (.iload_n 2, 1) := by decide +kernel
theorem dX12_doze_52 : decode cX12_doze 52 = .ok (.iload_n 1, 1) := by decide +kernel
theorem dX12_doze_53 : decode cX12_doze 53 = .ok (.if_icmp .ge 14, 3) := by decide +kernel
theorem dX12_doze_56 : decode cX12_doze 56 = .ok (.aload_n 0, 1) := by decide +kernel
theorem dX12_doze_57 : decode cX12_doze 57 = .ok (.invokevirtual 365, 3) := by decide +kernel
theorem dX12_doze_60 : decode cX12_doze 60 = .ok (.pop, 1) := by decide +kernel
theorem dX12_doze_61 : decode cX12_doze 61 = .ok (.iinc 2 1, 3) := by decide +kernel
theorem dX12_doze_64 : decode cX12_doze 64 = .ok (.goto (-13), 3) := by decide +kernel
theorem dX12_doze_67 : decode cX12_doze 67 = .ok (.aload_n 0, 1) := by decide +kernel
theorem dX12_doze_68 : decode cX12_doze 68 = .ok (.invokevirtual 321, 3) := by decide +kernel
theorem dX12_doze_71 : decode cX12_doze 71 = .ok (.ireturn, 1) := by decide +kernel
theorem dX12_mends_0 : decode cX12_mends 0 = .ok (.aload_n 0, 1) := by decide +kernel
theorem dX12_mends_1 : decode cX12_mends 1 = .ok (.getfield 35, 3) := by decide +kernel
theorem dX12_mends_4 : decode cX12_mends 4 = .ok (.bipush 13, 2) := by decide +kernel
theorem dX12_mends_6 : decode cX12_mends 6 = .ok (.iload_n 1, 1) := by decide +kernel
theorem dX12_mends_7 : decode cX12_mends 7 = .ok (.iadd, 1) := by decide +kernel
theorem dX12_mends_8 : decode cX12_mends 8 = .ok (.iaload, 1) := by decide +kernel
theorem dX12_mends_9 : decode cX12_mends 9 = .ok (.istore_n 2, 1) := by decide +kernel
theorem dX12_mends_10 : decode cX12_mends 10 = .ok (.aload_n 0, 1) := by decide +kernel
theorem dX12_mends_11 : decode cX12_mends 11 = .ok (.getfield 35, 3) := by decide +kernel
theorem dX12_mends_14 : decode cX12_mends 14 = .ok (.bipush 13, 2) := by decide +kernel
theorem dX12_mends_16 : decode cX12_mends 16 = .ok (.iload_n 1, 1) := by decide +kernel
theorem dX12_mends_17 : decode cX12_mends 17 = .ok (.iadd, 1) := by decide +kernel
theorem dX12_mends_18 : decode cX12_mends 18 = .ok (.aload_n 0, 1) := by decide +kernel
theorem dX12_mends_19 : decode cX12_mends 19 = .ok (.getfield 35, 3) := by decide +kernel
theorem dX12_mends_22 : decode cX12_mends 22 = .ok (.bipush 38, 2) := by decide +kernel
theorem dX12_mends_24 : decode cX12_mends 24 = .ok (.iload_n 1, 1) := by decide +kernel
theorem dX12_mends_25 : decode cX12_mends 25 = .ok (.iadd, 1) := by decide +kernel
theorem dX12_mends_26 : decode cX12_mends 26 = .ok (.iaload, 1) := by decide +kernel
theorem dX12_mends_27 : decode cX12_mends 27 = .ok (.iastore, 1) := by decide +kernel
theorem dX12_mends_28 : decode cX12_mends 28 = .ok (.iload_n 2, 1) := by decide +kernel
theorem dX12_mends_29 : decode cX12_mends 29 = .ok (.ireturn, 1) := by decide +kernel
theorem dX12_mend_0 : decode cX12_mend 0 = .ok (.aload_n 0, 1) := by decide +kernel
theorem dX12_mend_1 : decode cX12_mend 1 = .ok (.iconst 0, 1) := by decide +kernel
theorem dX12_mend_2 : decode cX12_mend 2 = .ok (.putfield 72, 3) := by decide +kernel
theorem dX12_mend_5 : decode cX12_mend 5 = .ok (.aload_n 0, 1) := by decide +kernel
theorem dX12_mend_6 : decode cX12_mend 6 = .ok (.iconst 0, 1) := by decide +kernel
theorem dX12_mend_7 : decode cX12_mend 7 = .ok (.putfield 75, 3) := by decide +kernel
theorem dX12_mend_10 : decode cX12_mend 10 = .ok (.aload_n 0, 1) := by decide +kernel
theorem dX12_mend_11 : decode cX12_mend 11 = .ok (.iload_n 1, 1) := by decide +kernel
theorem dX12_mend_12 : decode cX12_mend 12 = .ok (.invokevirtual 330, 3) := by decide +kernel
theorem dX12_mend_15 : decode cX12_mend 15 = .ok (.ifCond .ne 9, 3) := by decide +kernel
theorem dX12_mend_18 : decode cX12_mend 18 = .ok (.aload_n 0, 1) := by decide +kernel
theorem dX12_mend_19 : decode cX12_mend 19 = .ok (.iconst 2, 1) := by decide +kernel
theorem dX12_mend_20 : decode cX12_mend 20 = .ok (.invokevirtual 318, 3) := by decide +kernel
theorem dX12_mend_23 : decode cX12_mend 23 = .ok (.ireturn, 1) := by decide +kernel
theorem dX12_mend_24 : decode cX12_mend 24 = .ok (.aload_n 0, 1) := by decide +kernel
theorem dX12_mend_25 : decode cX12_mend 25 = .ok (.iload_n 1, 1) := by decide +kernel
theorem dX12_mend_26 : decode cX12_mend 26 = .ok (.invokevirtual 304, 3) := by decide +kernel
theorem dX12_mend_29 : decode cX12_mend 29 = .ok (.ifCond .eq 11, 3) := by decide +kernel
theorem dX12_mend_32 : decode cX12_mend 32 = .ok (.aload_n 0, 1) := by decide +kernel
theorem dX12_mend_33 : decode cX12_mend 33 = .ok (.iload_n 1, 1) := by decide +kernel
theorem dX12_mend_34 : decode cX12_mend 34 = .ok (.invokevirtual 375, 3) := by decide +kernel
theorem dX12_mend_37 : decode cX12_mend 37 = .ok (.goto 9, 3) := by decide +kernel
theorem dX12_mend_40 : decode cX12_mend 40 = .ok (.aload_n 0, 1) := by decide +kernel
theorem dX12_mend_41 : decode cX12_mend 41 = .ok (.bipush 9, 2) := by decide +kernel
theorem dX12_mend_43 : decode cX12_mend 43 = .ok (.invokevirtual 318, 3) := by decide +kernel
theorem dX12_mend_46 : decode cX12_mend 46 = .ok (.ireturn, 1) := by decide +kernel
theorem dX12_takes_0 : decode cX12_takes 0 = .ok (.aload_n 0, 1) := by decide +kernel
theorem dX12_takes_1 : decode cX12_takes 1 = .ok (.getfield 35, 3) := by decide +kernel
theorem dX12_takes_4 : decode cX12_takes 4 = .ok (.bipush 13, 2) := by decide +kernel
theorem dX12_takes_6 : decode cX12_takes 6 = .ok (.iload_n 1, 1) := by decide +kernel
theorem dX12_takes_7 : decode cX12_takes 7 = .ok (.iadd, 1) := by decide +kernel
theorem dX12_takes_8 : decode cX12_takes 8 = .ok (.iaload, 1) := by decide +kernel
theorem dX12_takes_9 : decode cX12_takes 9 = .ok (.istore_n 2, 1) := by decide +kernel
theorem dX12_takes_10 : decode cX12_takes 10 = .ok (.aload_n 0, 1) := by decide +kernel
theorem dX12_takes_11 : decode cX12_takes 11 = .ok (.getfield 35, 3) := by decide +kernel
theorem dX12_takes_14 : decode cX12_takes 14 = .ok (.bipush 13, 2) := by decide +kernel
theorem dX12_takes_16 : decode cX12_takes 16 = .ok (.iload_n 1, 1) := by decide +kernel
theorem dX12_takes_17 : decode cX12_takes 17 = .ok (.iadd, 1) := by decide +kernel
theorem dX12_takes_18 : decode cX12_takes 18 = .ok (.iconst 0, 1) := by decide +kernel
theorem dX12_takes_19 : decode cX12_takes 19 = .ok (.iastore, 1) := by decide +kernel
theorem dX12_takes_20 : decode cX12_takes 20 = .ok (.aload_n 0, 1) := by decide +kernel
theorem dX12_takes_21 : decode cX12_takes 21 = .ok (.getfield 35, 3) := by decide +kernel
theorem dX12_takes_24 : decode cX12_takes 24 = .ok (.bipush 6, 2) := by decide +kernel
theorem dX12_takes_26 : decode cX12_takes 26 = .ok (.dup2, 1) := by decide +kernel
theorem dX12_takes_27 : decode cX12_takes 27 = .ok (.iaload, 1) := by decide +kernel
theorem dX12_takes_28 : decode cX12_takes 28 = .ok (.iload_n 2, 1) := by decide +kernel
theorem dX12_takes_29 : decode cX12_takes 29 = .ok (.iadd, 1) := by decide +kernel
theorem dX12_takes_30 : decode cX12_takes 30 = .ok (.iastore, 1) := by decide +kernel
theorem dX12_takes_31 : decode cX12_takes 31 = .ok (.iload_n 2, 1) := by decide +kernel
theorem dX12_takes_32 : decode cX12_takes 32 = .ok (.ireturn, 1) := by decide +kernel
theorem dX12_steal_0 : decode cX12_steal 0 = .ok (.aload_n 0, 1) := by decide +kernel
theorem dX12_steal_1 : decode cX12_steal 1 = .ok (.iconst 0, 1) := by decide +kernel
theorem dX12_steal_2 : decode cX12_steal 2 = .ok (.putfield 72, 3) := by decide +kernel
theorem dX12_steal_5 : decode cX12_steal 5 = .ok (.aload_n 0, 1) := by decide +kernel
theorem dX12_steal_6 : decode cX12_steal 6 = .ok (.iconst 0, 1) := by decide +kernel
theorem dX12_steal_7 : decode cX12_steal 7 = .ok (.putfield 75, 3) := by decide +kernel
theorem dX12_steal_10 : decode cX12_steal 10 = .ok (.aload_n 0, 1) := by decide +kernel
theorem dX12_steal_11 : decode cX12_steal 11 = .ok (.iload_n 1, 1) := by decide +kernel
theorem dX12_steal_12 : decode cX12_steal 12 = .ok (.invokevirtual 330, 3) := by decide +kernel
theorem dX12_steal_15 : decode cX12_steal 15 = .ok (.ifCond .ne 9, 3) := by decide +kernel
theorem dX12_steal_18 : decode cX12_steal 18 = .ok (.aload_n 0, 1) := by decide +kernel
theorem dX12_steal_19 : decode cX12_steal 19 = .ok (.iconst 2, 1) := by decide +kernel
theorem dX12_steal_20 : decode cX12_steal 20 = .ok (.invokevirtual 318, 3) := by decide +kernel
theorem dX12_steal_23 : decode cX12_steal 23 = .ok (.ireturn, 1) := by decide +kernel
theorem dX12_steal_24 : decode cX12_steal 24 = .ok (.aload_n 0, 1) := by decide +kernel
theorem dX12_steal_25 : decode cX12_steal 25 = .ok (.getfield 35, 3) := by decide +kernel
theorem dX12_steal_28 : decode cX12_steal 28 = .ok (.bipush 13, 2) := by decide +kernel
theorem dX12_steal_30 : decode cX12_steal 30 = .ok (.iload_n 1, 1) := by decide +kernel
theorem dX12_steal_31 : decode cX12_steal 31 = .ok (.iadd, 1) := by decide +kernel
theorem dX12_steal_32 : decode cX12_steal 32 = .ok (.iaload, 1) := by decide +kernel
theorem dX12_steal_33 : decode cX12_steal 33 = .ok (.ifCond .ne 12, 3) := by decide +kernel
theorem dX12_steal_36 : decode cX12_steal 36 = .ok (.aload_n 0, 1) := by decide +kernel
theorem dX12_steal_37 : decode cX12_steal 37 = .ok (.bipush 9, 2) := by decide +kernel
theorem dX12_steal_39 : decode cX12_steal 39 = .ok (.invokevirtual 318, 3) := by decide +kernel
theorem dX12_steal_42 : decode cX12_steal 42 = .ok (.goto 8, 3) := by decide +kernel
theorem dX12_steal_45 : decode cX12_steal 45 = .ok (.aload_n 0, 1) := by decide +kernel
theorem dX12_steal_46 : decode cX12_steal 46 = .ok (.iload_n 1, 1) := by decide +kernel
theorem dX12_steal_47 : decode cX12_steal 47 = .ok (.invokevirtual 378, 3) := by decide +kernel
theorem dX12_steal_50 : decode cX12_steal 50 = .ok (.ireturn, 1) := by decide +kernel
theorem dX12_scratch_0 : decode cX12_scratch 0 = .ok (.aload_n 0, 1) := by decide +kernel
theorem dX12_scratch_1 : decode cX12_scratch 1 = .ok (.iconst 0, 1) := by decide +kernel
theorem dX12_scratch_2 : decode cX12_scratch 2 = .ok (.putfield 72, 3) := by decide +kernel
theorem dX12_scratch_5 : decode cX12_scratch 5 = .ok (.aload_n 0, 1) := by decide +kernel
theorem dX12_scratch_6 : decode cX12_scratch 6 = .ok (.iconst 0, 1) := by decide +kernel
theorem dX12_scratch_7 : decode cX12_scratch 7 = .ok (.putfield 75, 3) := by decide +kernel
theorem dX12_scratch_10 : decode cX12_scratch 10 = .ok (.aload_n 0, 1) := by decide +kernel
theorem dX12_scratch_11 : decode cX12_scratch 11 = .ok (.iload_n 1, 1) := by decide +kernel
theorem dX12_scratch_12 : decode cX12_scratch 12 = .ok (.invokevirtual 330, 3) := by decide +kernel
theorem dX12_scratch_15 : decode cX12_scratch 15 = .ok (.ifCond .ne 9, 3) := by decide +kernel
theorem dX12_scratch_18 : decode cX12_scratch 18 = .ok (.aload_n 0, 1) := by decide +kernel
theorem dX12_scratch_19 : decode cX12_scratch 19 = .ok (.iconst 2, 1) := by decide +kernel
theorem dX12_scratch_20 : decode cX12_scratch 20 = .ok (.invokevirtual 318, 3) := by decide +kernel
theorem dX12_scratch_23 : decode cX12_scratch 23 = .ok (.ireturn, 1) := by decide +kernel
theorem dX12_scratch_24 : decode cX12_scratch 24 = .ok (.iload_n 2, 1) := by decide +kernel
theorem dX12_scratch_25 : decode cX12_scratch 25 = .ok (.i2l, 1) := by decide +kernel
theorem dX12_scratch_26 : decode cX12_scratch 26 = .ok (.lconst 0, 1) := by decide +kernel
theorem dX12_scratch_27 : decode cX12_scratch 27 = .ok (.ldc2_w 249, 3) := by decide +kernel
theorem dX12_scratch_30 : decode cX12_scratch 30 = .ok (.invokestatic 107, 3) := by decide +kernel
theorem dX12_scratch_33 : decode cX12_scratch 33 = .ok (.ifCond .ne 9, 3) := by decide +kernel
theorem dX12_scratch_36 : decode cX12_scratch 36 = .ok (.aload_n 0, 1) := by decide +kernel
theorem dX12_scratch_37 : decode cX12_scratch 37 = .ok (.iconst 5, 1) := by decide +kernel
theorem dX12_scratch_38 : decode cX12_scratch 38 = .ok (.invokevirtual 318, 3) := by decide +kernel
theorem dX12_scratch_41 : decode cX12_scratch 41 = .ok (.ireturn, 1) := by decide +kernel
theorem dX12_scratch_42 : decode cX12_scratch 42 = .ok (.aload_n 0, 1) := by decide +kernel
theorem dX12_scratch_43 : decode cX12_scratch 43 = .ok (.getfield 35, 3) := by decide +kernel
theorem dX12_scratch_46 : decode cX12_scratch 46 = .ok (.bipush 13, 2) := by decide +kernel
theorem dX12_scratch_48 : decode cX12_scratch 48 = .ok (.iload_n 1, 1) := by decide +kernel
theorem dX12_scratch_49 : decode cX12_scratch 49 = .ok (.iadd, 1) := by decide +kernel
theorem dX12_scratch_50 : decode cX12_scratch 50 = .ok (.iaload, 1) := by decide +kernel
theorem dX12_scratch_51 : decode cX12_scratch 51 = .ok (.istore_n 3, 1) := by decide +kernel
theorem dX12_scratch_52 : decode cX12_scratch 52 = .ok (.iload_n 3, 1) := by decide +kernel
theorem dX12_scratch_53 : decode cX12_scratch 53 = .ok (.iload_n 2, 1) := by decide +kernel
theorem dX12_scratch_54 : decode cX12_scratch 54 = .ok (.if_icmp .ne 10, 3) := by decide +kernel
theorem dX12_scratch_57 : decode cX12_scratch 57 = .ok (.aload_n 0, 1) := by decide +kernel
theorem dX12_scratch_58 : decode cX12_scratch 58 = .ok (.bipush 9, 2) := by decide +kernel
theorem dX12_scratch_60 : decode cX12_scratch 60 = .ok (.invokevirtual 318, 3) := by decide +kernel
theorem dX12_scratch_63 : decode cX12_scratch 63 = .ok (.ireturn, 1) := by decide +kernel
theorem dX12_scratch_64 : decode cX12_scratch 64 = .ok (.aload_n 0, 1) := by decide +kernel
theorem dX12_scratch_65 : decode cX12_scratch 65 = .ok (.getfield 35, 3) := by decide +kernel
theorem dX12_scratch_68 : decode cX12_scratch 68 = .ok (.bipush 13, 2) := by decide +kernel
theorem dX12_scratch_70 : decode cX12_scratch 70 = .ok (.iload_n 1, 1) := by decide +kernel
theorem dX12_scratch_71 : decode cX12_scratch 71 = .ok (.iadd, 1) := by decide +kernel
theorem dX12_scratch_72 : decode cX12_scratch 72 = .ok (.iload_n 2, 1) := by decide +kernel
theorem dX12_scratch_73 : decode cX12_scratch 73 = .ok (.iastore, 1) := by decide +kernel
theorem dX12_scratch_74 : decode cX12_scratch 74 = .ok (.iload_n 3, 1) := by decide +kernel
theorem dX12_scratch_75 : decode cX12_scratch 75 = .ok (.ireturn, 1) := by decide +kernel
theorem dX12_vouch_0 : decode cX12_vouch 0 = .ok (.aload_n 0, 1) := by decide +kernel
theorem dX12_vouch_1 : decode cX12_vouch 1 = .ok (.iconst 0, 1) := by decide +kernel
theorem dX12_vouch_2 : decode cX12_vouch 2 = .ok (.putfield 72, 3) := by decide +kernel
theorem dX12_vouch_5 : decode cX12_vouch 5 = .ok (.aload_n 0, 1) := by decide +kernel
theorem dX12_vouch_6 : decode cX12_vouch 6 = .ok (.iconst 0, 1) := by decide +kernel
theorem dX12_vouch_7 : decode cX12_vouch 7 = .ok (.putfield 75, 3) := by decide +kernel
theorem dX12_vouch_10 : decode cX12_vouch 10 = .ok (.aload_n 0, 1) := by decide +kernel
theorem dX12_vouch_11 : decode cX12_vouch 11 = .ok (.iload_n 1, 1) := by decide +kernel
theorem dX12_vouch_12 : decode cX12_vouch 12 = .ok (.invokevirtual 330, 3) := by decide +kernel
theorem dX12_vouch_15 : decode cX12_vouch 15 = .ok (.ifCond .ne 9, 3) := by decide +kernel
theorem dX12_vouch_18 : decode cX12_vouch 18 = .ok (.aload_n 0, 1) := by decide +kernel
theorem dX12_vouch_19 : decode cX12_vouch 19 = .ok (.iconst 2, 1) := by decide +kernel
theorem dX12_vouch_20 : decode cX12_vouch 20 = .ok (.invokevirtual 318, 3) := by decide +kernel
theorem dX12_vouch_23 : decode cX12_vouch 23 = .ok (.ireturn, 1) := by decide +kernel
theorem dX12_vouch_24 : decode cX12_vouch 24 = .ok (.aload_n 0, 1) := by decide +kernel
theorem dX12_vouch_25 : decode cX12_vouch 25 = .ok (.iload_n 1, 1) := by decide +kernel
theorem dX12_vouch_26 : decode cX12_vouch 26 = .ok (.invokevirtual 304, 3) := by decide +kernel
theorem dX12_vouch_29 : decode cX12_vouch 29 = .ok (.ifCond .ne 10, 3) := by decide +kernel
theorem dX12_vouch_32 : decode cX12_vouch 32 = .ok (.aload_n 0, 1) := by decide +kernel
theorem dX12_vouch_33 : decode cX12_vouch 33 = .ok (.bipush 9, 2) := by decide +kernel
theorem dX12_vouch_35 : decode cX12_vouch 35 = .ok (.invokevirtual 318, 3) := by decide +kernel
theorem dX12_vouch_38 : decode cX12_vouch 38 = .ok (.ireturn, 1) := by decide +kernel
theorem dX12_vouch_39 : decode cX12_vouch 39 = .ok (.aload_n 0, 1) := by decide +kernel
theorem dX12_vouch_40 : decode cX12_vouch 40 = .ok (.getfield 35, 3) := by decide +kernel
theorem dX12_vouch_43 : decode cX12_vouch 43 = .ok (.bipush 38, 2) := by decide +kernel
theorem dX12_vouch_45 : decode cX12_vouch 45 = .ok (.iload_n 1, 1) := by decide +kernel
theorem dX12_vouch_46 : decode cX12_vouch 46 = .ok (.iadd, 1) := by decide +kernel
theorem dX12_vouch_47 : decode cX12_vouch 47 = .ok (.iaload, 1) := by decide +kernel
theorem dX12_vouch_48 : decode cX12_vouch 48 = .ok (.istore_n 2, 1) := by decide +kernel
theorem dX12_vouch_49 : decode cX12_vouch 49 = .ok (.aload_n 0, 1) := by decide +kernel
theorem dX12_vouch_50 : decode cX12_vouch 50 = .ok (.getfield 35, 3) := by decide +kernel
theorem dX12_vouch_53 : decode cX12_vouch 53 = .ok (.bipush 38, 2) := by decide +kernel
theorem dX12_vouch_55 : decode cX12_vouch 55 = .ok (.iload_n 1, 1) := by decide +kernel
theorem dX12_vouch_56 : decode cX12_vouch 56 = .ok (.iadd, 1) := by decide +kernel
theorem dX12_vouch_57 : decode cX12_vouch 57 = .ok (.aload_n 0, 1) := by decide +kernel
theorem dX12_vouch_58 : decode cX12_vouch 58 = .ok (.getfield 35, 3) := by decide +kernel
theorem dX12_vouch_61 : decode cX12_vouch 61 = .ok (.bipush 13, 2) := by decide +kernel
theorem dX12_vouch_63 : decode cX12_vouch 63 = .ok (.iload_n 1, 1) := by decide +kernel
theorem dX12_vouch_64 : decode cX12_vouch 64 = .ok (.iadd, 1) := by decide +kernel
theorem dX12_vouch_65 : decode cX12_vouch 65 = .ok (.iaload, 1) := by decide +kernel
theorem dX12_vouch_66 : decode cX12_vouch 66 = .ok (.iastore, 1) := by decide +kernel
theorem dX12_vouch_67 : decode cX12_vouch 67 = .ok (.iload_n 2, 1) := by decide +kernel
theorem dX12_vouch_68 : decode cX12_vouch 68 = .ok (.ireturn, 1) := by decide +kernel
theorem dX12_enact_0 : decode cX12_enact 0 = .ok (.aload_n 0, 1) := by decide +kernel
theorem dX12_enact_1 : decode cX12_enact 1 = .ok (.iconst 0, 1) := by decide +kernel
theorem dX12_enact_2 : decode cX12_enact 2 = .ok (.putfield 72, 3) := by decide +kernel
theorem dX12_enact_5 : decode cX12_enact 5 = .ok (.aload_n 0, 1) := by decide +kernel
theorem dX12_enact_6 : decode cX12_enact 6 = .ok (.iconst 0, 1) := by decide +kernel
theorem dX12_enact_7 : decode cX12_enact 7 = .ok (.putfield 75, 3) := by decide +kernel
theorem dX12_enact_10 : decode cX12_enact 10 = .ok (.iload_n 1, 1) := by decide +kernel
theorem dX12_enact_11 : decode cX12_enact 11 = .ok (.i2l, 1) := by decide +kernel
theorem dX12_enact_12 : decode cX12_enact 12 = .ok (.lconst 0, 1) := by decide +kernel
theorem dX12_enact_13 : decode cX12_enact 13 = .ok (.ldc2_w 249, 3) := by decide +kernel
theorem dX12_enact_16 : decode cX12_enact 16 = .ok (.invokestatic 107, 3) := by decide +kernel
theorem dX12_enact_19 : decode cX12_enact 19 = .ok (.ifCond .eq 44, 3) := by decide +kernel
theorem dX12_enact_22 : decode cX12_enact 22 = .ok (.iload_n 2, 1) := by decide +kernel
theorem dX12_enact_23 : decode cX12_enact 23 = .ok (.i2l, 1) := by decide +kernel
theorem dX12_enact_24 : decode cX12_enact 24 = .ok (.lconst 0, 1) := by decide +kernel
theorem dX12_enact_25 : decode cX12_enact 25 = .ok (.ldc2_w 249, 3) := by decide +kernel
theorem dX12_enact_28 : decode cX12_enact 28 = .ok (.invokestatic 107, 3) := by decide +kernel
theorem dX12_enact_31 : decode cX12_enact 31 = .ok (.ifCond .eq 32, 3) := by decide +kernel
theorem dX12_enact_34 : decode cX12_enact 34 = .ok (.iload_n 3, 1) := by decide +kernel
theorem dX12_enact_35 : decode cX12_enact 35 = .ok (.i2l, 1) := by decide +kernel
theorem dX12_enact_36 : decode cX12_enact 36 = .ok (.lconst 0, 1) := by decide +kernel
theorem dX12_enact_37 : decode cX12_enact 37 = .ok (.ldc2_w 368, 3) := by decide +kernel
theorem dX12_enact_40 : decode cX12_enact 40 = .ok (.invokestatic 107, 3) := by decide +kernel
theorem dX12_enact_43 : decode cX12_enact 43 = .ok (.ifCond .eq 20, 3) := by decide +kernel
theorem dX12_enact_46 : decode cX12_enact 46 = .ok (.iload_n 3, 1) := by decide +kernel
theorem dX12_enact_47 : decode cX12_enact 47 = .ok (.ifCond .le 22, 3) := by decide +kernel
theorem dX12_enact_50 : decode cX12_enact 50 = .ok (.iload 4, 2) := by decide +kernel
theorem dX12_enact_52 : decode cX12_enact 52 = .ok (.i2l, 1) := by decide +kernel
theorem dX12_enact_53 : decode cX12_enact 53 = .ok (.lconst 0, 1) := by decide +kernel
theorem dX12_enact_54 : decode cX12_enact 54 = .ok (.ldc2_w 249, 3) := by decide +kernel
theorem dX12_enact_57 : decode cX12_enact 57 = .ok (.invokestatic 107, 3) := by decide +kernel
theorem dX12_enact_60 : decode cX12_enact 60 = .ok (.ifCond .ne 9, 3) := by decide +kernel
theorem dX12_enact_63 : decode cX12_enact 63 = .ok (.aload_n 0, 1) := by decide +kernel
theorem dX12_enact_64 : decode cX12_enact 64 = .ok (.iconst 5, 1) := by decide +kernel
theorem dX12_enact_65 : decode cX12_enact 65 = .ok (.invokevirtual 318, 3) := by decide +kernel
theorem dX12_enact_68 : decode cX12_enact 68 = .ok (.ireturn, 1) := by decide +kernel
theorem dX12_enact_69 : decode cX12_enact 69 = .ok (.aload_n 0, 1) := by decide +kernel
theorem dX12_enact_70 : decode cX12_enact 70 = .ok (.getfield 35, 3) := by decide +kernel
theorem dX12_enact_73 : decode cX12_enact 73 = .ok (.iconst 1, 1) := by decide +kernel
theorem dX12_enact_74 : decode cX12_enact 74 = .ok (.iaload, 1) := by decide +kernel
theorem dX12_enact_75 : decode cX12_enact 75 = .ok (.istore 5, 2) := by decide +kernel
theorem dX12_enact_77 : decode cX12_enact 77 = .ok (.iload 5, 2) := by decide +kernel
theorem dX12_enact_79 : decode cX12_enact 79 = .ok (.bipush 10, 2) := by decide +kernel
theorem dX12_enact_81 : decode cX12_enact 81 = .ok (.if_icmp .ne 10, 3) := by decide +kernel
theorem dX12_enact_84 : decode cX12_enact 84 = .ok (.aload_n 0, 1) := by decide +kernel
theorem dX12_enact_85 : decode cX12_enact 85 = .ok (.bipush 7, 2) := by decide +kernel
theorem dX12_enact_87 : decode cX12_enact 87 = .ok (.invokevirtual 318, 3) := by decide +kernel
theorem dX12_enact_90 : decode cX12_enact 90 = .ok (.ireturn, 1) := by decide +kernel
theorem dX12_enact_91 : decode cX12_enact 91 = .ok (.aload_n 0, 1) := by decide +kernel
theorem dX12_enact_92 : decode cX12_enact 92 = .ok (.iconst 0, 1) := by decide +kernel
theorem dX12_enact_93 : decode cX12_enact 93 = .ok (.iload 5, 2) := by decide +kernel
theorem dX12_enact_95 : decode cX12_enact 95 = .ok (.iload_n 1, 1) := by decide +kernel
theorem dX12_enact_96 : decode cX12_enact 96 = .ok (.iload_n 2, 1) := by decide +kernel
theorem dX12_enact_97 : decode cX12_enact 97 = .ok (.iload_n 3, 1) := by decide +kernel
theorem dX12_enact_98 : decode cX12_enact 98 = .ok (.iload_n 3, 1) := by decide +kernel
theorem dX12_enact_99 : decode cX12_enact 99 = .ok (.ifCond .ne 7, 3) := by decide +kernel
theorem dX12_enact_102 : decode cX12_enact 102 = .ok (.iconst 0, 1) := by decide +kernel
theorem dX12_enact_103 : decode cX12_enact 103 = .ok (.goto 5, 3) := by decide +kernel
theorem dX12_enact_106 : decode cX12_enact 106 = .ok (.iload 4, 2) := by decide +kernel
theorem dX12_enact_108 : decode cX12_enact 108 = .ok (.invokevirtual 251, 3) := by decide +kernel
theorem dX12_enact_111 : decode cX12_enact 111 = .ok (.iload 5, 2) := by decide +kernel
theorem dX12_enact_113 : decode cX12_enact 113 = .ok (.ireturn, 1) := by decide +kernel
theorem dX12_repeal_0 : decode cX12_repeal 0 = .ok (.aload_n 0, 1) := by decide +kernel
theorem dX12_repeal_1 : decode cX12_repeal 1 = .ok (.iconst 0, 1) := by decide +kernel
theorem dX12_repeal_2 : decode cX12_repeal 2 = .ok (.putfield 72, 3) := by decide +kernel
theorem dX12_repeal_5 : decode cX12_repeal 5 = .ok (.aload_n 0, 1) := by decide +kernel
theorem dX12_repeal_6 : decode cX12_repeal 6 = .ok (.iconst 0, 1) := by decide +kernel
theorem dX12_repeal_7 : decode cX12_repeal 7 = .ok (.putfield 75, 3) := by decide +kernel
theorem dX12_repeal_10 : decode cX12_repeal 10 = .ok (.aload_n 0, 1) := by decide +kernel
theorem dX12_repeal_11 : decode cX12_repeal 11 = .ok (.iload_n 1, 1) := by decide +kernel
theorem dX12_repeal_12 : decode cX12_repeal 12 = .ok (.invokevirtual 340, 3) := by decide +kernel
theorem dX12_repeal_15 : decode cX12_repeal 15 = .ok (.ifCond .ne 9, 3) := by decide +kernel
theorem dX12_repeal_18 : decode cX12_repeal 18 = .ok (.aload_n 0, 1) := by decide +kernel
theorem dX12_repeal_19 : decode cX12_repeal 19 = .ok (.iconst 2, 1) := by decide +kernel
theorem dX12_repeal_20 : decode cX12_repeal 20 = .ok (.invokevirtual 318, 3) := by decide +kernel
theorem dX12_repeal_23 : decode cX12_repeal 23 = .ok (.ireturn, 1) := by decide +kernel
theorem dX12_repeal_24 : decode cX12_repeal 24 = .ok (.aload_n 0, 1) := by decide +kernel
theorem dX12_repeal_25 : decode cX12_repeal 25 = .ok (.getfield 35, 3) := by decide +kernel
theorem dX12_repeal_28 : decode cX12_repeal 28 = .ok (.iconst 1, 1) := by decide +kernel
theorem dX12_repeal_29 : decode cX12_repeal 29 = .ok (.dup2, 1) := by decide +kernel
theorem dX12_repeal_30 : decode cX12_repeal 30 = .ok (.iaload, 1) := by decide +kernel
theorem dX12_repeal_31 : decode cX12_repeal 31 = .ok (.iconst 1, 1) := by decide +kernel
theorem dX12_repeal_32 : decode cX12_repeal 32 = .ok (.isub, 1) := by decide +kernel
theorem dX12_repeal_33 : decode cX12_repeal 33 = .ok (.iastore, 1) := by decide +kernel
theorem dX12_repeal_34 : decode cX12_repeal 34 = .ok (.iload_n 1, 1) := by decide +kernel
theorem dX12_repeal_35 : decode cX12_repeal 35 = .ok (.istore_n 2, 1) := by decide +kernel
theorem dX12_repeal_36 : decode cX12_repeal 36 = .ok (.iload_n 2, 1) := by decide +kernel
theorem dX12_repeal_37 : decode cX12_repeal 37 = .ok (.aload_n 0, 1) := by decide +kernel
theorem dX12_repeal_38 : decode cX12_repeal 38 = .ok (.getfield 35, 3) := by decide +kernel
theorem dX12_repeal_41 : decode cX12_repeal 41 = .ok (.iconst 1, 1) := by decide +kernel
theorem dX12_repeal_42 : decode cX12_repeal 42 = .ok (.iaload, 1) := by decide +kernel
theorem dX12_repeal_43 : decode cX12_repeal 43 = .ok (.if_icmp .ge 89, 3) := by decide +kernel
theorem dX12_repeal_46 : decode cX12_repeal 46 = .ok (.aload_n 0, 1) := by decide +kernel
theorem dX12_repeal_47 : decode cX12_repeal 47 = .ok (.getfield 35, 3) := by decide +kernel
theorem dX12_repeal_50 : decode cX12_repeal 50 = .ok (.bipush 88, 2) := by decide +kernel
theorem dX12_repeal_52 : decode cX12_repeal 52 = .ok (.iload_n 2, 1) := by decide +kernel
theorem dX12_repeal_53 : decode cX12_repeal 53 = .ok (.iadd, 1) := by decide +kernel
theorem dX12_repeal_54 : decode cX12_repeal 54 = .ok (.aload_n 0, 1) := by decide +kernel
theorem dX12_repeal_55 : decode cX12_repeal 55 = .ok (.getfield 35, 3) := by decide +kernel
theorem dX12_repeal_58 : decode cX12_repeal 58 = .ok (.bipush 88, 2) := by decide +kernel
theorem dX12_repeal_60 : decode cX12_repeal 60 = .ok (.iload_n 2, 1) := by decide +kernel
theorem dX12_repeal_61 : decode cX12_repeal 61 = .ok (.iadd, 1) := by decide +kernel
theorem dX12_repeal_62 : decode cX12_repeal 62 = .ok (.iconst 1, 1) := by decide +kernel
theorem dX12_repeal_63 : decode cX12_repeal 63 = .ok (.iadd, 1) := by decide +kernel
theorem dX12_repeal_64 : decode cX12_repeal 64 = .ok (.iaload, 1) := by decide +kernel
theorem dX12_repeal_65 : decode cX12_repeal 65 = .ok (.iastore, 1) := by decide +kernel
theorem dX12_repeal_66 : decode cX12_repeal 66 = .ok (.aload_n 0, 1) := by decide +kernel
theorem dX12_repeal_67 : decode cX12_repeal 67 = .ok (.getfield 35, 3) := by decide +kernel
theorem dX12_repeal_70 : decode cX12_repeal 70 = .ok (.bipush 98, 2) := by decide +kernel
theorem dX12_repeal_72 : decode cX12_repeal 72 = .ok (.iload_n 2, 1) := by decide +kernel
theorem dX12_repeal_73 : decode cX12_repeal 73 = .ok (.iadd, 1) := by decide +kernel
theorem dX12_repeal_74 : decode cX12_repeal 74 = .ok (.aload_n 0, 1) := by decide +kernel
theorem dX12_repeal_75 : decode cX12_repeal 75 = .ok (.getfield 35, 3) := by decide +kernel
theorem dX12_repeal_78 : decode cX12_repeal 78 = .ok (.bipush 98, 2) := by decide +kernel
theorem dX12_repeal_80 : decode cX12_repeal 80 = .ok (.iload_n 2, 1) := by decide +kernel
theorem dX12_repeal_81 : decode cX12_repeal 81 = .ok (.iadd, 1) := by decide +kernel
theorem dX12_repeal_82 : decode cX12_repeal 82 = .ok (.iconst 1, 1) := by decide +kernel
theorem dX12_repeal_83 : decode cX12_repeal 83 = .ok (.iadd, 1) := by decide +kernel
theorem dX12_repeal_84 : decode cX12_repeal 84 = .ok (.iaload, 1) := by decide +kernel
theorem dX12_repeal_85 : decode cX12_repeal 85 = .ok (.iastore, 1) := by decide +kernel
theorem dX12_repeal_86 : decode cX12_repeal 86 = .ok (.aload_n 0, 1) := by decide +kernel
theorem dX12_repeal_87 : decode cX12_repeal 87 = .ok (.getfield 35, 3) := by decide +kernel
theorem dX12_repeal_90 : decode cX12_repeal 90 = .ok (.bipush 108, 2) := by decide +kernel
theorem dX12_repeal_92 : decode cX12_repeal 92 = .ok (.iload_n 2, 1) := by decide +kernel
theorem dX12_repeal_93 : decode cX12_repeal 93 = .ok (.iadd, 1) := by decide +kernel
theorem dX12_repeal_94 : decode cX12_repeal 94 = .ok (.aload_n 0, 1) := by decide +kernel
theorem dX12_repeal_95 : decode cX12_repeal 95 = .ok (.getfield 35, 3) := by decide +kernel
theorem dX12_repeal_98 : decode cX12_repeal 98 = .ok (.bipush 108, 2) := by decide +kernel
theorem dX12_repeal_100 : decode cX12_repeal 100 = .ok (.iload_n 2, 1) := by decide +kernel
theorem dX12_repeal_101 : decode cX12_repeal 101 = .ok (.iadd, 1) := by decide +kernel
theorem dX12_repeal_102 : decode cX12_repeal 102 = .ok (.iconst 1, 1) := by decide +kernel
theorem dX12_repeal_103 : decode cX12_repeal 103 = .ok (.iadd, 1) := by decide +kernel
theorem dX12_repeal_104 : decode cX12_repeal 104 = .ok (.iaload, 1) := by decide +kernel
theorem dX12_repeal_105 : decode cX12_repeal 105 = .ok (.iastore, 1) := by decide +kernel
theorem dX12_repeal_106 : decode cX12_repeal 106 = .ok (.aload_n 0, 1) := by decide +kernel
theorem dX12_repeal_107 : decode cX12_repeal 107 = .ok (.getfield 35, 3) := by decide +kernel
theorem dX12_repeal_110 : decode cX12_repeal 110 = .ok (.bipush 118, 2) := by decide +kernel
theorem dX12_repeal_112 : decode cX12_repeal 112 = .ok (.iload_n 2, 1) := by decide +kernel
theorem dX12_repeal_113 : decode cX12_repeal 113 = .ok (.iadd, 1) := by decide +kernel
theorem dX12_repeal_114 : decode cX12_repeal 114 = .ok (.aload_n 0, 1) := by decide +kernel
theorem dX12_repeal_115 : decode cX12_repeal 115 = .ok (.getfield 35, 3) := by decide +kernel
theorem dX12_repeal_118 : decode cX12_repeal 118 = .ok (.bipush 118, 2) := by decide +kernel
theorem dX12_repeal_120 : decode cX12_repeal 120 = .ok (.iload_n 2, 1) := by decide +kernel
theorem dX12_repeal_121 : decode cX12_repeal 121 = .ok (.iadd, 1) := by decide +kernel
theorem dX12_repeal_122 : decode cX12_repeal 122 = .ok (.iconst 1, 1) := by decide +kernel
theorem dX12_repeal_123 : decode cX12_repeal 123 = .ok (.iadd, 1) := by decide +kernel
theorem dX12_repeal_124 : decode cX12_repeal 124 = .ok (.iaload, 1) := by decide +kernel
theorem dX12_repeal_125 : decode cX12_repeal 125 = .ok (.iastore, 1) := by decide +kernel
theorem dX12_repeal_126 : decode cX12_repeal 126 = .ok (.iinc 2 1, 3) := by decide +kernel
theorem dX12_repeal_129 : decode cX12_repeal 129 = .ok (.goto (-93), 3) := by decide +kernel
theorem dX12_repeal_132 : decode cX12_repeal 132 = .ok (.aload_n 0, 1) := by decide +kernel
theorem dX12_repeal_133 : decode cX12_repeal 133 = .ok (.getfield 35, 3) := by decide +kernel
theorem dX12_repeal_136 : decode cX12_repeal 136 = .ok (.iconst 1, 1) := by decide +kernel
theorem dX12_repeal_137 : decode cX12_repeal 137 = .ok (.iaload, 1) := by decide +kernel
theorem dX12_repeal_138 : decode cX12_repeal 138 = .ok (.ireturn, 1) := by decide +kernel
theorem dX12_rule_0 : decode cX12_rule 0 = .ok (.aload_n 0, 1) := by decide +kernel
theorem dX12_rule_1 : decode cX12_rule 1 = .ok (.iconst 0, 1) := by decide +kernel
theorem dX12_rule_2 : decode cX12_rule 2 = .ok (.putfield 72, 3) := by decide +kernel
theorem dX12_rule_5 : decode cX12_rule 5 = .ok (.aload_n 0, 1) := by decide +kernel
theorem dX12_rule_6 : decode cX12_rule 6 = .ok (.iconst 0, 1) := by decide +kernel
theorem dX12_rule_7 : decode cX12_rule 7 = .ok (.putfield 75, 3) := by decide +kernel
theorem dX12_rule_10 : decode cX12_rule 10 = .ok (.iload_n 1, 1) := by decide +kernel
theorem dX12_rule_11 : decode cX12_rule 11 = .ok (.i2l, 1) := by decide +kernel
theorem dX12_rule_12 : decode cX12_rule 12 = .ok (.ldc2_w 105, 3) := by decide +kernel
theorem dX12_rule_15 : decode cX12_rule 15 = .ok (.ldc2_w 368, 3) := by decide +kernel
theorem dX12_rule_18 : decode cX12_rule 18 = .ok (.invokestatic 107, 3) := by decide +kernel
theorem dX12_rule_21 : decode cX12_rule 21 = .ok (.ifCond .eq 35, 3) := by decide +kernel
theorem dX12_rule_24 : decode cX12_rule 24 = .ok (.iload_n 2, 1) := by decide +kernel
theorem dX12_rule_25 : decode cX12_rule 25 = .ok (.i2l, 1) := by decide +kernel
theorem dX12_rule_26 : decode cX12_rule 26 = .ok (.iload_n 1, 1) := by decide +kernel
theorem dX12_rule_27 : decode cX12_rule 27 = .ok (.iconst 3, 1) := by decide +kernel
theorem dX12_rule_28 : decode cX12_rule 28 = .ok (.if_icmp .ne 7, 3) := by decide +kernel
theorem dX12_rule_31 : decode cX12_rule 31 = .ok (.lconst 1, 1) := by decide +kernel
theorem dX12_rule_32 : decode cX12_rule 32 = .ok (.goto 4, 3) := by decide +kernel
theorem dX12_rule_35 : decode cX12_rule 35 = .ok (.lconst 0, 1) := by decide +kernel
theorem dX12_rule_36 : decode cX12_rule 36 = .ok (.iload_n 1, 1) := by decide +kernel
theorem dX12_rule_37 : decode cX12_rule 37 = .ok (.iconst 3, 1) := by decide +kernel
theorem dX12_rule_38 : decode cX12_rule 38 = .ok (.if_icmp .ne 9, 3) := by decide +kernel
theorem dX12_rule_41 : decode cX12_rule 41 = .ok (.ldc2_w 249, 3) := by decide +kernel
theorem dX12_rule_44 : decode cX12_rule 44 = .ok (.goto 6, 3) := by decide +kernel
theorem dX12_rule_47 : decode cX12_rule 47 = .ok (.ldc2_w 381, 3) := by decide +kernel
theorem dX12_rule_50 : decode cX12_rule 50 = .ok (.invokestatic 107, 3) := by decide +kernel
theorem dX12_rule_53 : decode cX12_rule 53 = .ok (.ifCond .ne 9, 3) := by decide +kernel
theorem dX12_rule_56 : decode cX12_rule 56 = .ok (.aload_n 0, 1) := by decide +kernel
theorem dX12_rule_57 : decode cX12_rule 57 = .ok (.iconst 5, 1) := by decide +kernel
theorem dX12_rule_58 : decode cX12_rule 58 = .ok (.invokevirtual 87, 3) := by decide +kernel
theorem dX12_rule_61 : decode cX12_rule 61 = .ok (.ireturn, 1) := by decide +kernel
theorem dX12_rule_62 : decode cX12_rule 62 = .ok (.aload_n 0, 1) := by decide +kernel
theorem dX12_rule_63 : decode cX12_rule 63 = .ok (.getfield 35, 3) := by decide +kernel
theorem dX12_rule_66 : decode cX12_rule 66 = .ok (.iload_n 1, 1) := by decide +kernel
theorem dX12_rule_67 : decode cX12_rule 67 = .ok (.iload_n 2, 1) := by decide +kernel
theorem dX12_rule_68 : decode cX12_rule 68 = .ok (.iastore, 1) := by decide +kernel
theorem dX12_rule_69 : decode cX12_rule 69 = .ok (.iconst 1, 1) := by decide +kernel
theorem dX12_rule_70 : decode cX12_rule 70 = .ok (.ireturn, 1) := by decide +kernel
theorem dX12_puts_0 : decode cX12_puts 0 = .ok (.iconst 0, 1) := by decide +kernel
theorem dX12_puts_1 : decode cX12_puts 1 = .ok (.istore_n 1, 1) := by decide +kernel
theorem dX12_puts_2 : decode cX12_puts 2 = .ok (.iload_n 1, 1) := by decide +kernel
theorem dX12_puts_3 : decode cX12_puts 3 = .ok (.sipush 128, 3) := by decide +kernel
theorem dX12_puts_6 : decode cX12_puts 6 = .ok (.if_icmp .ge 21, 3) := by decide +kernel
theorem dX12_puts_9 : decode cX12_puts 9 = .ok (.aload_n 0, 1) := by decide +kernel
theorem dX12_puts_10 : decode cX12_puts 10 = .ok (.getfield 38, 3) := by decide +kernel
theorem dX12_puts_13 : decode cX12_puts 13 = .ok (.iload_n 1, 1) := by decide +kernel
theorem dX12_puts_14 : decode cX12_puts 14 = .ok (.aload_n 0, 1) := by decide +kernel
theorem dX12_puts_15 : decode cX12_puts 15 = .ok (.getfield 35, 3) := by decide +kernel
theorem dX12_puts_18 : decode cX12_puts 18 = .ok (.iload_n 1, 1) := by decide +kernel
theorem dX12_puts_19 : decode cX12_puts 19 = .ok (.iaload, 1) := by decide +kernel
theorem dX12_puts_20 : decode cX12_puts 20 = .ok (.iastore, 1) := by decide +kernel
theorem dX12_puts_21 : decode cX12_puts 21 = .ok (.iinc 1 1, 3) := by decide +kernel
theorem dX12_puts_24 : decode cX12_puts 24 = .ok (.goto (-22), 3) := by decide +kernel
theorem dX12_puts_27 : decode cX12_puts 27 = .ok (.return_, 1) := by decide +kernel
theorem dX12_gives_0 : decode cX12_gives 0 = .ok (.iconst 0, 1) := by decide +kernel
theorem dX12_gives_1 : decode cX12_gives 1 = .ok (.istore_n 1, 1) := by decide +kernel
theorem dX12_gives_2 : decode cX12_gives 2 = .ok (.iload_n 1, 1) := by decide +kernel
theorem dX12_gives_3 : decode cX12_gives 3 = .ok (.sipush 128, 3) := by decide +kernel
theorem dX12_gives_6 : decode cX12_gives 6 = .ok (.if_icmp .ge 21, 3) := by decide +kernel
theorem dX12_gives_9 : decode cX12_gives 9 = .ok (.aload_n 0, 1) := by decide +kernel
theorem dX12_gives_10 : decode cX12_gives 10 = .ok (.getfield 35, 3) := by decide +kernel
theorem dX12_gives_13 : decode cX12_gives 13 = .ok (.iload_n 1, 1) := by decide +kernel
theorem dX12_gives_14 : decode cX12_gives 14 = .ok (.aload_n 0, 1) := by decide +kernel
theorem dX12_gives_15 : decode cX12_gives 15 = .ok (.getfield 38, 3) := by decide +kernel
theorem dX12_gives_18 : decode cX12_gives 18 = .ok (.iload_n 1, 1) := by decide +kernel
theorem dX12_gives_19 : decode cX12_gives 19 = .ok (.iaload, 1) := by decide +kernel
theorem dX12_gives_20 : decode cX12_gives 20 = .ok (.iastore, 1) := by decide +kernel
theorem dX12_gives_21 : decode cX12_gives 21 = .ok (.iinc 1 1, 3) := by decide +kernel
theorem dX12_gives_24 : decode cX12_gives 24 = .ok (.goto (-22), 3) := by decide +kernel
theorem dX12_gives_27 : decode cX12_gives 27 = .ok (.return_, 1) := by decide +kernel
theorem dX12_isAhead_0 : decode cX12_isAhead 0 = .ok (.iload_n 0, 1) := by decide +kernel
theorem dX12_isAhead_1 : decode cX12_isAhead 1 = .ok (.i2l, 1) := by decide +kernel
theorem dX12_isAhead_2 : decode cX12_isAhead 2 = .ok (.lconst 0, 1) := by decide +kernel
theorem dX12_isAhead_3 : decode cX12_isAhead 3 = .ok (.ldc2_w 383, 3) := by decide +kernel
theorem dX12_isAhead_6 : decode cX12_isAhead 6 = .ok (.invokestatic 107, 3) := by decide +kernel
theorem dX12_isAhead_9 : decode cX12_isAhead 9 = .ok (.ireturn, 1) := by decide +kernel
theorem dX12_digitIn_0 : decode cX12_digitIn 0 = .ok (.aload_n 0, 1) := by decide +kernel
theorem dX12_digitIn_1 : decode cX12_digitIn 1 = .ok (.iconst 0, 1) := by decide +kernel
theorem dX12_digitIn_2 : decode cX12_digitIn 2 = .ok (.putfield 72, 3) := by decide +kernel
theorem dX12_digitIn_5 : decode cX12_digitIn 5 = .ok (.aload_n 0, 1) := by decide +kernel
theorem dX12_digitIn_6 : decode cX12_digitIn 6 = .ok (.iconst 0, 1) := by decide +kernel
theorem dX12_digitIn_7 : decode cX12_digitIn 7 = .ok (.putfield 75, 3) := by decide +kernel
theorem dX12_digitIn_10 : decode cX12_digitIn 10 = .ok (.aload_n 0, 1) := by decide +kernel
theorem dX12_digitIn_11 : decode cX12_digitIn 11 = .ok (.iload_n 1, 1) := by decide +kernel
theorem dX12_digitIn_12 : decode cX12_digitIn 12 = .ok (.invokevirtual 330, 3) := by decide +kernel
theorem dX12_digitIn_15 : decode cX12_digitIn 15 = .ok (.ifCond .ne 9, 3) := by decide +kernel
theorem dX12_digitIn_18 : decode cX12_digitIn 18 = .ok (.aload_n 0, 1) := by decide +kernel
theorem dX12_digitIn_19 : decode cX12_digitIn 19 = .ok (.iconst 2, 1) := by decide +kernel
theorem dX12_digitIn_20 : decode cX12_digitIn 20 = .ok (.invokevirtual 318, 3) := by decide +kernel
theorem dX12_digitIn_23 : decode cX12_digitIn 23 = .ok (.ireturn, 1) := by decide +kernel
theorem dX12_digitIn_24 : decode cX12_digitIn 24 = .ok (.iload_n 2, 1) := by decide +kernel
theorem dX12_digitIn_25 : decode cX12_digitIn 25 = .ok (.invokestatic 385, 3) := by decide +kernel
theorem dX12_digitIn_28 : decode cX12_digitIn 28 = .ok (.ifCond .ne 9, 3) := by decide +kernel
theorem dX12_digitIn_31 : decode cX12_digitIn 31 = .ok (.aload_n 0, 1) := by decide +kernel
theorem dX12_digitIn_32 : decode cX12_digitIn 32 = .ok (.iconst 5, 1) := by decide +kernel
theorem dX12_digitIn_33 : decode cX12_digitIn 33 = .ok (.invokevirtual 318, 3) := by decide +kernel
theorem dX12_digitIn_36 : decode cX12_digitIn 36 = .ok (.ireturn, 1) := by decide +kernel
theorem dX12_digitIn_37 : decode cX12_digitIn 37 = .ok (.aload_n 0, 1) := by decide +kernel
theorem dX12_digitIn_38 : decode cX12_digitIn 38 = .ok (.invokevirtual 388, 3) := by decide +kernel
theorem dX12_digitIn_41 : decode cX12_digitIn 41 = .ok (.iconst 0, 1) := by decide +kernel
theorem dX12_digitIn_42 : decode cX12_digitIn 42 = .ok (.istore_n 3, 1) := by decide +kernel
theorem dX12_digitIn_43 : decode cX12_digitIn 43 = .ok (.iload_n 3, 1) := by decide +kernel
theorem dX12_digitIn_44 : decode cX12_digitIn 44 = .ok (.iload_n 2, 1) := by decide +kernel
theorem dX12_digitIn_45 : decode cX12_digitIn 45 = .ok (.if_icmp .ge 14, 3) := by decide +kernel
theorem dX12_digitIn_48 : decode cX12_digitIn 48 = .ok (.aload_n 0, 1) := by decide +kernel
theorem dX12_digitIn_49 : decode cX12_digitIn 49 = .ok (.invokevirtual 365, 3) := by decide +kernel
theorem dX12_digitIn_52 : decode cX12_digitIn 52 = .ok (.pop, 1) := by decide +kernel
theorem dX12_digitIn_53 : decode cX12_digitIn 53 = .ok (.iinc 3 1, 3) := by decide +kernel
theorem dX12_digitIn_56 : decode cX12_digitIn 56 = .ok (.goto (-13), 3) := by decide +kernel
theorem dX12_digitIn_59 : decode cX12_digitIn 59 = .ok (.aload_n 0, 1) := by decide +kernel
theorem dX12_digitIn_60 : decode cX12_digitIn 60 = .ok (.getfield 35, 3) := by decide +kernel
theorem dX12_digitIn_63 : decode cX12_digitIn 63 = .ok (.bipush 13, 2) := by decide +kernel
theorem dX12_digitIn_65 : decode cX12_digitIn 65 = .ok (.iload_n 1, 1) := by decide +kernel
theorem dX12_digitIn_66 : decode cX12_digitIn 66 = .ok (.iadd, 1) := by decide +kernel
theorem dX12_digitIn_67 : decode cX12_digitIn 67 = .ok (.iaload, 1) := by decide +kernel
theorem dX12_digitIn_68 : decode cX12_digitIn 68 = .ok (.istore_n 3, 1) := by decide +kernel
theorem dX12_digitIn_69 : decode cX12_digitIn 69 = .ok (.aload_n 0, 1) := by decide +kernel
theorem dX12_digitIn_70 : decode cX12_digitIn 70 = .ok (.invokevirtual 391, 3) := by decide +kernel
theorem dX12_digitIn_73 : decode cX12_digitIn 73 = .ok (.iload_n 3, 1) := by decide +kernel
theorem dX12_digitIn_74 : decode cX12_digitIn 74 = .ok (.ireturn, 1) := by decide +kernel
theorem dX12_wrongIn_0 : decode cX12_wrongIn 0 = .ok (.aload_n 0, 1) := by decide +kernel
theorem dX12_wrongIn_1 : decode cX12_wrongIn 1 = .ok (.iconst 0, 1) := by decide +kernel
theorem dX12_wrongIn_2 : decode cX12_wrongIn 2 = .ok (.putfield 72, 3) := by decide +kernel
theorem dX12_wrongIn_5 : decode cX12_wrongIn 5 = .ok (.aload_n 0, 1) := by decide +kernel
theorem dX12_wrongIn_6 : decode cX12_wrongIn 6 = .ok (.iconst 0, 1) := by decide +kernel
theorem dX12_wrongIn_7 : decode cX12_wrongIn 7 = .ok (.putfield 75, 3) := by decide +kernel
theorem dX12_wrongIn_10 : decode cX12_wrongIn 10 = .ok (.iload_n 1, 1) := by decide +kernel
theorem dX12_wrongIn_11 : decode cX12_wrongIn 11 = .ok (.invokestatic 385, 3) := by decide +kernel
theorem dX12_wrongIn_14 : decode cX12_wrongIn 14 = .ok (.ifCond .ne 9, 3) := by decide +kernel
theorem dX12_wrongIn_17 : decode cX12_wrongIn 17 = .ok (.aload_n 0, 1) := by decide +kernel
theorem dX12_wrongIn_18 : decode cX12_wrongIn 18 = .ok (.iconst 5, 1) := by decide +kernel
theorem dX12_wrongIn_19 : decode cX12_wrongIn 19 = .ok (.invokevirtual 318, 3) := by decide +kernel
theorem dX12_wrongIn_22 : decode cX12_wrongIn 22 = .ok (.ireturn, 1) := by decide +kernel
theorem dX12_wrongIn_23 : decode cX12_wrongIn 23 = .ok (.aload_n 0, 1) := by decide +kernel
theorem dX12_wrongIn_24 : decode cX12_wrongIn 24 = .ok (.invokevirtual 388, 3) := by decide +kernel
theorem dX12_wrongIn_27 : decode cX12_wrongIn 27 = .ok (.iconst 0, 1) := by decide +kernel
theorem dX12_wrongIn_28 : decode cX12_wrongIn 28 = .ok (.istore_n 2, 1) := by decide +kernel
theorem dX12_wrongIn_29 : decode cX12_wrongIn 29 = .ok (.iload_n 2, 1) := by decide +kernel
theorem dX12_wrongIn_30 : decode cX12_wrongIn 30 = .ok (.iload_n 1, 1) := by decide +kernel
theorem dX12_wrongIn_31 : decode cX12_wrongIn 31 = .ok (.if_icmp .ge 14, 3) := by decide +kernel
theorem dX12_wrongIn_34 : decode cX12_wrongIn 34 = .ok (.aload_n 0, 1) := by decide +kernel
theorem dX12_wrongIn_35 : decode cX12_wrongIn 35 = .ok (.invokevirtual 365, 3) := by decide +kernel
theorem dX12_wrongIn_38 : decode cX12_wrongIn 38 = .ok (.pop, 1) := by decide +kernel
theorem dX12_wrongIn_39 : decode cX12_wrongIn 39 = .ok (.iinc 2 1, 3) := by decide +kernel
theorem dX12_wrongIn_42 : decode cX12_wrongIn 42 = .ok (.goto (-13), 3) := by decide +kernel
theorem dX12_wrongIn_45 : decode cX12_wrongIn 45 = .ok (.aload_n 0, 1) := by decide +kernel
theorem dX12_wrongIn_46 : decode cX12_wrongIn 46 = .ok (.invokevirtual 321, 3) := by decide +kernel
theorem dX12_wrongIn_49 : decode cX12_wrongIn 49 = .ok (.istore_n 2, 1) := by decide +kernel
theorem dX12_wrongIn_50 : decode cX12_wrongIn 50 = .ok (.aload_n 0, 1) := by decide +kernel
theorem dX12_wrongIn_51 : decode cX12_wrongIn 51 = .ok (.invokevirtual 391, 3) := by decide +kernel
theorem dX12_wrongIn_54 : decode cX12_wrongIn 54 = .ok (.iload_n 2, 1) := by decide +kernel
theorem dX12_wrongIn_55 : decode cX12_wrongIn 55 = .ok (.ireturn, 1) := by decide +kernel
theorem dX12_wrongBy_0 : decode cX12_wrongBy 0 = .ok (.aload_n 0, 1) := by decide +kernel
theorem dX12_wrongBy_1 : decode cX12_wrongBy 1 = .ok (.iconst 0, 1) := by decide +kernel
theorem dX12_wrongBy_2 : decode cX12_wrongBy 2 = .ok (.putfield 72, 3) := by decide +kernel
theorem dX12_wrongBy_5 : decode cX12_wrongBy 5 = .ok (.aload_n 0, 1) := by decide +kernel
theorem dX12_wrongBy_6 : decode cX12_wrongBy 6 = .ok (.iconst 0, 1) := by decide +kernel
theorem dX12_wrongBy_7 : decode cX12_wrongBy 7 = .ok (.putfield 75, 3) := by decide +kernel
theorem dX12_wrongBy_10 : decode cX12_wrongBy 10 = .ok (.aload_n 0, 1) := by decide +kernel
theorem dX12_wrongBy_11 : decode cX12_wrongBy 11 = .ok (.iload_n 1, 1) := by decide +kernel
theorem dX12_wrongBy_12 : decode cX12_wrongBy 12 = .ok (.invokevirtual 330, 3) := by decide +kernel
theorem dX12_wrongBy_15 : decode cX12_wrongBy 15 = .ok (.ifCond .ne 9, 3) := by decide +kernel
theorem dX12_wrongBy_18 : decode cX12_wrongBy 18 = .ok (.aload_n 0, 1) := by decide +kernel
theorem dX12_wrongBy_19 : decode cX12_wrongBy 19 = .ok (.iconst 2, 1) := by decide +kernel
theorem dX12_wrongBy_20 : decode cX12_wrongBy 20 = .ok (.invokevirtual 318, 3) := by decide +kernel
theorem dX12_wrongBy_23 : decode cX12_wrongBy 23 = .ok (.ireturn, 1) := by decide +kernel
theorem dX12_wrongBy_24 : decode cX12_wrongBy 24 = .ok (.iconst (-1), 1) := by decide +kernel
theorem dX12_wrongBy_25 : decode cX12_wrongBy 25 = .ok (.istore_n 2, 1) := by decide +kernel
theorem dX12_wrongBy_26 : decode cX12_wrongBy 26 = .ok (.aload_n 0, 1) := by decide +kernel
theorem dX12_wrongBy_27 : decode cX12_wrongBy 27 = .ok (.invokevirtual 388, 3) := by decide +kernel
theorem dX12_wrongBy_30 : decode cX12_wrongBy 30 = .ok (.iconst 0, 1) := by decide +kernel
theorem dX12_wrongBy_31 : decode cX12_wrongBy 31 = .ok (.istore_n 3, 1) := by decide +kernel
theorem dX12_wrongBy_32 : decode cX12_wrongBy 32 = .ok (.iload_n 3, 1) := by decide +kernel
theorem dX12_wrongBy_33 : decode cX12_wrongBy 33 = .ok (.sipush 300, 3) := by decide +kernel
theorem dX12_wrongBy_36 : decode cX12_wrongBy 36 = .ok (.if_icmp .gt 28, 3) := by decide +kernel
theorem dX12_wrongBy_39 : decode cX12_wrongBy 39 = .ok (.iload_n 2, 1) := by decide +kernel
theorem dX12_wrongBy_40 : decode cX12_wrongBy 40 = .ok (.ifCond .ge 24, 3) := by decide +kernel
theorem dX12_wrongBy_43 : decode cX12_wrongBy 43 = .ok (.aload_n 0, 1) := by decide +kernel
theorem dX12_wrongBy_44 : decode cX12_wrongBy 44 = .ok (.iload_n 1, 1) := by decide +kernel
theorem dX12_wrongBy_45 : decode cX12_wrongBy 45 = .ok (.invokevirtual 304, 3) := by decide +kernel
theorem dX12_wrongBy_48 : decode cX12_wrongBy 48 = .ok (.ifCond .eq 5, 3) := by decide +kernel
theorem dX12_wrongBy_51 : decode cX12_wrongBy 51 = .ok (.iload_n 3, 1) := by decide +kernel
theorem dX12_wrongBy_52 : decode cX12_wrongBy 52 = .ok (.istore_n 2, 1) := by decide +kernel
theorem dX12_wrongBy_53 : decode cX12_wrongBy 53 = .ok (.aload_n 0, 1) := by decide +kernel
theorem dX12_wrongBy_54 : decode cX12_wrongBy 54 = .ok (.invokevirtual 365, 3) := by decide +kernel
theorem dX12_wrongBy_57 : decode cX12_wrongBy 57 = .ok (.pop, 1) := by decide +kernel
theorem dX12_wrongBy_58 : decode cX12_wrongBy 58 = .ok (.iinc 3 1, 3) := by decide +kernel
theorem dX12_wrongBy_61 : decode cX12_wrongBy 61 = .ok (.goto (-29), 3) := by decide +kernel
theorem dX12_wrongBy_64 : decode cX12_wrongBy 64 = .ok (.aload_n 0, 1) := by decide +kernel
theorem dX12_wrongBy_65 : decode cX12_wrongBy 65 = .ok (.invokevirtual 391, 3) := by decide +kernel
theorem dX12_wrongBy_68 : decode cX12_wrongBy 68 = .ok (.iload_n 2, 1) := by decide +kernel
theorem dX12_wrongBy_69 : decode cX12_wrongBy 69 = .ok (.ifCond .ge 12, 3) := by decide +kernel
theorem dX12_wrongBy_72 : decode cX12_wrongBy 72 = .ok (.aload_n 0, 1) := by decide +kernel
theorem dX12_wrongBy_73 : decode cX12_wrongBy 73 = .ok (.bipush 8, 2) := by decide +kernel
theorem dX12_wrongBy_75 : decode cX12_wrongBy 75 = .ok (.invokevirtual 318, 3) := by decide +kernel
theorem dX12_wrongBy_78 : decode cX12_wrongBy 78 = .ok (.goto 4, 3) := by decide +kernel
theorem dX12_wrongBy_81 : decode cX12_wrongBy 81 = .ok (.iload_n 2, 1) := by decide +kernel
theorem dX12_wrongBy_82 : decode cX12_wrongBy 82 = .ok (.ireturn, 1) := by decide +kernel
theorem dX12_evenIn_0 : decode cX12_evenIn 0 = .ok (.aload_n 0, 1) := by decide +kernel
theorem dX12_evenIn_1 : decode cX12_evenIn 1 = .ok (.iconst 0, 1) := by decide +kernel
theorem dX12_evenIn_2 : decode cX12_evenIn 2 = .ok (.putfield 72, 3) := by decide +kernel
theorem dX12_evenIn_5 : decode cX12_evenIn 5 = .ok (.aload_n 0, 1) := by decide +kernel
theorem dX12_evenIn_6 : decode cX12_evenIn 6 = .ok (.iconst 0, 1) := by decide +kernel
theorem dX12_evenIn_7 : decode cX12_evenIn 7 = .ok (.putfield 75, 3) := by decide +kernel
theorem dX12_evenIn_10 : decode cX12_evenIn 10 = .ok (.iconst (-1), 1) := by decide +kernel
theorem dX12_evenIn_11 : decode cX12_evenIn 11 = .ok (.istore_n 1, 1) := by decide +kernel
theorem dX12_evenIn_12 : decode cX12_evenIn 12 = .ok (.aload_n 0, 1) := by decide +kernel
theorem dX12_evenIn_13 : decode cX12_evenIn 13 = .ok (.invokevirtual 388, 3) := by decide +kernel
theorem dX12_evenIn_16 : decode cX12_evenIn 16 = .ok (.iconst 0, 1) := by decide +kernel
theorem dX12_evenIn_17 : decode cX12_evenIn 17 = .ok (.istore_n 2, 1) := by decide +kernel
theorem dX12_evenIn_18 : decode cX12_evenIn 18 = .ok (.iload_n 2, 1) := by decide +kernel
theorem dX12_evenIn_19 : decode cX12_evenIn 19 = .ok (.sipush 300, 3) := by decide +kernel
theorem dX12_evenIn_22 : decode cX12_evenIn 22 = .ok (.if_icmp .gt 27, 3) := by decide +kernel
theorem dX12_evenIn_25 : decode cX12_evenIn 25 = .ok (.iload_n 1, 1) := by decide +kernel
theorem dX12_evenIn_26 : decode cX12_evenIn 26 = .ok (.ifCond .ge 23, 3) := by decide +kernel
theorem dX12_evenIn_29 : decode cX12_evenIn 29 = .ok (.aload_n 0, 1) := by decide +kernel
theorem dX12_evenIn_30 : decode cX12_evenIn 30 = .ok (.invokevirtual 327, 3) := by decide +kernel
theorem dX12_evenIn_33 : decode cX12_evenIn 33 = .ok (.ifCond .eq 5, 3) := by decide +kernel
theorem dX12_evenIn_36 : decode cX12_evenIn 36 = .ok (.iload_n 2, 1) := by decide +kernel
theorem dX12_evenIn_37 : decode cX12_evenIn 37 = .ok (.istore_n 1, 1) := by decide +kernel
theorem dX12_evenIn_38 : decode cX12_evenIn 38 = .ok (.aload_n 0, 1) := by decide +kernel
theorem dX12_evenIn_39 : decode cX12_evenIn 39 = .ok (.invokevirtual 365, 3) := by decide +kernel
theorem dX12_evenIn_42 : decode cX12_evenIn 42 = .ok (.pop, 1) := by decide +kernel
theorem dX12_evenIn_43 : decode cX12_evenIn 43 = .ok (.iinc 2 1, 3) := by decide +kernel
theorem dX12_evenIn_46 : decode cX12_evenIn 46 = .ok (.goto (-28), 3) := by decide +kernel
theorem dX12_evenIn_49 : decode cX12_evenIn 49 = .ok (.aload_n 0, 1) := by decide +kernel
theorem dX12_evenIn_50 : decode cX12_evenIn 50 = .ok (.invokevirtual 391, 3) := by decide +kernel
theorem dX12_evenIn_53 : decode cX12_evenIn 53 = .ok (.iload_n 1, 1) := by decide +kernel
theorem dX12_evenIn_54 : decode cX12_evenIn 54 = .ok (.ifCond .ge 12, 3) := by decide +kernel
theorem dX12_evenIn_57 : decode cX12_evenIn 57 = .ok (.aload_n 0, 1) := by decide +kernel
theorem dX12_evenIn_58 : decode cX12_evenIn 58 = .ok (.bipush 8, 2) := by decide +kernel
theorem dX12_evenIn_60 : decode cX12_evenIn 60 = .ok (.invokevirtual 318, 3) := by decide +kernel
theorem dX12_evenIn_63 : decode cX12_evenIn 63 = .ok (.goto 4, 3) := by decide +kernel
theorem dX12_evenIn_66 : decode cX12_evenIn 66 = .ok (.iload_n 1, 1) := by decide +kernel
theorem dX12_evenIn_67 : decode cX12_evenIn 67 = .ok (.ireturn, 1) := by decide +kernel
theorem dX12_stillIn_0 : decode cX12_stillIn 0 = .ok (.aload_n 0, 1) := by decide +kernel
theorem dX12_stillIn_1 : decode cX12_stillIn 1 = .ok (.iconst 0, 1) := by decide +kernel
theorem dX12_stillIn_2 : decode cX12_stillIn 2 = .ok (.putfield 72, 3) := by decide +kernel
theorem dX12_stillIn_5 : decode cX12_stillIn 5 = .ok (.aload_n 0, 1) := by decide +kernel
theorem dX12_stillIn_6 : decode cX12_stillIn 6 = .ok (.iconst 0, 1) := by decide +kernel
theorem dX12_stillIn_7 : decode cX12_stillIn 7 = .ok (.putfield 75, 3) := by decide +kernel
theorem dX12_stillIn_10 : decode cX12_stillIn 10 = .ok (.iconst (-1), 1) := by decide +kernel
theorem dX12_stillIn_11 : decode cX12_stillIn 11 = .ok (.istore_n 1, 1) := by decide +kernel
theorem dX12_stillIn_12 : decode cX12_stillIn 12 = .ok (.aload_n 0, 1) := by decide +kernel
theorem dX12_stillIn_13 : decode cX12_stillIn 13 = .ok (.invokevirtual 388, 3) := by decide +kernel
theorem dX12_stillIn_16 : decode cX12_stillIn 16 = .ok (.iconst 0, 1) := by decide +kernel
theorem dX12_stillIn_17 : decode cX12_stillIn 17 = .ok (.istore_n 2, 1) := by decide +kernel
theorem dX12_stillIn_18 : decode cX12_stillIn 18 = .ok (.iload_n 2, 1) := by decide +kernel
theorem dX12_stillIn_19 : decode cX12_stillIn 19 = .ok (.sipush 300, 3) := by decide +kernel
theorem dX12_stillIn_22 : decode cX12_stillIn 22 = .ok (.if_icmp .gt 22, 3) := by decide +kernel
theorem dX12_stillIn_25 : decode cX12_stillIn 25 = .ok (.iload_n 1, 1) := by decide +kernel
theorem dX12_stillIn_26 : decode cX12_stillIn 26 = .ok (.ifCond .ge 18, 3) := by decide +kernel
theorem dX12_stillIn_29 : decode cX12_stillIn 29 = .ok (.aload_n 0, 1) := by decide +kernel
theorem dX12_stillIn_30 : decode cX12_stillIn 30 = .ok (.invokevirtual 365, 3) := by decide +kernel
theorem dX12_stillIn_33 : decode cX12_stillIn 33 = .ok (.ifCond .ne 5, 3) := by decide +kernel
theorem dX12_stillIn_36 : decode cX12_stillIn 36 = .ok (.iload_n 2, 1) := by decide +kernel
theorem dX12_stillIn_37 : decode cX12_stillIn 37 = .ok (.istore_n 1, 1) := by decide +kernel
theorem dX12_stillIn_38 : decode cX12_stillIn 38 = .ok (.iinc 2 1, 3) := by decide +kernel
theorem dX12_stillIn_41 : decode cX12_stillIn 41 = .ok (.goto (-23), 3) := by decide +kernel
theorem dX12_stillIn_44 : decode cX12_stillIn 44 = .ok (.aload_n 0, 1) := by decide +kernel
theorem dX12_stillIn_45 : decode cX12_stillIn 45 = .ok (.invokevirtual 391, 3) := by decide +kernel
theorem dX12_stillIn_48 : decode cX12_stillIn 48 = .ok (.iload_n 1, 1) := by decide +kernel
theorem dX12_stillIn_49 : decode cX12_stillIn 49 = .ok (.ifCond .ge 12, 3) := by decide +kernel
theorem dX12_stillIn_52 : decode cX12_stillIn 52 = .ok (.aload_n 0, 1) := by decide +kernel
theorem dX12_stillIn_53 : decode cX12_stillIn 53 = .ok (.bipush 8, 2) := by decide +kernel
theorem dX12_stillIn_55 : decode cX12_stillIn 55 = .ok (.invokevirtual 318, 3) := by decide +kernel
theorem dX12_stillIn_58 : decode cX12_stillIn 58 = .ok (.goto 4, 3) := by decide +kernel
theorem dX12_stillIn_61 : decode cX12_stillIn 61 = .ok (.iload_n 1, 1) := by decide +kernel
theorem dX12_stillIn_62 : decode cX12_stillIn 62 = .ok (.ireturn, 1) := by decide +kernel
theorem dX12_bears_0 : decode cX12_bears 0 = .ok (.aload_n 0, 1) := by decide +kernel
theorem dX12_bears_1 : decode cX12_bears 1 = .ok (.iconst 0, 1) := by decide +kernel
theorem dX12_bears_2 : decode cX12_bears 2 = .ok (.putfield 72, 3) := by decide +kernel
theorem dX12_bears_5 : decode cX12_bears 5 = .ok (.aload_n 0, 1) := by decide +kernel
theorem dX12_bears_6 : decode cX12_bears 6 = .ok (.iconst 0, 1) := by decide +kernel
theorem dX12_bears_7 : decode cX12_bears 7 = .ok (.putfield 75, 3) := by decide +kernel
theorem dX12_bears_10 : decode cX12_bears 10 = .ok (.aload_n 0, 1) := by decide +kernel
theorem dX12_bears_11 : decode cX12_bears 11 = .ok (.iload_n 1, 1) := by decide +kernel
theorem dX12_bears_12 : decode cX12_bears 12 = .ok (.invokevirtual 330, 3) := by decide +kernel
theorem dX12_bears_15 : decode cX12_bears 15 = .ok (.ifCond .ne 9, 3) := by decide +kernel
theorem dX12_bears_18 : decode cX12_bears 18 = .ok (.aload_n 0, 1) := by decide +kernel
theorem dX12_bears_19 : decode cX12_bears 19 = .ok (.iconst 2, 1) := by decide +kernel
theorem dX12_bears_20 : decode cX12_bears 20 = .ok (.invokevirtual 318, 3) := by decide +kernel
theorem dX12_bears_23 : decode cX12_bears 23 = .ok (.ireturn, 1) := by decide +kernel
theorem dX12_bears_24 : decode cX12_bears 24 = .ok (.aload_n 0, 1) := by decide +kernel
theorem dX12_bears_25 : decode cX12_bears 25 = .ok (.iload_n 1, 1) := by decide +kernel
theorem dX12_bears_26 : decode cX12_bears 26 = .ok (.invokevirtual 356, 3) := by decide +kernel
theorem dX12_bears_29 : decode cX12_bears 29 = .ok (.istore_n 2, 1) := by decide +kernel
theorem dX12_bears_30 : decode cX12_bears 30 = .ok (.iload_n 2, 1) := by decide +kernel
theorem dX12_bears_31 : decode cX12_bears 31 = .ok (.ifCond .ge 12, 3) := by decide +kernel
theorem dX12_bears_34 : decode cX12_bears 34 = .ok (.aload_n 0, 1) := by decide +kernel
theorem dX12_bears_35 : decode cX12_bears 35 = .ok (.bipush 8, 2) := by decide +kernel
theorem dX12_bears_37 : decode cX12_bears 37 = .ok (.invokevirtual 318, 3) := by decide +kernel
theorem dX12_bears_40 : decode cX12_bears 40 = .ok (.goto 4, 3) := by decide +kernel
theorem dX12_bears_43 : decode cX12_bears 43 = .ok (.iload_n 2, 1) := by decide +kernel
theorem dX12_bears_44 : decode cX12_bears 44 = .ok (.ireturn, 1) := by decide +kernel
theorem dX12_laysTurn_0 : decode cX12_laysTurn 0 = .ok (.iconst 0, 1) := by decide +kernel
theorem dX12_laysTurn_1 : decode cX12_laysTurn 1 = .ok (.istore_n 2, 1) := by decide +kernel
theorem dX12_laysTurn_2 : decode cX12_laysTurn 2 = .ok (.iload_n 2, 1) := by decide +kernel
theorem dX12_laysTurn_3 : decode cX12_laysTurn 3 = .ok (.sipush 128, 3) := by decide +kernel
theorem dX12_laysTurn_6 : decode cX12_laysTurn 6 = .ok (.if_icmp .ge 27, 3) := by decide +kernel
theorem dX12_laysTurn_9 : decode cX12_laysTurn 9 = .ok (.aload_n 0, 1) := by decide +kernel
theorem dX12_laysTurn_10 : decode cX12_laysTurn 10 = .ok (.getfield 50, 3) := by decide +kernel
theorem dX12_laysTurn_13 : decode cX12_laysTurn 13 = .ok (.sipush 128, 3) := by decide +kernel
theorem dX12_laysTurn_16 : decode cX12_laysTurn 16 = .ok (.iload_n 1, 1) := by decide +kernel
theorem dX12_laysTurn_17 : decode cX12_laysTurn 17 = .ok (.imul, 1) := by decide +kernel
theorem dX12_laysTurn_18 : decode cX12_laysTurn 18 = .ok (.iload_n 2, 1) := by decide +kernel
theorem dX12_laysTurn_19 : decode cX12_laysTurn 19 = .ok (.iadd, 1) := by decide +kernel
theorem dX12_laysTurn_20 : decode cX12_laysTurn 20 = .ok (.aload_n 0, 1) := by decide +kernel
theorem dX12_laysTurn_21 : decode cX12_laysTurn 21 = .ok (.getfield 35, 3) := by decide +kernel
theorem dX12_laysTurn_24 : decode cX12_laysTurn 24 = .ok (.iload_n 2, 1) := by decide +kernel
theorem dX12_laysTurn_25 : decode cX12_laysTurn 25 = .ok (.iaload, 1) := by decide +kernel
theorem dX12_laysTurn_26 : decode cX12_laysTurn 26 = .ok (.iastore, 1) := by decide +kernel
theorem dX12_laysTurn_27 : decode cX12_laysTurn 27 = .ok (.iinc 2 1, 3) := by decide +kernel
theorem dX12_laysTurn_30 : decode cX12_laysTurn 30 = .ok (.goto (-28), 3) := by decide +kernel
theorem dX12_laysTurn_33 : decode cX12_laysTurn 33 = .ok (.return_, 1) := by decide +kernel
theorem dX12_takesTurn_0 : decode cX12_takesTurn 0 = .ok (.iconst 0, 1) := by decide +kernel
theorem dX12_takesTurn_1 : decode cX12_takesTurn 1 = .ok (.istore_n 2, 1) := by decide +kernel
theorem dX12_takesTurn_2 : decode cX12_takesTurn 2 = .ok (.iload_n 2, 1) := by decide +kernel
theorem dX12_takesTurn_3 : decode cX12_takesTurn 3 = .ok (.sipush 128, 3) := by decide +kernel
theorem dX12_takesTurn_6 : decode cX12_takesTurn 6 = .ok (.if_icmp .ge 27, 3) := by decide +kernel
theorem dX12_takesTurn_9 : decode cX12_takesTurn 9 = .ok (.aload_n 0, 1) := by decide +kernel
theorem dX12_takesTurn_10 : decode cX12_takesTurn 10 = .ok (.getfield 35, 3) := by decide +kernel
theorem dX12_takesTurn_13 : decode cX12_takesTurn 13 = .ok (.iload_n 2, 1) := by decide +kernel
theorem dX12_takesTurn_14 : decode cX12_takesTurn 14 = .ok (.aload_n 0, 1) := by decide +kernel
theorem dX12_takesTurn_15 : decode cX12_takesTurn 15 = .ok (.getfield 50, 3) := by decide +kernel
theorem dX12_takesTurn_18 : decode cX12_takesTurn 18 = .ok (.sipush 128, 3) := by decide +kernel
theorem dX12_takesTurn_21 : decode cX12_takesTurn 21 = .ok (.iload_n 1, 1) := by decide +kernel
theorem dX12_takesTurn_22 : decode cX12_takesTurn 22 = .ok (.imul, 1) := by decide +kernel
theorem dX12_takesTurn_23 : decode cX12_takesTurn 23 = .ok (.iload_n 2, 1) := by decide +kernel
theorem dX12_takesTurn_24 : decode cX12_takesTurn 24 = .ok (.iadd, 1) := by decide +kernel
theorem dX12_takesTurn_25 : decode cX12_takesTurn 25 = .ok (.iaload, 1) := by decide +kernel
theorem dX12_takesTurn_26 : decode cX12_takesTurn 26 = .ok (.iastore, 1) := by decide +kernel
theorem dX12_takesTurn_27 : decode cX12_takesTurn 27 = .ok (.iinc 2 1, 3) := by decide +kernel
theorem dX12_takesTurn_30 : decode cX12_takesTurn 30 = .ok (.goto (-28), 3) := by decide +kernel
theorem dX12_takesTurn_33 : decode cX12_takesTurn 33 = .ok (.return_, 1) := by decide +kernel
theorem dX12_walks_0 : decode cX12_walks 0 = .ok (.iload_n 2, 1) := by decide +kernel
theorem dX12_walks_1 : decode cX12_walks 1 = .ok (.iload_n 3, 1) := by decide +kernel
theorem dX12_walks_2 : decode cX12_walks 2 = .ok (.if_icmp .ne 87, 3) := by decide +kernel
theorem dX12_walks_5 : decode cX12_walks 5 = .ok (.aload_n 0, 1) := by decide +kernel
theorem dX12_walks_6 : decode cX12_walks 6 = .ok (.iload_n 1, 1) := by decide +kernel
theorem dX12_walks_7 : decode cX12_walks 7 = .ok (.invokevirtual 307, 3) := by decide +kernel
theorem dX12_walks_10 : decode cX12_walks 10 = .ok (.istore 5, 2) := by decide +kernel
theorem dX12_walks_12 : decode cX12_walks 12 = .ok (.aload_n 0, 1) := by decide +kernel
theorem dX12_walks_13 : decode cX12_walks 13 = .ok (.getfield 394, 3) := by decide +kernel
theorem dX12_walks_16 : decode cX12_walks 16 = .ok (.ifCond .lt 31, 3) := by decide +kernel
theorem dX12_walks_19 : decode cX12_walks 19 = .ok (.iload 5, 2) := by decide +kernel
theorem dX12_walks_21 : decode cX12_walks 21 = .ok (.aload_n 0, 1) := by decide +kernel
theorem dX12_walks_22 : decode cX12_walks 22 = .ok (.getfield 394, 3) := by decide +kernel
theorem dX12_walks_25 : decode cX12_walks 25 = .ok (.if_icmp .gt 21, 3) := by decide +kernel
theorem dX12_walks_28 : decode cX12_walks 28 = .ok (.iload 5, 2) := by decide +kernel
theorem dX12_walks_30 : decode cX12_walks 30 = .ok (.aload_n 0, 1) := by decide +kernel
theorem dX12_walks_31 : decode cX12_walks 31 = .ok (.getfield 394, 3) := by decide +kernel
theorem dX12_walks_34 : decode cX12_walks 34 = .ok (.if_icmp .ne 13, 3) := by decide +kernel
theorem dX12_walks_37 : decode cX12_walks 37 = .ok (.iload 4, 2) := by decide +kernel
theorem dX12_walks_39 : decode cX12_walks 39 = .ok (.aload_n 0, 1) := by decide +kernel
theorem dX12_walks_40 : decode cX12_walks 40 = .ok (.getfield 397, 3) := by decide +kernel
theorem dX12_walks_43 : decode cX12_walks 43 = .ok (.if_icmp .gt 4, 3) := by decide +kernel
theorem dX12_walks_46 : decode cX12_walks 46 = .ok (.return_, 1) := by decide +kernel
theorem dX12_walks_47 : decode cX12_walks 47 = .ok (.aload_n 0, 1) := by decide +kernel
theorem dX12_walks_48 : decode cX12_walks 48 = .ok (.iload 5, 2) := by decide +kernel
theorem dX12_walks_50 : decode cX12_walks 50 = .ok (.putfield 394, 3) := by decide +kernel
theorem dX12_walks_53 : decode cX12_walks 53 = .ok (.aload_n 0, 1) := by decide +kernel
theorem dX12_walks_54 : decode cX12_walks 54 = .ok (.iload 4, 2) := by decide +kernel
theorem dX12_walks_56 : decode cX12_walks 56 = .ok (.putfield 397, 3) := by decide +kernel
theorem dX12_walks_59 : decode cX12_walks 59 = .ok (.iconst 0, 1) := by decide +kernel
theorem dX12_walks_60 : decode cX12_walks 60 = .ok (.istore 6, 2) := by decide +kernel
theorem dX12_walks_62 : decode cX12_walks 62 = .ok (.iload 6, 2) := by decide +kernel
theorem dX12_walks_64 : decode cX12_walks 64 = .ok (.iload_n 3, 1) := by decide +kernel
theorem dX12_walks_65 : decode cX12_walks 65 = .ok (.if_icmp .ge 23, 3) := by decide +kernel
theorem dX12_walks_68 : decode cX12_walks 68 = .ok (.aload_n 0, 1) := by decide +kernel
theorem dX12_walks_69 : decode cX12_walks 69 = .ok (.getfield 56, 3) := by decide +kernel
theorem dX12_walks_72 : decode cX12_walks 72 = .ok (.iload 6, 2) := by decide +kernel
theorem dX12_walks_74 : decode cX12_walks 74 = .ok (.aload_n 0, 1) := by decide +kernel
theorem dX12_walks_75 : decode cX12_walks 75 = .ok (.getfield 53, 3) := by decide +kernel
theorem dX12_walks_78 : decode cX12_walks 78 = .ok (.iload 6, 2) := by decide +kernel
theorem dX12_walks_80 : decode cX12_walks 80 = .ok (.iaload, 1) := by decide +kernel
theorem dX12_walks_81 : decode cX12_walks 81 = .ok (.iastore, 1) := by decide +kernel
theorem dX12_walks_82 : decode cX12_walks 82 = .ok (.iinc 6 1, 3) := by decide +kernel
theorem dX12_walks_85 : decode cX12_walks 85 = .ok (.goto (-23), 3) := by decide +kernel
theorem dX12_walks_88 : decode cX12_walks 88 = .ok (.return_, 1) := by decide +kernel
theorem dX12_walks_89 : decode cX12_walks 89 = .ok (.aload_n 0, 1) := by decide +kernel
theorem dX12_walks_90 : decode cX12_walks 90 = .ok (.iload_n 2, 1) := by decide +kernel
theorem dX12_walks_91 : decode cX12_walks 91 = .ok (.invokevirtual 400, 3) := by decide +kernel
theorem dX12_walks_94 : decode cX12_walks 94 = .ok (.iconst 0, 1) := by decide +kernel
theorem dX12_walks_95 : decode cX12_walks 95 = .ok (.istore 5, 2) := by decide +kernel
theorem dX12_walks_97 : decode cX12_walks 97 = .ok (.iload 5, 2) := by decide +kernel
theorem dX12_walks_99 : decode cX12_walks 99 = .ok (.iconst 4, 1) := by decide +kernel
theorem dX12_walks_100 : decode cX12_walks 100 = .ok (.if_icmp .gt 57, 3) := by decide +kernel
theorem dX12_walks_103 : decode cX12_walks 103 = .ok (.aload_n 0, 1) := by decide +kernel
theorem dX12_walks_104 : decode cX12_walks 104 = .ok (.iload 5, 2) := by decide +kernel
theorem dX12_walks_106 : decode cX12_walks 106 = .ok (.invokevirtual 370, 3) := by decide +kernel
theorem dX12_walks_109 : decode cX12_walks 109 = .ok (.ifCond .ne 6, 3) := by decide +kernel
theorem dX12_walks_112 : decode cX12_walks 112 = .ok (.goto 39, 3) := by decide +kernel
theorem dX12_walks_115 : decode cX12_walks 115 = .ok (.aload_n 0, 1) := by decide +kernel
theorem dX12_walks_116 : decode cX12_walks 116 = .ok (.getfield 53, 3) := by decide +kernel
theorem dX12_walks_119 : decode cX12_walks 119 = .ok (.iload_n 2, 1) := by decide +kernel
theorem dX12_walks_120 : decode cX12_walks 120 = .ok (.iload 5, 2) := by decide +kernel
theorem dX12_walks_122 : decode cX12_walks 122 = .ok (.iastore, 1) := by decide +kernel
theorem dX12_walks_123 : decode cX12_walks 123 = .ok (.aload_n 0, 1) := by decide +kernel
theorem dX12_walks_124 : decode cX12_walks 124 = .ok (.iload_n 1, 1) := by decide +kernel
theorem dX12_walks_125 : decode cX12_walks 125 = .ok (.iload_n 2, 1) := by decide +kernel
theorem dX12_walks_126 : decode cX12_walks 126 = .ok (.iconst 1, 1) := by decide +kernel
theorem dX12_walks_127 : decode cX12_walks 127 = .ok (.iadd, 1) := by decide +kernel
theorem dX12_walks_128 : decode cX12_walks 128 = .ok (.iload_n 3, 1) := by decide +kernel
theorem dX12_walks_129 : decode cX12_walks 129 = .ok (.iload 4, 2) := by decide +kernel
theorem dX12_walks_131 : decode cX12_walks 131 = .ok (.iload 5, 2) := by decide +kernel
theorem dX12_walks_133 : decode cX12_walks 133 = .ok (.iconst 4, 1) := by decide +kernel
theorem dX12_walks_134 : decode cX12_walks 134 = .ok (.if_icmp .ne 7, 3) := by decide +kernel
theorem dX12_walks_137 : decode cX12_walks 137 = .ok (.iconst 1, 1) := by decide +kernel
theorem dX12_walks_138 : decode cX12_walks 138 = .ok (.goto 4, 3) := by decide +kernel
theorem dX12_walks_141 : decode cX12_walks 141 = .ok (.iconst 0, 1) := by decide +kernel
theorem dX12_walks_142 : decode cX12_walks 142 = .ok (.iadd, 1) := by decide +kernel
theorem dX12_walks_143 : decode cX12_walks 143 = .ok (.invokevirtual 403, 3) := by decide +kernel
theorem dX12_walks_146 : decode cX12_walks 146 = .ok (.aload_n 0, 1) := by decide +kernel
theorem dX12_walks_147 : decode cX12_walks 147 = .ok (.iload_n 2, 1) := by decide +kernel
theorem dX12_walks_148 : decode cX12_walks 148 = .ok (.invokevirtual 407, 3) := by decide +kernel
theorem dX12_walks_151 : decode cX12_walks 151 = .ok (.iinc 5 1, 3) := by decide +kernel
theorem dX12_walks_154 : decode cX12_walks 154 = .ok (.goto (-57), 3) := by decide +kernel
theorem dX12_walks_157 : decode cX12_walks 157 = .ok (.return_, 1) := by decide +kernel
theorem dX12_whyNoRound_0 : decode cX12_whyNoRound 0 = .ok (.iload_n 1, 1) := by decide +kernel
theorem dX12_whyNoRound_1 : decode cX12_whyNoRound 1 = .ok (.i2l, 1) := by decide +kernel
theorem dX12_whyNoRound_2 : decode cX12_whyNoRound 2 = .ok (.lconst 0, 1) := by decide +kernel
theorem dX12_whyNoRound_3 : decode cX12_whyNoRound 3 = .ok (.iconst 1, 1) := by decide +kernel
theorem dX12_whyNoRound_4 : decode cX12_whyNoRound 4 = .ok (.aload_n 0, 1) := by decide +kernel
theorem dX12_whyNoRound_5 : decode cX12_whyNoRound 5 = .ok (.invokevirtual 301, 3) := by decide +kernel
theorem dX12_whyNoRound_8 : decode cX12_whyNoRound 8 = .ok (.ishl, 1) := by decide +kernel
theorem dX12_whyNoRound_9 : decode cX12_whyNoRound 9 = .ok (.iconst 1, 1) := by decide +kernel
theorem dX12_whyNoRound_10 : decode cX12_whyNoRound 10 = .ok (.isub, 1) := by decide +kernel
theorem dX12_whyNoRound_11 : decode cX12_whyNoRound 11 = .ok (.i2l, 1) := by decide +kernel
theorem dX12_whyNoRound_12 : decode cX12_whyNoRound 12 = .ok (.invokestatic 107, 3) := by decide +kernel
theorem dX12_whyNoRound_15 : decode cX12_whyNoRound 15 = .ok (.ifCond .eq 15, 3) := by decide +kernel
theorem dX12_whyNoRound_18 : decode cX12_whyNoRound 18 = .ok (.iload_n 2, 1) := by decide +kernel
theorem dX12_whyNoRound_19 : decode cX12_whyNoRound 19 = .ok (.i2l, 1) := by decide +kernel
theorem dX12_whyNoRound_20 : decode cX12_whyNoRound 20 = .ok (.lconst 1, 1) := by decide +kernel
theorem dX12_whyNoRound_21 : decode cX12_whyNoRound 21 = .ok (.ldc2_w 410, 3) := by decide +kernel
theorem dX12_whyNoRound_24 : decode cX12_whyNoRound 24 = .ok (.invokestatic 107, 3) := by decide +kernel
theorem dX12_whyNoRound_27 : decode cX12_whyNoRound 27 = .ok (.ifCond .ne 5, 3) := by decide +kernel
theorem dX12_whyNoRound_30 : decode cX12_whyNoRound 30 = .ok (.iconst 5, 1) := by decide +kernel
theorem dX12_whyNoRound_31 : decode cX12_whyNoRound 31 = .ok (.ireturn, 1) := by decide +kernel
theorem dX12_whyNoRound_32 : decode cX12_whyNoRound 32 = .ok (.aload_n 0, 1) := by decide +kernel
theorem dX12_whyNoRound_33 : decode cX12_whyNoRound 33 = .ok (.getfield 35, 3) := by decide +kernel
theorem dX12_whyNoRound_36 : decode cX12_whyNoRound 36 = .ok (.iconst 0, 1) := by decide +kernel
theorem dX12_whyNoRound_37 : decode cX12_whyNoRound 37 = .ok (.iaload, 1) := by decide +kernel
theorem dX12_whyNoRound_38 : decode cX12_whyNoRound 38 = .ok (.ifCond .ne 8, 3) := by decide +kernel
theorem dX12_whyNoRound_41 : decode cX12_whyNoRound 41 = .ok (.bipush 8, 2) := by decide +kernel
theorem dX12_whyNoRound_43 : decode cX12_whyNoRound 43 = .ok (.goto 4, 3) := by decide +kernel
theorem dX12_whyNoRound_46 : decode cX12_whyNoRound 46 = .ok (.iconst 0, 1) := by decide +kernel
theorem dX12_whyNoRound_47 : decode cX12_whyNoRound 47 = .ok (.ireturn, 1) := by decide +kernel
theorem dX12_laysRound_0 : decode cX12_laysRound 0 = .ok (.aload_n 0, 1) := by decide +kernel
theorem dX12_laysRound_1 : decode cX12_laysRound 1 = .ok (.iconst (-1), 1) := by decide +kernel
theorem dX12_laysRound_2 : decode cX12_laysRound 2 = .ok (.putfield 394, 3) := by decide +kernel
theorem dX12_laysRound_5 : decode cX12_laysRound 5 = .ok (.aload_n 0, 1) := by decide +kernel
theorem dX12_laysRound_6 : decode cX12_laysRound 6 = .ok (.iload_n 1, 1) := by decide +kernel
theorem dX12_laysRound_7 : decode cX12_laysRound 7 = .ok (.iconst 0, 1) := by decide +kernel
theorem dX12_laysRound_8 : decode cX12_laysRound 8 = .ok (.iload_n 2, 1) := by decide +kernel
theorem dX12_laysRound_9 : decode cX12_laysRound 9 = .ok (.iconst 0, 1) := by decide +kernel
theorem dX12_laysRound_10 : decode cX12_laysRound 10 = .ok (.invokevirtual 403, 3) := by decide +kernel
theorem dX12_laysRound_13 : decode cX12_laysRound 13 = .ok (.return_, 1) := by decide +kernel
theorem dX12_round_0 : decode cX12_round 0 = .ok (.aload_n 0, 1) := by decide +kernel
theorem dX12_round_1 : decode cX12_round 1 = .ok (.iconst 0, 1) := by decide +kernel
theorem dX12_round_2 : decode cX12_round 2 = .ok (.putfield 72, 3) := by decide +kernel
theorem dX12_round_5 : decode cX12_round 5 = .ok (.aload_n 0, 1) := by decide +kernel
theorem dX12_round_6 : decode cX12_round 6 = .ok (.aload_n 0, 1) := by decide +kernel
theorem dX12_round_7 : decode cX12_round 7 = .ok (.iload_n 1, 1) := by decide +kernel
theorem dX12_round_8 : decode cX12_round 8 = .ok (.iload_n 2, 1) := by decide +kernel
theorem dX12_round_9 : decode cX12_round 9 = .ok (.invokevirtual 412, 3) := by decide +kernel
theorem dX12_round_12 : decode cX12_round 12 = .ok (.putfield 75, 3) := by decide +kernel
theorem dX12_round_15 : decode cX12_round 15 = .ok (.aload_n 0, 1) := by decide +kernel
theorem dX12_round_16 : decode cX12_round 16 = .ok (.getfield 75, 3) := by decide +kernel
theorem dX12_round_19 : decode cX12_round 19 = .ok (.ifCond .le 5, 3) := by decide +kernel
theorem dX12_round_22 : decode cX12_round 22 = .ok (.iconst (-1), 1) := by decide +kernel
theorem dX12_round_23 : decode cX12_round 23 = .ok (.ireturn, 1) := by decide +kernel
theorem dX12_round_24 : decode cX12_round 24 = .ok (.aload_n 0, 1) := by decide +kernel
theorem dX12_round_25 : decode cX12_round 25 = .ok (.iload_n 1, 1) := by decide +kernel
theorem dX12_round_26 : decode cX12_round 26 = .ok (.iload_n 2, 1) := by decide +kernel
theorem dX12_round_27 : decode cX12_round 27 = .ok (.invokevirtual 415, 3) := by decide +kernel
theorem dX12_round_30 : decode cX12_round 30 = .ok (.aload_n 0, 1) := by decide +kernel
theorem dX12_round_31 : decode cX12_round 31 = .ok (.getfield 394, 3) := by decide +kernel
theorem dX12_round_34 : decode cX12_round 34 = .ok (.ireturn, 1) := by decide +kernel
theorem dX12_roundAt_0 : decode cX12_roundAt 0 = .ok (.aload_n 0, 1) := by decide +kernel
theorem dX12_roundAt_1 : decode cX12_roundAt 1 = .ok (.iconst 0, 1) := by decide +kernel
theorem dX12_roundAt_2 : decode cX12_roundAt 2 = .ok (.putfield 72, 3) := by decide +kernel
theorem dX12_roundAt_5 : decode cX12_roundAt 5 = .ok (.aload_n 0, 1) := by decide +kernel
theorem dX12_roundAt_6 : decode cX12_roundAt 6 = .ok (.iload_n 3, 1) := by decide +kernel
theorem dX12_roundAt_7 : decode cX12_roundAt 7 = .ok (.i2l, 1) := by decide +kernel
theorem dX12_roundAt_8 : decode cX12_roundAt 8 = .ok (.lconst 0, 1) := by decide +kernel
theorem dX12_roundAt_9 : decode cX12_roundAt 9 = .ok (.iload_n 2, 1) := by decide +kernel
theorem dX12_roundAt_10 : decode cX12_roundAt 10 = .ok (.i2l, 1) := by decide +kernel
theorem dX12_roundAt_11 : decode cX12_roundAt 11 = .ok (.lconst 1, 1) := by decide +kernel
theorem dX12_roundAt_12 : decode cX12_roundAt 12 = .ok (.lsub, 1) := by decide +kernel
theorem dX12_roundAt_13 : decode cX12_roundAt 13 = .ok (.invokestatic 107, 3) := by decide +kernel
theorem dX12_roundAt_16 : decode cX12_roundAt 16 = .ok (.ifCond .eq 12, 3) := by decide +kernel
theorem dX12_roundAt_19 : decode cX12_roundAt 19 = .ok (.aload_n 0, 1) := by decide +kernel
theorem dX12_roundAt_20 : decode cX12_roundAt 20 = .ok (.iload_n 1, 1) := by decide +kernel
theorem dX12_roundAt_21 : decode cX12_roundAt 21 = .ok (.iload_n 2, 1) := by decide +kernel
theorem dX12_roundAt_22 : decode cX12_roundAt 22 = .ok (.invokevirtual 412, 3) := by decide +kernel
theorem dX12_roundAt_25 : decode cX12_roundAt 25 = .ok (.goto 4, 3) := by decide +kernel
theorem dX12_roundAt_28 : decode cX12_roundAt 28 = .ok (.iconst 5, 1) := by decide +kernel
theorem dX12_roundAt_29 : decode cX12_roundAt 29 = .ok (.putfield 75, 3) := by decide +kernel
theorem dX12_roundAt_32 : decode cX12_roundAt 32 = .ok (.aload_n 0, 1) := by decide +kernel
theorem dX12_roundAt_33 : decode cX12_roundAt 33 = .ok (.getfield 75, 3) := by decide +kernel
theorem dX12_roundAt_36 : decode cX12_roundAt 36 = .ok (.ifCond .le 5, 3) := by decide +kernel
theorem dX12_roundAt_39 : decode cX12_roundAt 39 = .ok (.iconst (-1), 1) := by decide +kernel
theorem dX12_roundAt_40 : decode cX12_roundAt 40 = .ok (.ireturn, 1) := by decide +kernel
theorem dX12_roundAt_41 : decode cX12_roundAt 41 = .ok (.aload_n 0, 1) := by decide +kernel
theorem dX12_roundAt_42 : decode cX12_roundAt 42 = .ok (.iload_n 1, 1) := by decide +kernel
theorem dX12_roundAt_43 : decode cX12_roundAt 43 = .ok (.iload_n 2, 1) := by decide +kernel
theorem dX12_roundAt_44 : decode cX12_roundAt 44 = .ok (.invokevirtual 415, 3) := by decide +kernel
theorem dX12_roundAt_47 : decode cX12_roundAt 47 = .ok (.aload_n 0, 1) := by decide +kernel
theorem dX12_roundAt_48 : decode cX12_roundAt 48 = .ok (.getfield 56, 3) := by decide +kernel
theorem dX12_roundAt_51 : decode cX12_roundAt 51 = .ok (.iload_n 3, 1) := by decide +kernel
theorem dX12_roundAt_52 : decode cX12_roundAt 52 = .ok (.iaload, 1) := by decide +kernel
theorem dX12_roundAt_53 : decode cX12_roundAt 53 = .ok (.ireturn, 1) := by decide +kernel
theorem dX12_farOf_0 : decode cX12_farOf 0 = .ok (.iload_n 1, 1) := by decide +kernel
theorem dX12_farOf_1 : decode cX12_farOf 1 = .ok (.aload_n 0, 1) := by decide +kernel
theorem dX12_farOf_2 : decode cX12_farOf 2 = .ok (.getfield 35, 3) := by decide +kernel
theorem dX12_farOf_5 : decode cX12_farOf 5 = .ok (.iconst 2, 1) := by decide +kernel
theorem dX12_farOf_6 : decode cX12_farOf 6 = .ok (.iaload, 1) := by decide +kernel
theorem dX12_farOf_7 : decode cX12_farOf 7 = .ok (.idiv, 1) := by decide +kernel
theorem dX12_farOf_8 : decode cX12_farOf 8 = .ok (.aload_n 0, 1) := by decide +kernel
theorem dX12_farOf_9 : decode cX12_farOf 9 = .ok (.getfield 35, 3) := by decide +kernel
theorem dX12_farOf_12 : decode cX12_farOf 12 = .ok (.bipush 7, 2) := by decide +kernel
theorem dX12_farOf_14 : decode cX12_farOf 14 = .ok (.iaload, 1) := by decide +kernel
theorem dX12_farOf_15 : decode cX12_farOf 15 = .ok (.aload_n 0, 1) := by decide +kernel
theorem dX12_farOf_16 : decode cX12_farOf 16 = .ok (.getfield 35, 3) := by decide +kernel
theorem dX12_farOf_19 : decode cX12_farOf 19 = .ok (.iconst 2, 1) := by decide +kernel
theorem dX12_farOf_20 : decode cX12_farOf 20 = .ok (.iaload, 1) := by decide +kernel
theorem dX12_farOf_21 : decode cX12_farOf 21 = .ok (.idiv, 1) := by decide +kernel
theorem dX12_farOf_22 : decode cX12_farOf 22 = .ok (.isub, 1) := by decide +kernel
theorem dX12_farOf_23 : decode cX12_farOf 23 = .ok (.invokestatic 418, 3) := by decide +kernel
theorem dX12_farOf_26 : decode cX12_farOf 26 = .ok (.iload_n 1, 1) := by decide +kernel
theorem dX12_farOf_27 : decode cX12_farOf 27 = .ok (.aload_n 0, 1) := by decide +kernel
theorem dX12_farOf_28 : decode cX12_farOf 28 = .ok (.getfield 35, 3) := by decide +kernel
theorem dX12_farOf_31 : decode cX12_farOf 31 = .ok (.iconst 2, 1) := by decide +kernel
theorem dX12_farOf_32 : decode cX12_farOf 32 = .ok (.iaload, 1) := by decide +kernel
theorem dX12_farOf_33 : decode cX12_farOf 33 = .ok (.irem, 1) := by decide +kernel
theorem dX12_farOf_34 : decode cX12_farOf 34 = .ok (.aload_n 0, 1) := by decide +kernel
theorem dX12_farOf_35 : decode cX12_farOf 35 = .ok (.getfield 35, 3) := by decide +kernel
theorem dX12_farOf_38 : decode cX12_farOf 38 = .ok (.bipush 7, 2) := by decide +kernel
theorem dX12_farOf_40 : decode cX12_farOf 40 = .ok (.iaload, 1) := by decide +kernel
theorem dX12_farOf_41 : decode cX12_farOf 41 = .ok (.aload_n 0, 1) := by decide +kernel
theorem dX12_farOf_42 : decode cX12_farOf 42 = .ok (.getfield 35, 3) := by decide +kernel
theorem dX12_farOf_45 : decode cX12_farOf 45 = .ok (.iconst 2, 1) := by decide +kernel
theorem dX12_farOf_46 : decode cX12_farOf 46 = .ok (.iaload, 1) := by decide +kernel
theorem dX12_farOf_47 : decode cX12_farOf 47 = .ok (.irem, 1) := by decide +kernel
theorem dX12_farOf_48 : decode cX12_farOf 48 = .ok (.isub, 1) := by decide +kernel
theorem dX12_farOf_49 : decode cX12_farOf 49 = .ok (.invokestatic 418, 3) := by decide +kernel
theorem dX12_farOf_52 : decode cX12_farOf 52 = .ok (.iadd, 1) := by decide +kernel
theorem dX12_farOf_53 : decode cX12_farOf 53 = .ok (.ireturn, 1) := by decide +kernel
theorem dX12_far_0 : decode cX12_far 0 = .ok (.aload_n 0, 1) := by decide +kernel
theorem dX12_far_1 : decode cX12_far 1 = .ok (.iconst 0, 1) := by decide +kernel
theorem dX12_far_2 : decode cX12_far 2 = .ok (.putfield 72, 3) := by decide +kernel
theorem dX12_far_5 : decode cX12_far 5 = .ok (.aload_n 0, 1) := by decide +kernel
theorem dX12_far_6 : decode cX12_far 6 = .ok (.iconst 0, 1) := by decide +kernel
theorem dX12_far_7 : decode cX12_far 7 = .ok (.putfield 75, 3) := by decide +kernel
theorem dX12_far_10 : decode cX12_far 10 = .ok (.aload_n 0, 1) := by decide +kernel
theorem dX12_far_11 : decode cX12_far 11 = .ok (.iload_n 1, 1) := by decide +kernel
theorem dX12_far_12 : decode cX12_far 12 = .ok (.invokevirtual 330, 3) := by decide +kernel
theorem dX12_far_15 : decode cX12_far 15 = .ok (.ifCond .eq 11, 3) := by decide +kernel
theorem dX12_far_18 : decode cX12_far 18 = .ok (.aload_n 0, 1) := by decide +kernel
theorem dX12_far_19 : decode cX12_far 19 = .ok (.iload_n 1, 1) := by decide +kernel
theorem dX12_far_20 : decode cX12_far 20 = .ok (.invokevirtual 420, 3) := by decide +kernel
theorem dX12_far_23 : decode cX12_far 23 = .ok (.goto 8, 3) := by decide +kernel
theorem dX12_far_26 : decode cX12_far 26 = .ok (.aload_n 0, 1) := by decide +kernel
theorem dX12_far_27 : decode cX12_far 27 = .ok (.iconst 2, 1) := by decide +kernel
theorem dX12_far_28 : decode cX12_far 28 = .ok (.invokevirtual 318, 3) := by decide +kernel
theorem dX12_far_31 : decode cX12_far 31 = .ok (.ireturn, 1) := by decide +kernel
theorem dX12_laysPast_0 : decode cX12_laysPast 0 = .ok (.aload_n 0, 1) := by decide +kernel
theorem dX12_laysPast_1 : decode cX12_laysPast 1 = .ok (.getfield 35, 3) := by decide +kernel
theorem dX12_laysPast_4 : decode cX12_laysPast 4 = .ok (.iconst 2, 1) := by decide +kernel
theorem dX12_laysPast_5 : decode cX12_laysPast 5 = .ok (.iaload, 1) := by decide +kernel
theorem dX12_laysPast_6 : decode cX12_laysPast 6 = .ok (.iload_n 1, 1) := by decide +kernel
theorem dX12_laysPast_7 : decode cX12_laysPast 7 = .ok (.imul, 1) := by decide +kernel
theorem dX12_laysPast_8 : decode cX12_laysPast 8 = .ok (.istore_n 3, 1) := by decide +kernel
theorem dX12_laysPast_9 : decode cX12_laysPast 9 = .ok (.iconst 1, 1) := by decide +kernel
theorem dX12_laysPast_10 : decode cX12_laysPast 10 = .ok (.istore 4, 2) := by decide +kernel
theorem dX12_laysPast_12 : decode cX12_laysPast 12 = .ok (.aload_n 0, 1) := by decide +kernel
theorem dX12_laysPast_13 : decode cX12_laysPast 13 = .ok (.iconst 0, 1) := by decide +kernel
theorem dX12_laysPast_14 : decode cX12_laysPast 14 = .ok (.putfield 423, 3) := by decide +kernel
theorem dX12_laysPast_17 : decode cX12_laysPast 17 = .ok (.aload_n 0, 1) := by decide +kernel
theorem dX12_laysPast_18 : decode cX12_laysPast 18 = .ok (.iconst 0, 1) := by decide +kernel
theorem dX12_laysPast_19 : decode cX12_laysPast 19 = .ok (.putfield 426, 3) := by decide +kernel
theorem dX12_laysPast_22 : decode cX12_laysPast 22 = .ok (.aload_n 0, 1) := by decide +kernel
theorem dX12_laysPast_23 : decode cX12_laysPast 23 = .ok (.iconst (-1), 1) := by decide +kernel
theorem dX12_laysPast_24 : decode cX12_laysPast 24 = .ok (.putfield 429, 3) := by decide +kernel
theorem dX12_laysPast_27 : decode cX12_laysPast 27 = .ok (.iconst 0, 1) := by decide +kernel
theorem dX12_laysPast_28 : decode cX12_laysPast 28 = .ok (.istore 5, 2) := by decide +kernel
theorem dX12_laysPast_30 : decode cX12_laysPast 30 = .ok (.iload 5, 2) := by decide +kernel
theorem dX12_laysPast_32 : decode cX12_laysPast 32 = .ok (.aload_n 0, 1) := by decide +kernel
theorem dX12_laysPast_33 : decode cX12_laysPast 33 = .ok (.getfield 35, 3) := by decide +kernel
theorem dX12_laysPast_36 : decode cX12_laysPast 36 = .ok (.iconst 2, 1) := by decide +kernel
theorem dX12_laysPast_37 : decode cX12_laysPast 37 = .ok (.iaload, 1) := by decide +kernel
theorem dX12_laysPast_38 : decode cX12_laysPast 38 = .ok (.if_icmp .ge 35, 3) := by decide +kernel
theorem dX12_laysPast_41 : decode cX12_laysPast 41 = .ok (.aload_n 0, 1) := by decide +kernel
theorem dX12_laysPast_42 : decode cX12_laysPast 42 = .ok (.getfield 59, 3) := by decide +kernel
theorem dX12_laysPast_45 : decode cX12_laysPast 45 = .ok (.iload 5, 2) := by decide +kernel
theorem dX12_laysPast_47 : decode cX12_laysPast 47 = .ok (.aload_n 0, 1) := by decide +kernel
theorem dX12_laysPast_48 : decode cX12_laysPast 48 = .ok (.getfield 35, 3) := by decide +kernel
theorem dX12_laysPast_51 : decode cX12_laysPast 51 = .ok (.bipush 13, 2) := by decide +kernel
theorem dX12_laysPast_53 : decode cX12_laysPast 53 = .ok (.iload_n 3, 1) := by decide +kernel
theorem dX12_laysPast_54 : decode cX12_laysPast 54 = .ok (.iadd, 1) := by decide +kernel
theorem dX12_laysPast_55 : decode cX12_laysPast 55 = .ok (.iload 5, 2) := by decide +kernel
theorem dX12_laysPast_57 : decode cX12_laysPast 57 = .ok (.iadd, 1) := by decide +kernel
theorem dX12_laysPast_58 : decode cX12_laysPast 58 = .ok (.iaload, 1) := by decide +kernel
theorem dX12_laysPast_59 : decode cX12_laysPast 59 = .ok (.iastore, 1) := by decide +kernel
theorem dX12_laysPast_60 : decode cX12_laysPast 60 = .ok (.iload 4, 2) := by decide +kernel
theorem dX12_laysPast_62 : decode cX12_laysPast 62 = .ok (.bipush 10, 2) := by decide +kernel
theorem dX12_laysPast_64 : decode cX12_laysPast 64 = .ok (.imul, 1) := by decide +kernel
theorem dX12_laysPast_65 : decode cX12_laysPast 65 = .ok (.istore 4, 2) := by decide +kernel
theorem dX12_laysPast_67 : decode cX12_laysPast 67 = .ok (.iinc 5 1, 3) := by decide +kernel
theorem dX12_laysPast_70 : decode cX12_laysPast 70 = .ok (.goto (-40), 3) := by decide +kernel
theorem dX12_laysPast_73 : decode cX12_laysPast 73 = .ok (.iconst 0, 1) := by decide +kernel
theorem dX12_laysPast_74 : decode cX12_laysPast 74 = .ok (.istore 5, 2) := by decide +kernel
theorem dX12_laysPast_76 : decode cX12_laysPast 76 = .ok (.iload 5, 2) := by decide +kernel
theorem dX12_laysPast_78 : decode cX12_laysPast 78 = .ok (.iload 4, 2) := by decide +kernel
theorem dX12_laysPast_80 : decode cX12_laysPast 80 = .ok (.if_icmp .ge 119, 3) := by decide +kernel
theorem dX12_laysPast_83 : decode cX12_laysPast 83 = .ok (.iload 5, 2) := by decide +kernel
theorem dX12_laysPast_85 : decode cX12_laysPast 85 = .ok (.istore 6, 2) := by decide +kernel
theorem dX12_laysPast_87 : decode cX12_laysPast 87 = .ok (.aload_n 0, 1) := by decide +kernel
theorem dX12_laysPast_88 : decode cX12_laysPast 88 = .ok (.getfield 35, 3) := by decide +kernel
theorem dX12_laysPast_91 : decode cX12_laysPast 91 = .ok (.iconst 2, 1) := by decide +kernel
theorem dX12_laysPast_92 : decode cX12_laysPast 92 = .ok (.iaload, 1) := by decide +kernel
theorem dX12_laysPast_93 : decode cX12_laysPast 93 = .ok (.iconst 1, 1) := by decide +kernel
theorem dX12_laysPast_94 : decode cX12_laysPast 94 = .ok (.isub, 1) := by decide +kernel
theorem dX12_laysPast_95 : decode cX12_laysPast 95 = .ok (.istore 7, 2) := by decide +kernel
theorem dX12_laysPast_97 : decode cX12_laysPast 97 = .ok (.iload 7, 2) := by decide +kernel
theorem dX12_laysPast_99 : decode cX12_laysPast 99 = .ok (.ifCond .lt 33, 3) := by decide +kernel
theorem dX12_laysPast_102 : decode cX12_laysPast 102 = .ok (.aload_n 0, 1) := by decide +kernel
theorem dX12_laysPast_103 : decode cX12_laysPast 103 = .ok (.getfield 35, 3) := by decide +kernel
theorem dX12_laysPast_106 : decode cX12_laysPast 106 = .ok (.bipush 13, 2) := by decide +kernel
theorem dX12_laysPast_108 : decode cX12_laysPast 108 = .ok (.iload_n 3, 1) := by decide +kernel
theorem dX12_laysPast_109 : decode cX12_laysPast 109 = .ok (.iadd, 1) := by decide +kernel
theorem dX12_laysPast_110 : decode cX12_laysPast 110 = .ok (.iload 7, 2) := by decide +kernel
theorem dX12_laysPast_112 : decode cX12_laysPast 112 = .ok (.iadd, 1) := by decide +kernel
theorem dX12_laysPast_113 : decode cX12_laysPast 113 = .ok (.iload 6, 2) := by decide +kernel
theorem dX12_laysPast_115 : decode cX12_laysPast 115 = .ok (.bipush 10, 2) := by decide +kernel
theorem dX12_laysPast_117 : decode cX12_laysPast 117 = .ok (.irem, 1) := by decide +kernel
theorem dX12_laysPast_118 : decode cX12_laysPast 118 = .ok (.iastore, 1) := by decide +kernel
theorem dX12_laysPast_119 : decode cX12_laysPast 119 = .ok (.iload 6, 2) := by decide +kernel
theorem dX12_laysPast_121 : decode cX12_laysPast 121 = .ok (.bipush 10, 2) := by decide +kernel
theorem dX12_laysPast_123 : decode cX12_laysPast 123 = .ok (.idiv, 1) := by decide +kernel
theorem dX12_laysPast_124 : decode cX12_laysPast 124 = .ok (.istore 6, 2) := by decide +kernel
theorem dX12_laysPast_126 : decode cX12_laysPast 126 = .ok (.iinc 7 (-1), 3) := by decide +kernel
theorem dX12_laysPast_129 : decode cX12_laysPast 129 = .ok (.goto (-32), 3) := by decide +kernel
theorem dX12_laysPast_132 : decode cX12_laysPast 132 = .ok (.aload_n 0, 1) := by decide +kernel
theorem dX12_laysPast_133 : decode cX12_laysPast 133 = .ok (.iload_n 3, 1) := by decide +kernel
theorem dX12_laysPast_134 : decode cX12_laysPast 134 = .ok (.invokevirtual 432, 3) := by decide +kernel
theorem dX12_laysPast_137 : decode cX12_laysPast 137 = .ok (.ifCond .ne 6, 3) := by decide +kernel
theorem dX12_laysPast_140 : decode cX12_laysPast 140 = .ok (.goto 53, 3) := by decide +kernel
theorem dX12_laysPast_143 : decode cX12_laysPast 143 = .ok (.aload_n 0, 1) := by decide +kernel
theorem dX12_laysPast_144 : decode cX12_laysPast 144 = .ok (.dup, 1) := by decide +kernel
theorem dX12_laysPast_145 : decode cX12_laysPast 145 = .ok (.getfield 423, 3) := by decide +kernel
theorem dX12_laysPast_148 : decode cX12_laysPast 148 = .ok (.iconst 1, 1) := by decide +kernel
theorem dX12_laysPast_149 : decode cX12_laysPast 149 = .ok (.iadd, 1) := by decide +kernel
theorem dX12_laysPast_150 : decode cX12_laysPast 150 = .ok (.putfield 423, 3) := by decide +kernel
theorem dX12_laysPast_153 : decode cX12_laysPast 153 = .ok (.aload_n 0, 1) := by decide +kernel
theorem dX12_laysPast_154 : decode cX12_laysPast 154 = .ok (.dup, 1) := by decide +kernel
theorem dX12_laysPast_155 : decode cX12_laysPast 155 = .ok (.getfield 426, 3) := by decide +kernel
theorem dX12_laysPast_158 : decode cX12_laysPast 158 = .ok (.iload 5, 2) := by decide +kernel
theorem dX12_laysPast_160 : decode cX12_laysPast 160 = .ok (.iload_n 2, 1) := by decide +kernel
theorem dX12_laysPast_161 : decode cX12_laysPast 161 = .ok (.if_icmp .ne 7, 3) := by decide +kernel
theorem dX12_laysPast_164 : decode cX12_laysPast 164 = .ok (.iconst 1, 1) := by decide +kernel
theorem dX12_laysPast_165 : decode cX12_laysPast 165 = .ok (.goto 4, 3) := by decide +kernel
theorem dX12_laysPast_168 : decode cX12_laysPast 168 = .ok (.iconst 0, 1) := by decide +kernel
theorem dX12_laysPast_169 : decode cX12_laysPast 169 = .ok (.iadd, 1) := by decide +kernel
theorem dX12_laysPast_170 : decode cX12_laysPast 170 = .ok (.putfield 426, 3) := by decide +kernel
theorem dX12_laysPast_173 : decode cX12_laysPast 173 = .ok (.aload_n 0, 1) := by decide +kernel
theorem dX12_laysPast_174 : decode cX12_laysPast 174 = .ok (.aload_n 0, 1) := by decide +kernel
theorem dX12_laysPast_175 : decode cX12_laysPast 175 = .ok (.getfield 429, 3) := by decide +kernel
theorem dX12_laysPast_178 : decode cX12_laysPast 178 = .ok (.ifCond .ge 8, 3) := by decide +kernel
theorem dX12_laysPast_181 : decode cX12_laysPast 181 = .ok (.iload 5, 2) := by decide +kernel
theorem dX12_laysPast_183 : decode cX12_laysPast 183 = .ok (.goto 7, 3) := by decide +kernel
theorem dX12_laysPast_186 : decode cX12_laysPast 186 = .ok (.aload_n 0, 1) := by decide +kernel
theorem dX12_laysPast_187 : decode cX12_laysPast 187 = .ok (.getfield 429, 3) := by decide +kernel
theorem dX12_laysPast_190 : decode cX12_laysPast 190 = .ok (.putfield 429, 3) := by decide +kernel
theorem dX12_laysPast_193 : decode cX12_laysPast 193 = .ok (.iinc 5 1, 3) := by decide +kernel
theorem dX12_laysPast_196 : decode cX12_laysPast 196 = .ok (.goto (-120), 3) := by decide +kernel
theorem dX12_laysPast_199 : decode cX12_laysPast 199 = .ok (.iconst 0, 1) := by decide +kernel
theorem dX12_laysPast_200 : decode cX12_laysPast 200 = .ok (.istore 5, 2) := by decide +kernel
theorem dX12_laysPast_202 : decode cX12_laysPast 202 = .ok (.iload 5, 2) := by decide +kernel
theorem dX12_laysPast_204 : decode cX12_laysPast 204 = .ok (.aload_n 0, 1) := by decide +kernel
theorem dX12_laysPast_205 : decode cX12_laysPast 205 = .ok (.getfield 35, 3) := by decide +kernel
theorem dX12_laysPast_208 : decode cX12_laysPast 208 = .ok (.iconst 2, 1) := by decide +kernel
theorem dX12_laysPast_209 : decode cX12_laysPast 209 = .ok (.iaload, 1) := by decide +kernel
theorem dX12_laysPast_210 : decode cX12_laysPast 210 = .ok (.if_icmp .ge 28, 3) := by decide +kernel
theorem dX12_laysPast_213 : decode cX12_laysPast 213 = .ok (.aload_n 0, 1) := by decide +kernel
theorem dX12_laysPast_214 : decode cX12_laysPast 214 = .ok (.getfield 35, 3) := by decide +kernel
theorem dX12_laysPast_217 : decode cX12_laysPast 217 = .ok (.bipush 13, 2) := by decide +kernel
theorem dX12_laysPast_219 : decode cX12_laysPast 219 = .ok (.iload_n 3, 1) := by decide +kernel
theorem dX12_laysPast_220 : decode cX12_laysPast 220 = .ok (.iadd, 1) := by decide +kernel
theorem dX12_laysPast_221 : decode cX12_laysPast 221 = .ok (.iload 5, 2) := by decide +kernel
theorem dX12_laysPast_223 : decode cX12_laysPast 223 = .ok (.iadd, 1) := by decide +kernel
theorem dX12_laysPast_224 : decode cX12_laysPast 224 = .ok (.aload_n 0, 1) := by decide +kernel
theorem dX12_laysPast_225 : decode cX12_laysPast 225 = .ok (.getfield 59, 3) := by decide +kernel
theorem dX12_laysPast_228 : decode cX12_laysPast 228 = .ok (.iload 5, 2) := by decide +kernel
theorem dX12_laysPast_230 : decode cX12_laysPast 230 = .ok (.iaload, 1) := by decide +kernel
theorem dX12_laysPast_231 : decode cX12_laysPast 231 = .ok (.iastore, 1) := by decide +kernel
theorem dX12_laysPast_232 : decode cX12_laysPast 232 = .ok (.iinc 5 1, 3) := by decide +kernel
theorem dX12_laysPast_235 : decode cX12_laysPast 235 = .ok (.goto (-33), 3) := by decide +kernel
theorem dX12_laysPast_238 : decode cX12_laysPast 238 = .ok (.return_, 1) := by decide +kernel
theorem dX12_isPast_0 : decode cX12_isPast 0 = .ok (.iconst 0, 1) := by decide +kernel
theorem dX12_isPast_1 : decode cX12_isPast 1 = .ok (.istore_n 2, 1) := by decide +kernel
theorem dX12_isPast_2 : decode cX12_isPast 2 = .ok (.iload_n 2, 1) := by decide +kernel
theorem dX12_isPast_3 : decode cX12_isPast 3 = .ok (.aload_n 0, 1) := by decide +kernel
theorem dX12_isPast_4 : decode cX12_isPast 4 = .ok (.getfield 35, 3) := by decide +kernel
theorem dX12_isPast_7 : decode cX12_isPast 7 = .ok (.iconst 2, 1) := by decide +kernel
theorem dX12_isPast_8 : decode cX12_isPast 8 = .ok (.iaload, 1) := by decide +kernel
theorem dX12_isPast_9 : decode cX12_isPast 9 = .ok (.if_icmp .ge 27, 3) := by decide +kernel
theorem dX12_isPast_12 : decode cX12_isPast 12 = .ok (.aload_n 0, 1) := by decide +kernel
theorem dX12_isPast_13 : decode cX12_isPast 13 = .ok (.iload_n 1, 1) := by decide +kernel
theorem dX12_isPast_14 : decode cX12_isPast 14 = .ok (.iload_n 2, 1) := by decide +kernel
theorem dX12_isPast_15 : decode cX12_isPast 15 = .ok (.iadd, 1) := by decide +kernel
theorem dX12_isPast_16 : decode cX12_isPast 16 = .ok (.invokevirtual 359, 3) := by decide +kernel
theorem dX12_isPast_19 : decode cX12_isPast 19 = .ok (.aload_n 0, 1) := by decide +kernel
theorem dX12_isPast_20 : decode cX12_isPast 20 = .ok (.getfield 59, 3) := by decide +kernel
theorem dX12_isPast_23 : decode cX12_isPast 23 = .ok (.iload_n 2, 1) := by decide +kernel
theorem dX12_isPast_24 : decode cX12_isPast 24 = .ok (.iaload, 1) := by decide +kernel
theorem dX12_isPast_25 : decode cX12_isPast 25 = .ok (.if_icmp .eq 5, 3) := by decide +kernel
theorem dX12_isPast_28 : decode cX12_isPast 28 = .ok (.iconst 0, 1) := by decide +kernel
theorem dX12_isPast_29 : decode cX12_isPast 29 = .ok (.ireturn, 1) := by decide +kernel
theorem dX12_isPast_30 : decode cX12_isPast 30 = .ok (.iinc 2 1, 3) := by decide +kernel
theorem dX12_isPast_33 : decode cX12_isPast 33 = .ok (.goto (-31), 3) := by decide +kernel
theorem dX12_isPast_36 : decode cX12_isPast 36 = .ok (.iconst 1, 1) := by decide +kernel
theorem dX12_isPast_37 : decode cX12_isPast 37 = .ok (.ireturn, 1) := by decide +kernel
theorem dX12_past_0 : decode cX12_past 0 = .ok (.aload_n 0, 1) := by decide +kernel
theorem dX12_past_1 : decode cX12_past 1 = .ok (.iconst 0, 1) := by decide +kernel
theorem dX12_past_2 : decode cX12_past 2 = .ok (.putfield 72, 3) := by decide +kernel
theorem dX12_past_5 : decode cX12_past 5 = .ok (.aload_n 0, 1) := by decide +kernel
theorem dX12_past_6 : decode cX12_past 6 = .ok (.iconst 0, 1) := by decide +kernel
theorem dX12_past_7 : decode cX12_past 7 = .ok (.putfield 75, 3) := by decide +kernel
theorem dX12_past_10 : decode cX12_past 10 = .ok (.aload_n 0, 1) := by decide +kernel
theorem dX12_past_11 : decode cX12_past 11 = .ok (.iload_n 1, 1) := by decide +kernel
theorem dX12_past_12 : decode cX12_past 12 = .ok (.invokevirtual 333, 3) := by decide +kernel
theorem dX12_past_15 : decode cX12_past 15 = .ok (.ifCond .ne 9, 3) := by decide +kernel
theorem dX12_past_18 : decode cX12_past 18 = .ok (.aload_n 0, 1) := by decide +kernel
theorem dX12_past_19 : decode cX12_past 19 = .ok (.iconst 2, 1) := by decide +kernel
theorem dX12_past_20 : decode cX12_past 20 = .ok (.invokevirtual 318, 3) := by decide +kernel
theorem dX12_past_23 : decode cX12_past 23 = .ok (.ireturn, 1) := by decide +kernel
theorem dX12_past_24 : decode cX12_past 24 = .ok (.aload_n 0, 1) := by decide +kernel
theorem dX12_past_25 : decode cX12_past 25 = .ok (.iload_n 1, 1) := by decide +kernel
theorem dX12_past_26 : decode cX12_past 26 = .ok (.iconst 0, 1) := by decide +kernel
theorem dX12_past_27 : decode cX12_past 27 = .ok (.invokevirtual 435, 3) := by decide +kernel
theorem dX12_past_30 : decode cX12_past 30 = .ok (.aload_n 0, 1) := by decide +kernel
theorem dX12_past_31 : decode cX12_past 31 = .ok (.getfield 423, 3) := by decide +kernel
theorem dX12_past_34 : decode cX12_past 34 = .ok (.ireturn, 1) := by decide +kernel
theorem dX12_likely_0 : decode cX12_likely 0 = .ok (.aload_n 0, 1) := by decide +kernel
theorem dX12_likely_1 : decode cX12_likely 1 = .ok (.iconst 0, 1) := by decide +kernel
theorem dX12_likely_2 : decode cX12_likely 2 = .ok (.putfield 72, 3) := by decide +kernel
theorem dX12_likely_5 : decode cX12_likely 5 = .ok (.aload_n 0, 1) := by decide +kernel
theorem dX12_likely_6 : decode cX12_likely 6 = .ok (.iconst 0, 1) := by decide +kernel
theorem dX12_likely_7 : decode cX12_likely 7 = .ok (.putfield 75, 3) := by decide +kernel
theorem dX12_likely_10 : decode cX12_likely 10 = .ok (.aload_n 0, 1) := by decide +kernel
theorem dX12_likely_11 : decode cX12_likely 11 = .ok (.iload_n 1, 1) := by decide +kernel
theorem dX12_likely_12 : decode cX12_likely 12 = .ok (.invokevirtual 333, 3) := by decide +kernel
theorem dX12_likely_15 : decode cX12_likely 15 = .ok (.ifCond .ne 9, 3) := by decide +kernel
theorem dX12_likely_18 : decode cX12_likely 18 = .ok (.aload_n 0, 1) := by decide +kernel
theorem dX12_likely_19 : decode cX12_likely 19 = .ok (.iconst 2, 1) := by decide +kernel
theorem dX12_likely_20 : decode cX12_likely 20 = .ok (.invokevirtual 318, 3) := by decide +kernel
theorem dX12_likely_23 : decode cX12_likely 23 = .ok (.ireturn, 1) := by decide +kernel
theorem dX12_likely_24 : decode cX12_likely 24 = .ok (.iload_n 2, 1) := by decide +kernel
theorem dX12_likely_25 : decode cX12_likely 25 = .ok (.ifCond .ge 9, 3) := by decide +kernel
theorem dX12_likely_28 : decode cX12_likely 28 = .ok (.aload_n 0, 1) := by decide +kernel
theorem dX12_likely_29 : decode cX12_likely 29 = .ok (.iconst 5, 1) := by decide +kernel
theorem dX12_likely_30 : decode cX12_likely 30 = .ok (.invokevirtual 318, 3) := by decide +kernel
theorem dX12_likely_33 : decode cX12_likely 33 = .ok (.ireturn, 1) := by decide +kernel
theorem dX12_likely_34 : decode cX12_likely 34 = .ok (.aload_n 0, 1) := by decide +kernel
theorem dX12_likely_35 : decode cX12_likely 35 = .ok (.iload_n 1, 1) := by decide +kernel
theorem dX12_likely_36 : decode cX12_likely 36 = .ok (.iload_n 2, 1) := by decide +kernel
theorem dX12_likely_37 : decode cX12_likely 37 = .ok (.invokevirtual 435, 3) := by decide +kernel
theorem dX12_likely_40 : decode cX12_likely 40 = .ok (.aload_n 0, 1) := by decide +kernel
theorem dX12_likely_41 : decode cX12_likely 41 = .ok (.getfield 426, 3) := by decide +kernel
theorem dX12_likely_44 : decode cX12_likely 44 = .ok (.ireturn, 1) := by decide +kernel
theorem dX12_leastPast_0 : decode cX12_leastPast 0 = .ok (.aload_n 0, 1) := by decide +kernel
theorem dX12_leastPast_1 : decode cX12_leastPast 1 = .ok (.iconst 0, 1) := by decide +kernel
theorem dX12_leastPast_2 : decode cX12_leastPast 2 = .ok (.putfield 72, 3) := by decide +kernel
theorem dX12_leastPast_5 : decode cX12_leastPast 5 = .ok (.aload_n 0, 1) := by decide +kernel
theorem dX12_leastPast_6 : decode cX12_leastPast 6 = .ok (.iconst 0, 1) := by decide +kernel
theorem dX12_leastPast_7 : decode cX12_leastPast 7 = .ok (.putfield 75, 3) := by decide +kernel
theorem dX12_leastPast_10 : decode cX12_leastPast 10 = .ok (.aload_n 0, 1) := by decide +kernel
theorem dX12_leastPast_11 : decode cX12_leastPast 11 = .ok (.iload_n 1, 1) := by decide +kernel
theorem dX12_leastPast_12 : decode cX12_leastPast 12 = .ok (.invokevirtual 333, 3) := by decide +kernel
theorem dX12_leastPast_15 : decode cX12_leastPast 15 = .ok (.ifCond .ne 9, 3) := by decide +kernel
theorem dX12_leastPast_18 : decode cX12_leastPast 18 = .ok (.aload_n 0, 1) := by decide +kernel
theorem dX12_leastPast_19 : decode cX12_leastPast 19 = .ok (.iconst 2, 1) := by decide +kernel
theorem dX12_leastPast_20 : decode cX12_leastPast 20 = .ok (.invokevirtual 318, 3) := by decide +kernel
theorem dX12_leastPast_23 : decode cX12_leastPast 23 = .ok (.ireturn, 1) := by decide +kernel
theorem dX12_leastPast_24 : decode cX12_leastPast 24 = .ok (.aload_n 0, 1) := by decide +kernel
theorem dX12_leastPast_25 : decode cX12_leastPast 25 = .ok (.iload_n 1, 1) := by decide +kernel
theorem dX12_leastPast_26 : decode cX12_leastPast 26 = .ok (.iconst 0, 1) := by decide +kernel
theorem dX12_leastPast_27 : decode cX12_leastPast 27 = .ok (.invokevirtual 435, 3) := by decide +kernel
theorem dX12_leastPast_30 : decode cX12_leastPast 30 = .ok (.aload_n 0, 1) := by decide +kernel
theorem dX12_leastPast_31 : decode cX12_leastPast 31 = .ok (.getfield 429, 3) := by decide +kernel
theorem dX12_leastPast_34 : decode cX12_leastPast 34 = .ok (.ifCond .ge 12, 3) := by decide +kernel
theorem dX12_leastPast_37 : decode cX12_leastPast 37 = .ok (.aload_n 0, 1) := by decide +kernel
theorem dX12_leastPast_38 : decode cX12_leastPast 38 = .ok (.bipush 8, 2) := by decide +kernel
theorem dX12_leastPast_40 : decode cX12_leastPast 40 = .ok (.invokevirtual 318, 3) := by decide +kernel
theorem dX12_leastPast_43 : decode cX12_leastPast 43 = .ok (.goto 7, 3) := by decide +kernel
theorem dX12_leastPast_46 : decode cX12_leastPast 46 = .ok (.aload_n 0, 1) := by decide +kernel
theorem dX12_leastPast_47 : decode cX12_leastPast 47 = .ok (.getfield 429, 3) := by decide +kernel
theorem dX12_leastPast_50 : decode cX12_leastPast 50 = .ok (.ireturn, 1) := by decide +kernel
theorem dX12_mayOf_0 : decode cX12_mayOf 0 = .ok (.iconst 1, 1) := by decide +kernel
theorem dX12_mayOf_1 : decode cX12_mayOf 1 = .ok (.iload_n 1, 1) := by decide +kernel
theorem dX12_mayOf_2 : decode cX12_mayOf 2 = .ok (.ishl, 1) := by decide +kernel
theorem dX12_mayOf_3 : decode cX12_mayOf 3 = .ok (.istore_n 2, 1) := by decide +kernel
theorem dX12_mayOf_4 : decode cX12_mayOf 4 = .ok (.iconst 0, 1) := by decide +kernel
theorem dX12_mayOf_5 : decode cX12_mayOf 5 = .ok (.istore_n 3, 1) := by decide +kernel
theorem dX12_mayOf_6 : decode cX12_mayOf 6 = .ok (.iload_n 3, 1) := by decide +kernel
theorem dX12_mayOf_7 : decode cX12_mayOf 7 = .ok (.bipush 9, 2) := by decide +kernel
theorem dX12_mayOf_9 : decode cX12_mayOf 9 = .ok (.if_icmp .gt 61, 3) := by decide +kernel
theorem dX12_mayOf_12 : decode cX12_mayOf 12 = .ok (.iconst 0, 1) := by decide +kernel
theorem dX12_mayOf_13 : decode cX12_mayOf 13 = .ok (.istore 4, 2) := by decide +kernel
theorem dX12_mayOf_15 : decode cX12_mayOf 15 = .ok (.iload 4, 2) := by decide +kernel
theorem dX12_mayOf_17 : decode cX12_mayOf 17 = .ok (.aload_n 0, 1) := by decide +kernel
theorem dX12_mayOf_18 : decode cX12_mayOf 18 = .ok (.getfield 35, 3) := by decide +kernel
theorem dX12_mayOf_21 : decode cX12_mayOf 21 = .ok (.iconst 1, 1) := by decide +kernel
theorem dX12_mayOf_22 : decode cX12_mayOf 22 = .ok (.iaload, 1) := by decide +kernel
theorem dX12_mayOf_23 : decode cX12_mayOf 23 = .ok (.if_icmp .ge 41, 3) := by decide +kernel
theorem dX12_mayOf_26 : decode cX12_mayOf 26 = .ok (.iload_n 2, 1) := by decide +kernel
theorem dX12_mayOf_27 : decode cX12_mayOf 27 = .ok (.aload_n 0, 1) := by decide +kernel
theorem dX12_mayOf_28 : decode cX12_mayOf 28 = .ok (.getfield 35, 3) := by decide +kernel
theorem dX12_mayOf_31 : decode cX12_mayOf 31 = .ok (.bipush 88, 2) := by decide +kernel
theorem dX12_mayOf_33 : decode cX12_mayOf 33 = .ok (.iload 4, 2) := by decide +kernel
theorem dX12_mayOf_35 : decode cX12_mayOf 35 = .ok (.iadd, 1) := by decide +kernel
theorem dX12_mayOf_36 : decode cX12_mayOf 36 = .ok (.iaload, 1) := by decide +kernel
theorem dX12_mayOf_37 : decode cX12_mayOf 37 = .ok (.invokestatic 242, 3) := by decide +kernel
theorem dX12_mayOf_40 : decode cX12_mayOf 40 = .ok (.ifCond .eq 18, 3) := by decide +kernel
theorem dX12_mayOf_43 : decode cX12_mayOf 43 = .ok (.iload_n 2, 1) := by decide +kernel
theorem dX12_mayOf_44 : decode cX12_mayOf 44 = .ok (.iconst 1, 1) := by decide +kernel
theorem dX12_mayOf_45 : decode cX12_mayOf 45 = .ok (.aload_n 0, 1) := by decide +kernel
theorem dX12_mayOf_46 : decode cX12_mayOf 46 = .ok (.getfield 35, 3) := by decide +kernel
theorem dX12_mayOf_49 : decode cX12_mayOf 49 = .ok (.bipush 98, 2) := by decide +kernel
theorem dX12_mayOf_51 : decode cX12_mayOf 51 = .ok (.iload 4, 2) := by decide +kernel
theorem dX12_mayOf_53 : decode cX12_mayOf 53 = .ok (.iadd, 1) := by decide +kernel
theorem dX12_mayOf_54 : decode cX12_mayOf 54 = .ok (.iaload, 1) := by decide +kernel
theorem dX12_mayOf_55 : decode cX12_mayOf 55 = .ok (.ishl, 1) := by decide +kernel
theorem dX12_mayOf_56 : decode cX12_mayOf 56 = .ok (.ior, 1) := by decide +kernel
theorem dX12_mayOf_57 : decode cX12_mayOf 57 = .ok (.istore_n 2, 1) := by decide +kernel
theorem dX12_mayOf_58 : decode cX12_mayOf 58 = .ok (.iinc 4 1, 3) := by decide +kernel
theorem dX12_mayOf_61 : decode cX12_mayOf 61 = .ok (.goto (-46), 3) := by decide +kernel
theorem dX12_mayOf_64 : decode cX12_mayOf 64 = .ok (.iinc 3 1, 3) := by decide +kernel
theorem dX12_mayOf_67 : decode cX12_mayOf 67 = .ok (.goto (-61), 3) := by decide +kernel
theorem dX12_mayOf_70 : decode cX12_mayOf 70 = .ok (.iload_n 2, 1) := by decide +kernel
theorem dX12_mayOf_71 : decode cX12_mayOf 71 = .ok (.ireturn, 1) := by decide +kernel
theorem dX12_may_0 : decode cX12_may 0 = .ok (.aload_n 0, 1) := by decide +kernel
theorem dX12_may_1 : decode cX12_may 1 = .ok (.iconst 0, 1) := by decide +kernel
theorem dX12_may_2 : decode cX12_may 2 = .ok (.putfield 72, 3) := by decide +kernel
theorem dX12_may_5 : decode cX12_may 5 = .ok (.aload_n 0, 1) := by decide +kernel
theorem dX12_may_6 : decode cX12_may 6 = .ok (.iconst 0, 1) := by decide +kernel
theorem dX12_may_7 : decode cX12_may 7 = .ok (.putfield 75, 3) := by decide +kernel
theorem dX12_may_10 : decode cX12_may 10 = .ok (.iload_n 1, 1) := by decide +kernel
theorem dX12_may_11 : decode cX12_may 11 = .ok (.i2l, 1) := by decide +kernel
theorem dX12_may_12 : decode cX12_may 12 = .ok (.lconst 0, 1) := by decide +kernel
theorem dX12_may_13 : decode cX12_may 13 = .ok (.ldc2_w 249, 3) := by decide +kernel
theorem dX12_may_16 : decode cX12_may 16 = .ok (.invokestatic 107, 3) := by decide +kernel
theorem dX12_may_19 : decode cX12_may 19 = .ok (.ifCond .eq 11, 3) := by decide +kernel
theorem dX12_may_22 : decode cX12_may 22 = .ok (.aload_n 0, 1) := by decide +kernel
theorem dX12_may_23 : decode cX12_may 23 = .ok (.iload_n 1, 1) := by decide +kernel
theorem dX12_may_24 : decode cX12_may 24 = .ok (.invokevirtual 438, 3) := by decide +kernel
theorem dX12_may_27 : decode cX12_may 27 = .ok (.goto 8, 3) := by decide +kernel
theorem dX12_may_30 : decode cX12_may 30 = .ok (.aload_n 0, 1) := by decide +kernel
theorem dX12_may_31 : decode cX12_may 31 = .ok (.iconst 5, 1) := by decide +kernel
theorem dX12_may_32 : decode cX12_may 32 = .ok (.invokevirtual 318, 3) := by decide +kernel
theorem dX12_may_35 : decode cX12_may 35 = .ok (.ireturn, 1) := by decide +kernel
theorem dX12_theft_0 : decode cX12_theft 0 = .ok (.aload_n 0, 1) := by decide +kernel
theorem dX12_theft_1 : decode cX12_theft 1 = .ok (.iconst 0, 1) := by decide +kernel
theorem dX12_theft_2 : decode cX12_theft 2 = .ok (.putfield 72, 3) := by decide +kernel
theorem dX12_theft_5 : decode cX12_theft 5 = .ok (.aload_n 0, 1) := by decide +kernel
theorem dX12_theft_6 : decode cX12_theft 6 = .ok (.iconst 0, 1) := by decide +kernel
theorem dX12_theft_7 : decode cX12_theft 7 = .ok (.putfield 75, 3) := by decide +kernel
theorem dX12_theft_10 : decode cX12_theft 10 = .ok (.iconst 0, 1) := by decide +kernel
theorem dX12_theft_11 : decode cX12_theft 11 = .ok (.istore_n 1, 1) := by decide +kernel
theorem dX12_theft_12 : decode cX12_theft 12 = .ok (.iconst 0, 1) := by decide +kernel
theorem dX12_theft_13 : decode cX12_theft 13 = .ok (.istore_n 2, 1) := by decide +kernel
theorem dX12_theft_14 : decode cX12_theft 14 = .ok (.iload_n 2, 1) := by decide +kernel
theorem dX12_theft_15 : decode cX12_theft 15 = .ok (.aload_n 0, 1) := by decide +kernel
theorem dX12_theft_16 : decode cX12_theft 16 = .ok (.invokevirtual 301, 3) := by decide +kernel
theorem dX12_theft_19 : decode cX12_theft 19 = .ok (.if_icmp .ge 47, 3) := by decide +kernel
theorem dX12_theft_22 : decode cX12_theft 22 = .ok (.iload_n 1, 1) := by decide +kernel
theorem dX12_theft_23 : decode cX12_theft 23 = .ok (.aload_n 0, 1) := by decide +kernel
theorem dX12_theft_24 : decode cX12_theft 24 = .ok (.aload_n 0, 1) := by decide +kernel
theorem dX12_theft_25 : decode cX12_theft 25 = .ok (.getfield 35, 3) := by decide +kernel
theorem dX12_theft_28 : decode cX12_theft 28 = .ok (.bipush 38, 2) := by decide +kernel
theorem dX12_theft_30 : decode cX12_theft 30 = .ok (.iload_n 2, 1) := by decide +kernel
theorem dX12_theft_31 : decode cX12_theft 31 = .ok (.iadd, 1) := by decide +kernel
theorem dX12_theft_32 : decode cX12_theft 32 = .ok (.iaload, 1) := by decide +kernel
theorem dX12_theft_33 : decode cX12_theft 33 = .ok (.invokevirtual 438, 3) := by decide +kernel
theorem dX12_theft_36 : decode cX12_theft 36 = .ok (.aload_n 0, 1) := by decide +kernel
theorem dX12_theft_37 : decode cX12_theft 37 = .ok (.getfield 35, 3) := by decide +kernel
theorem dX12_theft_40 : decode cX12_theft 40 = .ok (.bipush 13, 2) := by decide +kernel
theorem dX12_theft_42 : decode cX12_theft 42 = .ok (.iload_n 2, 1) := by decide +kernel
theorem dX12_theft_43 : decode cX12_theft 43 = .ok (.iadd, 1) := by decide +kernel
theorem dX12_theft_44 : decode cX12_theft 44 = .ok (.iaload, 1) := by decide +kernel
theorem dX12_theft_45 : decode cX12_theft 45 = .ok (.invokestatic 242, 3) := by decide +kernel
theorem dX12_theft_48 : decode cX12_theft 48 = .ok (.ifCond .eq 7, 3) := by decide +kernel
theorem dX12_theft_51 : decode cX12_theft 51 = .ok (.iconst 0, 1) := by decide +kernel
theorem dX12_theft_52 : decode cX12_theft 52 = .ok (.goto 6, 3) := by decide +kernel
theorem dX12_theft_55 : decode cX12_theft 55 = .ok (.iconst 1, 1) := by decide +kernel
theorem dX12_theft_56 : decode cX12_theft 56 = .ok (.iload_n 2, 1) := by decide +kernel
theorem dX12_theft_57 : decode cX12_theft 57 = .ok (.ishl, 1) := by decide +kernel
theorem dX12_theft_58 : decode cX12_theft 58 = .ok (.ior, 1) := by decide +kernel
theorem dX12_theft_59 : decode cX12_theft 59 = .ok (.istore_n 1, 1) := by decide +kernel
theorem dX12_theft_60 : decode cX12_theft 60 = .ok (.iinc 2 1, 3) := by decide +kernel
theorem dX12_theft_63 : decode cX12_theft 63 = .ok (.goto (-49), 3) := by decide +kernel
theorem dX12_theft_66 : decode cX12_theft 66 = .ok (.iload_n 1, 1) := by decide +kernel
theorem dX12_theft_67 : decode cX12_theft 67 = .ok (.ireturn, 1) := by decide +kernel
theorem dX12_over_0 : decode cX12_over 0 = .ok (.aload_n 0, 1) := by decide +kernel
theorem dX12_over_1 : decode cX12_over 1 = .ok (.bipush 13, 2) := by decide +kernel
theorem dX12_over_3 : decode cX12_over 3 = .ok (.iload_n 1, 1) := by decide +kernel
theorem dX12_over_4 : decode cX12_over 4 = .ok (.iload_n 2, 1) := by decide +kernel
theorem dX12_over_5 : decode cX12_over 5 = .ok (.iload_n 3, 1) := by decide +kernel
theorem dX12_over_6 : decode cX12_over 6 = .ok (.invokevirtual 336, 3) := by decide +kernel
theorem dX12_over_9 : decode cX12_over 9 = .ok (.aload_n 0, 1) := by decide +kernel
theorem dX12_over_10 : decode cX12_over 10 = .ok (.bipush 38, 2) := by decide +kernel
theorem dX12_over_12 : decode cX12_over 12 = .ok (.iload_n 1, 1) := by decide +kernel
theorem dX12_over_13 : decode cX12_over 13 = .ok (.iload_n 2, 1) := by decide +kernel
theorem dX12_over_14 : decode cX12_over 14 = .ok (.iload_n 3, 1) := by decide +kernel
theorem dX12_over_15 : decode cX12_over 15 = .ok (.invokevirtual 336, 3) := by decide +kernel
theorem dX12_over_18 : decode cX12_over 18 = .ok (.isub, 1) := by decide +kernel
theorem dX12_over_19 : decode cX12_over 19 = .ok (.ireturn, 1) := by decide +kernel
theorem dX12_told_0 : decode cX12_told 0 = .ok (.aload_n 0, 1) := by decide +kernel
theorem dX12_told_1 : decode cX12_told 1 = .ok (.iconst 0, 1) := by decide +kernel
theorem dX12_told_2 : decode cX12_told 2 = .ok (.putfield 72, 3) := by decide +kernel
theorem dX12_told_5 : decode cX12_told 5 = .ok (.aload_n 0, 1) := by decide +kernel
theorem dX12_told_6 : decode cX12_told 6 = .ok (.iconst 0, 1) := by decide +kernel
theorem dX12_told_7 : decode cX12_told 7 = .ok (.putfield 75, 3) := by decide +kernel
theorem dX12_told_10 : decode cX12_told 10 = .ok (.iconst (-1), 1) := by decide +kernel
theorem dX12_told_11 : decode cX12_told 11 = .ok (.istore_n 1, 1) := by decide +kernel
theorem dX12_told_12 : decode cX12_told 12 = .ok (.iconst (-1), 1) := by decide +kernel
theorem dX12_told_13 : decode cX12_told 13 = .ok (.istore_n 2, 1) := by decide +kernel
theorem dX12_told_14 : decode cX12_told 14 = .ok (.iconst 0, 1) := by decide +kernel
theorem dX12_told_15 : decode cX12_told 15 = .ok (.istore_n 3, 1) := by decide +kernel
theorem dX12_told_16 : decode cX12_told 16 = .ok (.iconst 0, 1) := by decide +kernel
theorem dX12_told_17 : decode cX12_told 17 = .ok (.istore 4, 2) := by decide +kernel
theorem dX12_told_19 : decode cX12_told 19 = .ok (.iconst 0, 1) := by decide +kernel
theorem dX12_told_20 : decode cX12_told 20 = .ok (.istore 5, 2) := by decide +kernel
theorem dX12_told_22 : decode cX12_told 22 = .ok (.iload 5, 2) := by decide +kernel
theorem dX12_told_24 : decode cX12_told 24 = .ok (.aload_n 0, 1) := by decide +kernel
theorem dX12_told_25 : decode cX12_told 25 = .ok (.getfield 35, 3) := by decide +kernel
theorem dX12_told_28 : decode cX12_told 28 = .ok (.iconst 0, 1) := by decide +kernel
theorem dX12_told_29 : decode cX12_told 29 = .ok (.iaload, 1) := by decide +kernel
theorem dX12_told_30 : decode cX12_told 30 = .ok (.if_icmp .ge 41, 3) := by decide +kernel
theorem dX12_told_33 : decode cX12_told 33 = .ok (.aload_n 0, 1) := by decide +kernel
theorem dX12_told_34 : decode cX12_told 34 = .ok (.aload_n 0, 1) := by decide +kernel
theorem dX12_told_35 : decode cX12_told 35 = .ok (.getfield 35, 3) := by decide +kernel
theorem dX12_told_38 : decode cX12_told 38 = .ok (.iconst 2, 1) := by decide +kernel
theorem dX12_told_39 : decode cX12_told 39 = .ok (.iaload, 1) := by decide +kernel
theorem dX12_told_40 : decode cX12_told 40 = .ok (.iload 5, 2) := by decide +kernel
theorem dX12_told_42 : decode cX12_told 42 = .ok (.imul, 1) := by decide +kernel
theorem dX12_told_43 : decode cX12_told 43 = .ok (.aload_n 0, 1) := by decide +kernel
theorem dX12_told_44 : decode cX12_told 44 = .ok (.getfield 35, 3) := by decide +kernel
theorem dX12_told_47 : decode cX12_told 47 = .ok (.iconst 2, 1) := by decide +kernel
theorem dX12_told_48 : decode cX12_told 48 = .ok (.iaload, 1) := by decide +kernel
theorem dX12_told_49 : decode cX12_told 49 = .ok (.iconst 1, 1) := by decide +kernel
theorem dX12_told_50 : decode cX12_told 50 = .ok (.invokevirtual 441, 3) := by decide +kernel
theorem dX12_told_53 : decode cX12_told 53 = .ok (.ifCond .ne 6, 3) := by decide +kernel
theorem dX12_told_56 : decode cX12_told 56 = .ok (.goto 9, 3) := by decide +kernel
theorem dX12_told_59 : decode cX12_told 59 = .ok (.iload 5, 2) := by decide +kernel
theorem dX12_told_61 : decode cX12_told 61 = .ok (.istore_n 1, 1) := by decide +kernel
theorem dX12_told_62 : decode cX12_told 62 = .ok (.iinc 3 1, 3) := by decide +kernel
theorem dX12_told_65 : decode cX12_told 65 = .ok (.iinc 5 1, 3) := by decide +kernel
theorem dX12_told_68 : decode cX12_told 68 = .ok (.goto (-46), 3) := by decide +kernel
theorem dX12_told_71 : decode cX12_told 71 = .ok (.iconst 0, 1) := by decide +kernel
theorem dX12_told_72 : decode cX12_told 72 = .ok (.istore 5, 2) := by decide +kernel
theorem dX12_told_74 : decode cX12_told 74 = .ok (.iload 5, 2) := by decide +kernel
theorem dX12_told_76 : decode cX12_told 76 = .ok (.aload_n 0, 1) := by decide +kernel
theorem dX12_told_77 : decode cX12_told 77 = .ok (.getfield 35, 3) := by decide +kernel
theorem dX12_told_80 : decode cX12_told 80 = .ok (.iconst 2, 1) := by decide +kernel
theorem dX12_told_81 : decode cX12_told 81 = .ok (.iaload, 1) := by decide +kernel
theorem dX12_told_82 : decode cX12_told 82 = .ok (.if_icmp .ge 39, 3) := by decide +kernel
theorem dX12_told_85 : decode cX12_told 85 = .ok (.aload_n 0, 1) := by decide +kernel
theorem dX12_told_86 : decode cX12_told 86 = .ok (.iload 5, 2) := by decide +kernel
theorem dX12_told_88 : decode cX12_told 88 = .ok (.aload_n 0, 1) := by decide +kernel
theorem dX12_told_89 : decode cX12_told 89 = .ok (.getfield 35, 3) := by decide +kernel
theorem dX12_told_92 : decode cX12_told 92 = .ok (.iconst 0, 1) := by decide +kernel
theorem dX12_told_93 : decode cX12_told 93 = .ok (.iaload, 1) := by decide +kernel
theorem dX12_told_94 : decode cX12_told 94 = .ok (.aload_n 0, 1) := by decide +kernel
theorem dX12_told_95 : decode cX12_told 95 = .ok (.getfield 35, 3) := by decide +kernel
theorem dX12_told_98 : decode cX12_told 98 = .ok (.iconst 2, 1) := by decide +kernel
theorem dX12_told_99 : decode cX12_told 99 = .ok (.iaload, 1) := by decide +kernel
theorem dX12_told_100 : decode cX12_told 100 = .ok (.invokevirtual 441, 3) := by decide +kernel
theorem dX12_told_103 : decode cX12_told 103 = .ok (.ifCond .ne 6, 3) := by decide +kernel
theorem dX12_told_106 : decode cX12_told 106 = .ok (.goto 9, 3) := by decide +kernel
theorem dX12_told_109 : decode cX12_told 109 = .ok (.iload 5, 2) := by decide +kernel
theorem dX12_told_111 : decode cX12_told 111 = .ok (.istore_n 2, 1) := by decide +kernel
theorem dX12_told_112 : decode cX12_told 112 = .ok (.iinc 4 1, 3) := by decide +kernel
theorem dX12_told_115 : decode cX12_told 115 = .ok (.iinc 5 1, 3) := by decide +kernel
theorem dX12_told_118 : decode cX12_told 118 = .ok (.goto (-44), 3) := by decide +kernel
theorem dX12_told_121 : decode cX12_told 121 = .ok (.iload_n 3, 1) := by decide +kernel
theorem dX12_told_122 : decode cX12_told 122 = .ok (.iconst 1, 1) := by decide +kernel
theorem dX12_told_123 : decode cX12_told 123 = .ok (.if_icmp .ne 9, 3) := by decide +kernel
theorem dX12_told_126 : decode cX12_told 126 = .ok (.iload 4, 2) := by decide +kernel
theorem dX12_told_128 : decode cX12_told 128 = .ok (.iconst 1, 1) := by decide +kernel
theorem dX12_told_129 : decode cX12_told 129 = .ok (.if_icmp .eq 10, 3) := by decide +kernel
theorem dX12_told_132 : decode cX12_told 132 = .ok (.aload_n 0, 1) := by decide +kernel
theorem dX12_told_133 : decode cX12_told 133 = .ok (.bipush 8, 2) := by decide +kernel
theorem dX12_told_135 : decode cX12_told 135 = .ok (.invokevirtual 318, 3) := by decide +kernel
theorem dX12_told_138 : decode cX12_told 138 = .ok (.ireturn, 1) := by decide +kernel
theorem dX12_told_139 : decode cX12_told 139 = .ok (.aload_n 0, 1) := by decide +kernel
theorem dX12_told_140 : decode cX12_told 140 = .ok (.aload_n 0, 1) := by decide +kernel
theorem dX12_told_141 : decode cX12_told 141 = .ok (.getfield 35, 3) := by decide +kernel
theorem dX12_told_144 : decode cX12_told 144 = .ok (.iconst 2, 1) := by decide +kernel
theorem dX12_told_145 : decode cX12_told 145 = .ok (.iaload, 1) := by decide +kernel
theorem dX12_told_146 : decode cX12_told 146 = .ok (.iload_n 1, 1) := by decide +kernel
theorem dX12_told_147 : decode cX12_told 147 = .ok (.imul, 1) := by decide +kernel
theorem dX12_told_148 : decode cX12_told 148 = .ok (.aload_n 0, 1) := by decide +kernel
theorem dX12_told_149 : decode cX12_told 149 = .ok (.getfield 35, 3) := by decide +kernel
theorem dX12_told_152 : decode cX12_told 152 = .ok (.iconst 2, 1) := by decide +kernel
theorem dX12_told_153 : decode cX12_told 153 = .ok (.iaload, 1) := by decide +kernel
theorem dX12_told_154 : decode cX12_told 154 = .ok (.iconst 1, 1) := by decide +kernel
theorem dX12_told_155 : decode cX12_told 155 = .ok (.invokevirtual 441, 3) := by decide +kernel
theorem dX12_told_158 : decode cX12_told 158 = .ok (.aload_n 0, 1) := by decide +kernel
theorem dX12_told_159 : decode cX12_told 159 = .ok (.iload_n 2, 1) := by decide +kernel
theorem dX12_told_160 : decode cX12_told 160 = .ok (.aload_n 0, 1) := by decide +kernel
theorem dX12_told_161 : decode cX12_told 161 = .ok (.getfield 35, 3) := by decide +kernel
theorem dX12_told_164 : decode cX12_told 164 = .ok (.iconst 0, 1) := by decide +kernel
theorem dX12_told_165 : decode cX12_told 165 = .ok (.iaload, 1) := by decide +kernel
theorem dX12_told_166 : decode cX12_told 166 = .ok (.aload_n 0, 1) := by decide +kernel
theorem dX12_told_167 : decode cX12_told 167 = .ok (.getfield 35, 3) := by decide +kernel
theorem dX12_told_170 : decode cX12_told 170 = .ok (.iconst 2, 1) := by decide +kernel
theorem dX12_told_171 : decode cX12_told 171 = .ok (.iaload, 1) := by decide +kernel
theorem dX12_told_172 : decode cX12_told 172 = .ok (.invokevirtual 441, 3) := by decide +kernel
theorem dX12_told_175 : decode cX12_told 175 = .ok (.if_icmp .ne 16, 3) := by decide +kernel
theorem dX12_told_178 : decode cX12_told 178 = .ok (.aload_n 0, 1) := by decide +kernel
theorem dX12_told_179 : decode cX12_told 179 = .ok (.getfield 35, 3) := by decide +kernel
theorem dX12_told_182 : decode cX12_told 182 = .ok (.iconst 2, 1) := by decide +kernel
theorem dX12_told_183 : decode cX12_told 183 = .ok (.iaload, 1) := by decide +kernel
theorem dX12_told_184 : decode cX12_told 184 = .ok (.iload_n 1, 1) := by decide +kernel
theorem dX12_told_185 : decode cX12_told 185 = .ok (.imul, 1) := by decide +kernel
theorem dX12_told_186 : decode cX12_told 186 = .ok (.iload_n 2, 1) := by decide +kernel
theorem dX12_told_187 : decode cX12_told 187 = .ok (.iadd, 1) := by decide +kernel
theorem dX12_told_188 : decode cX12_told 188 = .ok (.goto 9, 3) := by decide +kernel
theorem dX12_told_191 : decode cX12_told 191 = .ok (.aload_n 0, 1) := by decide +kernel
theorem dX12_told_192 : decode cX12_told 192 = .ok (.bipush 8, 2) := by decide +kernel
theorem dX12_told_194 : decode cX12_told 194 = .ok (.invokevirtual 318, 3) := by decide +kernel
theorem dX12_told_197 : decode cX12_told 197 = .ok (.ireturn, 1) := by decide +kernel
theorem dX12_worthOf_0 : decode cX12_worthOf 0 = .ok (.aload_n 0, 1) := by decide +kernel
theorem dX12_worthOf_1 : decode cX12_worthOf 1 = .ok (.getfield 35, 3) := by decide +kernel
theorem dX12_worthOf_4 : decode cX12_worthOf 4 = .ok (.bipush 8, 2) := by decide +kernel
theorem dX12_worthOf_6 : decode cX12_worthOf 6 = .ok (.iload_n 1, 1) := by decide +kernel
theorem dX12_worthOf_7 : decode cX12_worthOf 7 = .ok (.aload_n 0, 1) := by decide +kernel
theorem dX12_worthOf_8 : decode cX12_worthOf 8 = .ok (.getfield 35, 3) := by decide +kernel
theorem dX12_worthOf_11 : decode cX12_worthOf 11 = .ok (.iconst 2, 1) := by decide +kernel
theorem dX12_worthOf_12 : decode cX12_worthOf 12 = .ok (.iaload, 1) := by decide +kernel
theorem dX12_worthOf_13 : decode cX12_worthOf 13 = .ok (.idiv, 1) := by decide +kernel
theorem dX12_worthOf_14 : decode cX12_worthOf 14 = .ok (.iadd, 1) := by decide +kernel
theorem dX12_worthOf_15 : decode cX12_worthOf 15 = .ok (.iaload, 1) := by decide +kernel
theorem dX12_worthOf_16 : decode cX12_worthOf 16 = .ok (.ifCond .ne 7, 3) := by decide +kernel
theorem dX12_worthOf_19 : decode cX12_worthOf 19 = .ok (.iconst 1, 1) := by decide +kernel
theorem dX12_worthOf_20 : decode cX12_worthOf 20 = .ok (.goto 4, 3) := by decide +kernel
theorem dX12_worthOf_23 : decode cX12_worthOf 23 = .ok (.iconst (-1), 1) := by decide +kernel
theorem dX12_worthOf_24 : decode cX12_worthOf 24 = .ok (.istore_n 2, 1) := by decide +kernel
theorem dX12_worthOf_25 : decode cX12_worthOf 25 = .ok (.iload_n 1, 1) := by decide +kernel
theorem dX12_worthOf_26 : decode cX12_worthOf 26 = .ok (.aload_n 0, 1) := by decide +kernel
theorem dX12_worthOf_27 : decode cX12_worthOf 27 = .ok (.getfield 35, 3) := by decide +kernel
theorem dX12_worthOf_30 : decode cX12_worthOf 30 = .ok (.iconst 2, 1) := by decide +kernel
theorem dX12_worthOf_31 : decode cX12_worthOf 31 = .ok (.iaload, 1) := by decide +kernel
theorem dX12_worthOf_32 : decode cX12_worthOf 32 = .ok (.irem, 1) := by decide +kernel
theorem dX12_worthOf_33 : decode cX12_worthOf 33 = .ok (.istore_n 3, 1) := by decide +kernel
theorem dX12_worthOf_34 : decode cX12_worthOf 34 = .ok (.iload_n 3, 1) := by decide +kernel
theorem dX12_worthOf_35 : decode cX12_worthOf 35 = .ok (.aload_n 0, 1) := by decide +kernel
theorem dX12_worthOf_36 : decode cX12_worthOf 36 = .ok (.getfield 35, 3) := by decide +kernel
theorem dX12_worthOf_39 : decode cX12_worthOf 39 = .ok (.iconst 2, 1) := by decide +kernel
theorem dX12_worthOf_40 : decode cX12_worthOf 40 = .ok (.iaload, 1) := by decide +kernel
theorem dX12_worthOf_41 : decode cX12_worthOf 41 = .ok (.iconst 1, 1) := by decide +kernel
theorem dX12_worthOf_42 : decode cX12_worthOf 42 = .ok (.isub, 1) := by decide +kernel
theorem dX12_worthOf_43 : decode cX12_worthOf 43 = .ok (.if_icmp .ge 14, 3) := by decide +kernel
theorem dX12_worthOf_46 : decode cX12_worthOf 46 = .ok (.iload_n 2, 1) := by decide +kernel
theorem dX12_worthOf_47 : decode cX12_worthOf 47 = .ok (.bipush 10, 2) := by decide +kernel
theorem dX12_worthOf_49 : decode cX12_worthOf 49 = .ok (.imul, 1) := by decide +kernel
theorem dX12_worthOf_50 : decode cX12_worthOf 50 = .ok (.istore_n 2, 1) := by decide +kernel
theorem dX12_worthOf_51 : decode cX12_worthOf 51 = .ok (.iinc 3 1, 3) := by decide +kernel
theorem dX12_worthOf_54 : decode cX12_worthOf 54 = .ok (.goto (-20), 3) := by decide +kernel
theorem dX12_worthOf_57 : decode cX12_worthOf 57 = .ok (.iload_n 2, 1) := by decide +kernel
theorem dX12_worthOf_58 : decode cX12_worthOf 58 = .ok (.ireturn, 1) := by decide +kernel
theorem dX12_isEvenBy_0 : decode cX12_isEvenBy 0 = .ok (.iconst 0, 1) := by decide +kernel
theorem dX12_isEvenBy_1 : decode cX12_isEvenBy 1 = .ok (.istore_n 3, 1) := by decide +kernel
theorem dX12_isEvenBy_2 : decode cX12_isEvenBy 2 = .ok (.iload_n 3, 1) := by decide +kernel
theorem dX12_isEvenBy_3 : decode cX12_isEvenBy 3 = .ok (.bipush 9, 2) := by decide +kernel
theorem dX12_isEvenBy_5 : decode cX12_isEvenBy 5 = .ok (.if_icmp .gt 46, 3) := by decide +kernel
theorem dX12_isEvenBy_8 : decode cX12_isEvenBy 8 = .ok (.iload_n 3, 1) := by decide +kernel
theorem dX12_isEvenBy_9 : decode cX12_isEvenBy 9 = .ok (.aload_n 0, 1) := by decide +kernel
theorem dX12_isEvenBy_10 : decode cX12_isEvenBy 10 = .ok (.getfield 35, 3) := by decide +kernel
theorem dX12_isEvenBy_13 : decode cX12_isEvenBy 13 = .ok (.bipush 13, 2) := by decide +kernel
theorem dX12_isEvenBy_15 : decode cX12_isEvenBy 15 = .ok (.iload_n 1, 1) := by decide +kernel
theorem dX12_isEvenBy_16 : decode cX12_isEvenBy 16 = .ok (.iadd, 1) := by decide +kernel
theorem dX12_isEvenBy_17 : decode cX12_isEvenBy 17 = .ok (.iaload, 1) := by decide +kernel
theorem dX12_isEvenBy_18 : decode cX12_isEvenBy 18 = .ok (.if_icmp .eq 27, 3) := by decide +kernel
theorem dX12_isEvenBy_21 : decode cX12_isEvenBy 21 = .ok (.iload_n 2, 1) := by decide +kernel
theorem dX12_isEvenBy_22 : decode cX12_isEvenBy 22 = .ok (.aload_n 0, 1) := by decide +kernel
theorem dX12_isEvenBy_23 : decode cX12_isEvenBy 23 = .ok (.iload_n 1, 1) := by decide +kernel
theorem dX12_isEvenBy_24 : decode cX12_isEvenBy 24 = .ok (.invokevirtual 445, 3) := by decide +kernel
theorem dX12_isEvenBy_27 : decode cX12_isEvenBy 27 = .ok (.iload_n 3, 1) := by decide +kernel
theorem dX12_isEvenBy_28 : decode cX12_isEvenBy 28 = .ok (.aload_n 0, 1) := by decide +kernel
theorem dX12_isEvenBy_29 : decode cX12_isEvenBy 29 = .ok (.getfield 35, 3) := by decide +kernel
theorem dX12_isEvenBy_32 : decode cX12_isEvenBy 32 = .ok (.bipush 13, 2) := by decide +kernel
theorem dX12_isEvenBy_34 : decode cX12_isEvenBy 34 = .ok (.iload_n 1, 1) := by decide +kernel
theorem dX12_isEvenBy_35 : decode cX12_isEvenBy 35 = .ok (.iadd, 1) := by decide +kernel
theorem dX12_isEvenBy_36 : decode cX12_isEvenBy 36 = .ok (.iaload, 1) := by decide +kernel
theorem dX12_isEvenBy_37 : decode cX12_isEvenBy 37 = .ok (.isub, 1) := by decide +kernel
theorem dX12_isEvenBy_38 : decode cX12_isEvenBy 38 = .ok (.imul, 1) := by decide +kernel
theorem dX12_isEvenBy_39 : decode cX12_isEvenBy 39 = .ok (.iadd, 1) := by decide +kernel
theorem dX12_isEvenBy_40 : decode cX12_isEvenBy 40 = .ok (.ifCond .ne 5, 3) := by decide +kernel
theorem dX12_isEvenBy_43 : decode cX12_isEvenBy 43 = .ok (.iconst 1, 1) := by decide +kernel
theorem dX12_isEvenBy_44 : decode cX12_isEvenBy 44 = .ok (.ireturn, 1) := by decide +kernel
theorem dX12_isEvenBy_45 : decode cX12_isEvenBy 45 = .ok (.iinc 3 1, 3) := by decide +kernel
theorem dX12_isEvenBy_48 : decode cX12_isEvenBy 48 = .ok (.goto (-46), 3) := by decide +kernel
theorem dX12_isEvenBy_51 : decode cX12_isEvenBy 51 = .ok (.iconst 0, 1) := by decide +kernel
theorem dX12_isEvenBy_52 : decode cX12_isEvenBy 52 = .ok (.ireturn, 1) := by decide +kernel
theorem dX12_isEvenByTwo_0 : decode cX12_isEvenByTwo 0 = .ok (.iconst 0, 1) := by decide +kernel
theorem dX12_isEvenByTwo_1 : decode cX12_isEvenByTwo 1 = .ok (.istore 4, 2) := by decide +kernel
theorem dX12_isEvenByTwo_3 : decode cX12_isEvenByTwo 3 = .ok (.iload 4, 2) := by decide +kernel
theorem dX12_isEvenByTwo_5 : decode cX12_isEvenByTwo 5 = .ok (.bipush 9, 2) := by decide +kernel
theorem dX12_isEvenByTwo_7 : decode cX12_isEvenByTwo 7 = .ok (.if_icmp .gt 53, 3) := by decide +kernel
theorem dX12_isEvenByTwo_10 : decode cX12_isEvenByTwo 10 = .ok (.iload 4, 2) := by decide +kernel
theorem dX12_isEvenByTwo_12 : decode cX12_isEvenByTwo 12 = .ok (.aload_n 0, 1) := by decide +kernel
theorem dX12_isEvenByTwo_13 : decode cX12_isEvenByTwo 13 = .ok (.getfield 35, 3) := by decide +kernel
theorem dX12_isEvenByTwo_16 : decode cX12_isEvenByTwo 16 = .ok (.bipush 13, 2) := by decide +kernel
theorem dX12_isEvenByTwo_18 : decode cX12_isEvenByTwo 18 = .ok (.iload_n 1, 1) := by decide +kernel
theorem dX12_isEvenByTwo_19 : decode cX12_isEvenByTwo 19 = .ok (.iadd, 1) := by decide +kernel
theorem dX12_isEvenByTwo_20 : decode cX12_isEvenByTwo 20 = .ok (.iaload, 1) := by decide +kernel
theorem dX12_isEvenByTwo_21 : decode cX12_isEvenByTwo 21 = .ok (.if_icmp .eq 33, 3) := by decide +kernel
theorem dX12_isEvenByTwo_24 : decode cX12_isEvenByTwo 24 = .ok (.aload_n 0, 1) := by decide +kernel
theorem dX12_isEvenByTwo_25 : decode cX12_isEvenByTwo 25 = .ok (.iload_n 2, 1) := by decide +kernel
theorem dX12_isEvenByTwo_26 : decode cX12_isEvenByTwo 26 = .ok (.iload_n 3, 1) := by decide +kernel
theorem dX12_isEvenByTwo_27 : decode cX12_isEvenByTwo 27 = .ok (.aload_n 0, 1) := by decide +kernel
theorem dX12_isEvenByTwo_28 : decode cX12_isEvenByTwo 28 = .ok (.iload_n 1, 1) := by decide +kernel
theorem dX12_isEvenByTwo_29 : decode cX12_isEvenByTwo 29 = .ok (.invokevirtual 445, 3) := by decide +kernel
theorem dX12_isEvenByTwo_32 : decode cX12_isEvenByTwo 32 = .ok (.iload 4, 2) := by decide +kernel
theorem dX12_isEvenByTwo_34 : decode cX12_isEvenByTwo 34 = .ok (.aload_n 0, 1) := by decide +kernel
theorem dX12_isEvenByTwo_35 : decode cX12_isEvenByTwo 35 = .ok (.getfield 35, 3) := by decide +kernel
theorem dX12_isEvenByTwo_38 : decode cX12_isEvenByTwo 38 = .ok (.bipush 13, 2) := by decide +kernel
theorem dX12_isEvenByTwo_40 : decode cX12_isEvenByTwo 40 = .ok (.iload_n 1, 1) := by decide +kernel
theorem dX12_isEvenByTwo_41 : decode cX12_isEvenByTwo 41 = .ok (.iadd, 1) := by decide +kernel
theorem dX12_isEvenByTwo_42 : decode cX12_isEvenByTwo 42 = .ok (.iaload, 1) := by decide +kernel
theorem dX12_isEvenByTwo_43 : decode cX12_isEvenByTwo 43 = .ok (.isub, 1) := by decide +kernel
theorem dX12_isEvenByTwo_44 : decode cX12_isEvenByTwo 44 = .ok (.imul, 1) := by decide +kernel
theorem dX12_isEvenByTwo_45 : decode cX12_isEvenByTwo 45 = .ok (.iadd, 1) := by decide +kernel
theorem dX12_isEvenByTwo_46 : decode cX12_isEvenByTwo 46 = .ok (.invokevirtual 448, 3) := by decide +kernel
theorem dX12_isEvenByTwo_49 : decode cX12_isEvenByTwo 49 = .ok (.ifCond .eq 5, 3) := by decide +kernel
theorem dX12_isEvenByTwo_52 : decode cX12_isEvenByTwo 52 = .ok (.iconst 1, 1) := by decide +kernel
theorem dX12_isEvenByTwo_53 : decode cX12_isEvenByTwo 53 = .ok (.ireturn, 1) := by decide +kernel
theorem dX12_isEvenByTwo_54 : decode cX12_isEvenByTwo 54 = .ok (.iinc 4 1, 3) := by decide +kernel
theorem dX12_isEvenByTwo_57 : decode cX12_isEvenByTwo 57 = .ok (.goto (-54), 3) := by decide +kernel
theorem dX12_isEvenByTwo_60 : decode cX12_isEvenByTwo 60 = .ok (.iconst 0, 1) := by decide +kernel
theorem dX12_isEvenByTwo_61 : decode cX12_isEvenByTwo 61 = .ok (.ireturn, 1) := by decide +kernel
theorem dX12_rubs_0 : decode cX12_rubs 0 = .ok (.aload_n 0, 1) := by decide +kernel
theorem dX12_rubs_1 : decode cX12_rubs 1 = .ok (.invokevirtual 313, 3) := by decide +kernel
theorem dX12_rubs_4 : decode cX12_rubs 4 = .ok (.istore_n 1, 1) := by decide +kernel
theorem dX12_rubs_5 : decode cX12_rubs 5 = .ok (.iload_n 1, 1) := by decide +kernel
theorem dX12_rubs_6 : decode cX12_rubs 6 = .ok (.ifCond .ne 5, 3) := by decide +kernel
theorem dX12_rubs_9 : decode cX12_rubs 9 = .ok (.iconst 0, 1) := by decide +kernel
theorem dX12_rubs_10 : decode cX12_rubs 10 = .ok (.ireturn, 1) := by decide +kernel
theorem dX12_rubs_11 : decode cX12_rubs 11 = .ok (.iconst 0, 1) := by decide +kernel
theorem dX12_rubs_12 : decode cX12_rubs 12 = .ok (.istore_n 2, 1) := by decide +kernel
theorem dX12_rubs_13 : decode cX12_rubs 13 = .ok (.iload_n 2, 1) := by decide +kernel
theorem dX12_rubs_14 : decode cX12_rubs 14 = .ok (.aload_n 0, 1) := by decide +kernel
theorem dX12_rubs_15 : decode cX12_rubs 15 = .ok (.invokevirtual 301, 3) := by decide +kernel
theorem dX12_rubs_18 : decode cX12_rubs 18 = .ok (.if_icmp .ge 22, 3) := by decide +kernel
theorem dX12_rubs_21 : decode cX12_rubs 21 = .ok (.aload_n 0, 1) := by decide +kernel
theorem dX12_rubs_22 : decode cX12_rubs 22 = .ok (.iload_n 2, 1) := by decide +kernel
theorem dX12_rubs_23 : decode cX12_rubs 23 = .ok (.iload_n 1, 1) := by decide +kernel
theorem dX12_rubs_24 : decode cX12_rubs 24 = .ok (.invokevirtual 448, 3) := by decide +kernel
theorem dX12_rubs_27 : decode cX12_rubs 27 = .ok (.ifCond .eq 7, 3) := by decide +kernel
theorem dX12_rubs_30 : decode cX12_rubs 30 = .ok (.iconst 1, 1) := by decide +kernel
theorem dX12_rubs_31 : decode cX12_rubs 31 = .ok (.iload_n 2, 1) := by decide +kernel
theorem dX12_rubs_32 : decode cX12_rubs 32 = .ok (.ishl, 1) := by decide +kernel
theorem dX12_rubs_33 : decode cX12_rubs 33 = .ok (.ireturn, 1) := by decide +kernel
theorem dX12_rubs_34 : decode cX12_rubs 34 = .ok (.iinc 2 1, 3) := by decide +kernel
theorem dX12_rubs_37 : decode cX12_rubs 37 = .ok (.goto (-24), 3) := by decide +kernel
theorem dX12_rubs_40 : decode cX12_rubs 40 = .ok (.iconst 1, 1) := by decide +kernel
theorem dX12_rubs_41 : decode cX12_rubs 41 = .ok (.istore_n 2, 1) := by decide +kernel
theorem dX12_rubs_42 : decode cX12_rubs 42 = .ok (.iload_n 2, 1) := by decide +kernel
theorem dX12_rubs_43 : decode cX12_rubs 43 = .ok (.aload_n 0, 1) := by decide +kernel
theorem dX12_rubs_44 : decode cX12_rubs 44 = .ok (.invokevirtual 301, 3) := by decide +kernel
theorem dX12_rubs_47 : decode cX12_rubs 47 = .ok (.if_icmp .ge 40, 3) := by decide +kernel
theorem dX12_rubs_50 : decode cX12_rubs 50 = .ok (.iconst 0, 1) := by decide +kernel
theorem dX12_rubs_51 : decode cX12_rubs 51 = .ok (.istore_n 3, 1) := by decide +kernel
theorem dX12_rubs_52 : decode cX12_rubs 52 = .ok (.iload_n 3, 1) := by decide +kernel
theorem dX12_rubs_53 : decode cX12_rubs 53 = .ok (.iload_n 2, 1) := by decide +kernel
theorem dX12_rubs_54 : decode cX12_rubs 54 = .ok (.if_icmp .ge 27, 3) := by decide +kernel
theorem dX12_rubs_57 : decode cX12_rubs 57 = .ok (.aload_n 0, 1) := by decide +kernel
theorem dX12_rubs_58 : decode cX12_rubs 58 = .ok (.iload_n 3, 1) := by decide +kernel
theorem dX12_rubs_59 : decode cX12_rubs 59 = .ok (.iload_n 2, 1) := by decide +kernel
theorem dX12_rubs_60 : decode cX12_rubs 60 = .ok (.iload_n 1, 1) := by decide +kernel
theorem dX12_rubs_61 : decode cX12_rubs 61 = .ok (.invokevirtual 451, 3) := by decide +kernel
theorem dX12_rubs_64 : decode cX12_rubs 64 = .ok (.ifCond .eq 11, 3) := by decide +kernel
theorem dX12_rubs_67 : decode cX12_rubs 67 = .ok (.iconst 1, 1) := by decide +kernel
theorem dX12_rubs_68 : decode cX12_rubs 68 = .ok (.iload_n 3, 1) := by decide +kernel
theorem dX12_rubs_69 : decode cX12_rubs 69 = .ok (.ishl, 1) := by decide +kernel
theorem dX12_rubs_70 : decode cX12_rubs 70 = .ok (.iconst 1, 1) := by decide +kernel
theorem dX12_rubs_71 : decode cX12_rubs 71 = .ok (.iload_n 2, 1) := by decide +kernel
theorem dX12_rubs_72 : decode cX12_rubs 72 = .ok (.ishl, 1) := by decide +kernel
theorem dX12_rubs_73 : decode cX12_rubs 73 = .ok (.ior, 1) := by decide +kernel
theorem dX12_rubs_74 : decode cX12_rubs 74 = .ok (.ireturn, 1) := by decide +kernel
theorem dX12_rubs_75 : decode cX12_rubs 75 = .ok (.iinc 3 1, 3) := by decide +kernel
theorem dX12_rubs_78 : decode cX12_rubs 78 = .ok (.goto (-26), 3) := by decide +kernel
theorem dX12_rubs_81 : decode cX12_rubs 81 = .ok (.iinc 2 1, 3) := by decide +kernel
theorem dX12_rubs_84 : decode cX12_rubs 84 = .ok (.goto (-42), 3) := by decide +kernel
theorem dX12_rubs_87 : decode cX12_rubs 87 = .ok (.iconst (-1), 1) := by decide +kernel
theorem dX12_rubs_88 : decode cX12_rubs 88 = .ok (.ireturn, 1) := by decide +kernel
theorem dX12_rubbed_0 : decode cX12_rubbed 0 = .ok (.aload_n 0, 1) := by decide +kernel
theorem dX12_rubbed_1 : decode cX12_rubbed 1 = .ok (.iconst 0, 1) := by decide +kernel
theorem dX12_rubbed_2 : decode cX12_rubbed 2 = .ok (.putfield 72, 3) := by decide +kernel
theorem dX12_rubbed_5 : decode cX12_rubbed 5 = .ok (.aload_n 0, 1) := by decide +kernel
theorem dX12_rubbed_6 : decode cX12_rubbed 6 = .ok (.iconst 0, 1) := by decide +kernel
theorem dX12_rubbed_7 : decode cX12_rubbed 7 = .ok (.putfield 75, 3) := by decide +kernel
theorem dX12_rubbed_10 : decode cX12_rubbed 10 = .ok (.aload_n 0, 1) := by decide +kernel
theorem dX12_rubbed_11 : decode cX12_rubbed 11 = .ok (.invokevirtual 455, 3) := by decide +kernel
theorem dX12_rubbed_14 : decode cX12_rubbed 14 = .ok (.istore_n 1, 1) := by decide +kernel
theorem dX12_rubbed_15 : decode cX12_rubbed 15 = .ok (.iconst 0, 1) := by decide +kernel
theorem dX12_rubbed_16 : decode cX12_rubbed 16 = .ok (.istore_n 2, 1) := by decide +kernel
theorem dX12_rubbed_17 : decode cX12_rubbed 17 = .ok (.iconst 0, 1) := by decide +kernel
theorem dX12_rubbed_18 : decode cX12_rubbed 18 = .ok (.istore_n 3, 1) := by decide +kernel
theorem dX12_rubbed_19 : decode cX12_rubbed 19 = .ok (.iload_n 3, 1) := by decide +kernel
theorem dX12_rubbed_20 : decode cX12_rubbed 20 = .ok (.bipush 25, 2) := by decide +kernel
theorem dX12_rubbed_22 : decode cX12_rubbed 22 = .ok (.if_icmp .ge 25, 3) := by decide +kernel
theorem dX12_rubbed_25 : decode cX12_rubbed 25 = .ok (.iload_n 2, 1) := by decide +kernel
theorem dX12_rubbed_26 : decode cX12_rubbed 26 = .ok (.iload_n 1, 1) := by decide +kernel
theorem dX12_rubbed_27 : decode cX12_rubbed 27 = .ok (.iload_n 3, 1) := by decide +kernel
theorem dX12_rubbed_28 : decode cX12_rubbed 28 = .ok (.invokestatic 242, 3) := by decide +kernel
theorem dX12_rubbed_31 : decode cX12_rubbed 31 = .ok (.ifCond .eq 7, 3) := by decide +kernel
theorem dX12_rubbed_34 : decode cX12_rubbed 34 = .ok (.iconst 1, 1) := by decide +kernel
theorem dX12_rubbed_35 : decode cX12_rubbed 35 = .ok (.goto 4, 3) := by decide +kernel
theorem dX12_rubbed_38 : decode cX12_rubbed 38 = .ok (.iconst 0, 1) := by decide +kernel
theorem dX12_rubbed_39 : decode cX12_rubbed 39 = .ok (.iadd, 1) := by decide +kernel
theorem dX12_rubbed_40 : decode cX12_rubbed 40 = .ok (.istore_n 2, 1) := by decide +kernel
theorem dX12_rubbed_41 : decode cX12_rubbed 41 = .ok (.iinc 3 1, 3) := by decide +kernel
theorem dX12_rubbed_44 : decode cX12_rubbed 44 = .ok (.goto (-25), 3) := by decide +kernel
theorem dX12_rubbed_47 : decode cX12_rubbed 47 = .ok (.iload_n 1, 1) := by decide +kernel
theorem dX12_rubbed_48 : decode cX12_rubbed 48 = .ok (.ifCond .ge 12, 3) := by decide +kernel
theorem dX12_rubbed_51 : decode cX12_rubbed 51 = .ok (.aload_n 0, 1) := by decide +kernel
theorem dX12_rubbed_52 : decode cX12_rubbed 52 = .ok (.bipush 8, 2) := by decide +kernel
theorem dX12_rubbed_54 : decode cX12_rubbed 54 = .ok (.invokevirtual 318, 3) := by decide +kernel
theorem dX12_rubbed_57 : decode cX12_rubbed 57 = .ok (.goto 4, 3) := by decide +kernel
theorem dX12_rubbed_60 : decode cX12_rubbed 60 = .ok (.iload_n 2, 1) := by decide +kernel
theorem dX12_rubbed_61 : decode cX12_rubbed 61 = .ok (.ireturn, 1) := by decide +kernel
theorem dX12_rubbedSet_0 : decode cX12_rubbedSet 0 = .ok (.aload_n 0, 1) := by decide +kernel
theorem dX12_rubbedSet_1 : decode cX12_rubbedSet 1 = .ok (.iconst 0, 1) := by decide +kernel
theorem dX12_rubbedSet_2 : decode cX12_rubbedSet 2 = .ok (.putfield 72, 3) := by decide +kernel
theorem dX12_rubbedSet_5 : decode cX12_rubbedSet 5 = .ok (.aload_n 0, 1) := by decide +kernel
theorem dX12_rubbedSet_6 : decode cX12_rubbedSet 6 = .ok (.iconst 0, 1) := by decide +kernel
theorem dX12_rubbedSet_7 : decode cX12_rubbedSet 7 = .ok (.putfield 75, 3) := by decide +kernel
theorem dX12_rubbedSet_10 : decode cX12_rubbedSet 10 = .ok (.aload_n 0, 1) := by decide +kernel
theorem dX12_rubbedSet_11 : decode cX12_rubbedSet 11 = .ok (.invokevirtual 455, 3) := by decide +kernel
theorem dX12_rubbedSet_14 : decode cX12_rubbedSet 14 = .ok (.istore_n 1, 1) := by decide +kernel
theorem dX12_rubbedSet_15 : decode cX12_rubbedSet 15 = .ok (.iload_n 1, 1) := by decide +kernel
theorem dX12_rubbedSet_16 : decode cX12_rubbedSet 16 = .ok (.ifCond .ge 12, 3) := by decide +kernel
theorem dX12_rubbedSet_19 : decode cX12_rubbedSet 19 = .ok (.aload_n 0, 1) := by decide +kernel
theorem dX12_rubbedSet_20 : decode cX12_rubbedSet 20 = .ok (.bipush 8, 2) := by decide +kernel
theorem dX12_rubbedSet_22 : decode cX12_rubbedSet 22 = .ok (.invokevirtual 318, 3) := by decide +kernel
theorem dX12_rubbedSet_25 : decode cX12_rubbedSet 25 = .ok (.goto 4, 3) := by decide +kernel
theorem dX12_rubbedSet_28 : decode cX12_rubbedSet 28 = .ok (.iload_n 1, 1) := by decide +kernel
theorem dX12_rubbedSet_29 : decode cX12_rubbedSet 29 = .ok (.ireturn, 1) := by decide +kernel
theorem dX12_thieves_0 : decode cX12_thieves 0 = .ok (.iload_n 1, 1) := by decide +kernel
theorem dX12_thieves_1 : decode cX12_thieves 1 = .ok (.ifCond .ne 5, 3) := by decide +kernel
theorem dX12_thieves_4 : decode cX12_thieves 4 = .ok (.iconst 0, 1) := by decide +kernel
theorem dX12_thieves_5 : decode cX12_thieves 5 = .ok (.ireturn, 1) := by decide +kernel
theorem dX12_thieves_6 : decode cX12_thieves 6 = .ok (.iconst (-1), 1) := by decide +kernel
theorem dX12_thieves_7 : decode cX12_thieves 7 = .ok (.istore_n 3, 1) := by decide +kernel
theorem dX12_thieves_8 : decode cX12_thieves 8 = .ok (.iconst (-1), 1) := by decide +kernel
theorem dX12_thieves_9 : decode cX12_thieves 9 = .ok (.istore 4, 2) := by decide +kernel
theorem dX12_thieves_11 : decode cX12_thieves 11 = .ok (.iconst 0, 1) := by decide +kernel
theorem dX12_thieves_12 : decode cX12_thieves 12 = .ok (.istore 5, 2) := by decide +kernel
theorem dX12_thieves_14 : decode cX12_thieves 14 = .ok (.iload 5, 2) := by decide +kernel
theorem dX12_thieves_16 : decode cX12_thieves 16 = .ok (.aload_n 0, 1) := by decide +kernel
theorem dX12_thieves_17 : decode cX12_thieves 17 = .ok (.invokevirtual 301, 3) := by decide +kernel
theorem dX12_thieves_20 : decode cX12_thieves 20 = .ok (.if_icmp .gt 136, 3) := by decide +kernel
theorem dX12_thieves_23 : decode cX12_thieves 23 = .ok (.iload 5, 2) := by decide +kernel
theorem dX12_thieves_25 : decode cX12_thieves 25 = .ok (.aload_n 0, 1) := by decide +kernel
theorem dX12_thieves_26 : decode cX12_thieves 26 = .ok (.invokevirtual 301, 3) := by decide +kernel
theorem dX12_thieves_29 : decode cX12_thieves 29 = .ok (.if_icmp .ne 7, 3) := by decide +kernel
theorem dX12_thieves_32 : decode cX12_thieves 32 = .ok (.iconst 1, 1) := by decide +kernel
theorem dX12_thieves_33 : decode cX12_thieves 33 = .ok (.goto 4, 3) := by decide +kernel
theorem dX12_thieves_36 : decode cX12_thieves 36 = .ok (.iconst 0, 1) := by decide +kernel
theorem dX12_thieves_37 : decode cX12_thieves 37 = .ok (.istore 6, 2) := by decide +kernel
theorem dX12_thieves_39 : decode cX12_thieves 39 = .ok (.iload 6, 2) := by decide +kernel
theorem dX12_thieves_41 : decode cX12_thieves 41 = .ok (.ifCond .ne 29, 3) := by decide +kernel
theorem dX12_thieves_44 : decode cX12_thieves 44 = .ok (.aload_n 0, 1) := by decide +kernel
theorem dX12_thieves_45 : decode cX12_thieves 45 = .ok (.getfield 35, 3) := by decide +kernel
theorem dX12_thieves_48 : decode cX12_thieves 48 = .ok (.bipush 13, 2) := by decide +kernel
theorem dX12_thieves_50 : decode cX12_thieves 50 = .ok (.iload 5, 2) := by decide +kernel
theorem dX12_thieves_52 : decode cX12_thieves 52 = .ok (.iadd, 1) := by decide +kernel
theorem dX12_thieves_53 : decode cX12_thieves 53 = .ok (.iaload, 1) := by decide +kernel
theorem dX12_thieves_54 : decode cX12_thieves 54 = .ok (.ifCond .eq 96, 3) := by decide +kernel
theorem dX12_thieves_57 : decode cX12_thieves 57 = .ok (.aload_n 0, 1) := by decide +kernel
theorem dX12_thieves_58 : decode cX12_thieves 58 = .ok (.iload 5, 2) := by decide +kernel
theorem dX12_thieves_60 : decode cX12_thieves 60 = .ok (.invokevirtual 420, 3) := by decide +kernel
theorem dX12_thieves_63 : decode cX12_thieves 63 = .ok (.iconst 2, 1) := by decide +kernel
theorem dX12_thieves_64 : decode cX12_thieves 64 = .ok (.if_icmp .ge 6, 3) := by decide +kernel
theorem dX12_thieves_67 : decode cX12_thieves 67 = .ok (.goto 83, 3) := by decide +kernel
theorem dX12_thieves_70 : decode cX12_thieves 70 = .ok (.iload 6, 2) := by decide +kernel
theorem dX12_thieves_72 : decode cX12_thieves 72 = .ok (.ifCond .eq 7, 3) := by decide +kernel
theorem dX12_thieves_75 : decode cX12_thieves 75 = .ok (.iconst 0, 1) := by decide +kernel
theorem dX12_thieves_76 : decode cX12_thieves 76 = .ok (.goto 13, 3) := by decide +kernel
theorem dX12_thieves_79 : decode cX12_thieves 79 = .ok (.aload_n 0, 1) := by decide +kernel
theorem dX12_thieves_80 : decode cX12_thieves 80 = .ok (.getfield 35, 3) := by decide +kernel
theorem dX12_thieves_83 : decode cX12_thieves 83 = .ok (.bipush 13, 2) := by decide +kernel
theorem dX12_thieves_85 : decode cX12_thieves 85 = .ok (.iload 5, 2) := by decide +kernel
theorem dX12_thieves_87 : decode cX12_thieves 87 = .ok (.iadd, 1) := by decide +kernel
theorem dX12_thieves_88 : decode cX12_thieves 88 = .ok (.iaload, 1) := by decide +kernel
theorem dX12_thieves_89 : decode cX12_thieves 89 = .ok (.istore 7, 2) := by decide +kernel
theorem dX12_thieves_91 : decode cX12_thieves 91 = .ok (.iload 6, 2) := by decide +kernel
theorem dX12_thieves_93 : decode cX12_thieves 93 = .ok (.ifCond .ne 14, 3) := by decide +kernel
theorem dX12_thieves_96 : decode cX12_thieves 96 = .ok (.aload_n 0, 1) := by decide +kernel
theorem dX12_thieves_97 : decode cX12_thieves 97 = .ok (.getfield 35, 3) := by decide +kernel
theorem dX12_thieves_100 : decode cX12_thieves 100 = .ok (.bipush 13, 2) := by decide +kernel
theorem dX12_thieves_102 : decode cX12_thieves 102 = .ok (.iload 5, 2) := by decide +kernel
theorem dX12_thieves_104 : decode cX12_thieves 104 = .ok (.iadd, 1) := by decide +kernel
theorem dX12_thieves_105 : decode cX12_thieves 105 = .ok (.iconst 0, 1) := by decide +kernel
theorem dX12_thieves_106 : decode cX12_thieves 106 = .ok (.iastore, 1) := by decide +kernel
theorem dX12_thieves_107 : decode cX12_thieves 107 = .ok (.iload 7, 2) := by decide +kernel
theorem dX12_thieves_109 : decode cX12_thieves 109 = .ok (.aload_n 0, 1) := by decide +kernel
theorem dX12_thieves_110 : decode cX12_thieves 110 = .ok (.iload_n 1, 1) := by decide +kernel
theorem dX12_thieves_111 : decode cX12_thieves 111 = .ok (.invokevirtual 458, 3) := by decide +kernel
theorem dX12_thieves_114 : decode cX12_thieves 114 = .ok (.iadd, 1) := by decide +kernel
theorem dX12_thieves_115 : decode cX12_thieves 115 = .ok (.istore 8, 2) := by decide +kernel
theorem dX12_thieves_117 : decode cX12_thieves 117 = .ok (.iload 6, 2) := by decide +kernel
theorem dX12_thieves_119 : decode cX12_thieves 119 = .ok (.ifCond .ne 15, 3) := by decide +kernel
theorem dX12_thieves_122 : decode cX12_thieves 122 = .ok (.aload_n 0, 1) := by decide +kernel
theorem dX12_thieves_123 : decode cX12_thieves 123 = .ok (.getfield 35, 3) := by decide +kernel
theorem dX12_thieves_126 : decode cX12_thieves 126 = .ok (.bipush 13, 2) := by decide +kernel
theorem dX12_thieves_128 : decode cX12_thieves 128 = .ok (.iload 5, 2) := by decide +kernel
theorem dX12_thieves_130 : decode cX12_thieves 130 = .ok (.iadd, 1) := by decide +kernel
theorem dX12_thieves_131 : decode cX12_thieves 131 = .ok (.iload 7, 2) := by decide +kernel
theorem dX12_thieves_133 : decode cX12_thieves 133 = .ok (.iastore, 1) := by decide +kernel
theorem dX12_thieves_134 : decode cX12_thieves 134 = .ok (.iload 8, 2) := by decide +kernel
theorem dX12_thieves_136 : decode cX12_thieves 136 = .ok (.iload_n 3, 1) := by decide +kernel
theorem dX12_thieves_137 : decode cX12_thieves 137 = .ok (.if_icmp .gt 6, 3) := by decide +kernel
theorem dX12_thieves_140 : decode cX12_thieves 140 = .ok (.goto 10, 3) := by decide +kernel
theorem dX12_thieves_143 : decode cX12_thieves 143 = .ok (.iload 8, 2) := by decide +kernel
theorem dX12_thieves_145 : decode cX12_thieves 145 = .ok (.istore_n 3, 1) := by decide +kernel
theorem dX12_thieves_146 : decode cX12_thieves 146 = .ok (.iload 5, 2) := by decide +kernel
theorem dX12_thieves_148 : decode cX12_thieves 148 = .ok (.istore 4, 2) := by decide +kernel
theorem dX12_thieves_150 : decode cX12_thieves 150 = .ok (.iinc 5 1, 3) := by decide +kernel
theorem dX12_thieves_153 : decode cX12_thieves 153 = .ok (.goto (-139), 3) := by decide +kernel
theorem dX12_thieves_156 : decode cX12_thieves 156 = .ok (.iload_n 2, 1) := by decide +kernel
theorem dX12_thieves_157 : decode cX12_thieves 157 = .ok (.ifCond .eq 9, 3) := by decide +kernel
theorem dX12_thieves_160 : decode cX12_thieves 160 = .ok (.aload_n 0, 1) := by decide +kernel
theorem dX12_thieves_161 : decode cX12_thieves 161 = .ok (.iload 4, 2) := by decide +kernel
theorem dX12_thieves_163 : decode cX12_thieves 163 = .ok (.putfield 461, 3) := by decide +kernel
theorem dX12_thieves_166 : decode cX12_thieves 166 = .ok (.iload_n 3, 1) := by decide +kernel
theorem dX12_thieves_167 : decode cX12_thieves 167 = .ok (.ireturn, 1) := by decide +kernel
theorem dX12_watches_0 : decode cX12_watches 0 = .ok (.iconst (-1), 1) := by decide +kernel
theorem dX12_watches_1 : decode cX12_watches 1 = .ok (.istore_n 2, 1) := by decide +kernel
theorem dX12_watches_2 : decode cX12_watches 2 = .ok (.aload_n 0, 1) := by decide +kernel
theorem dX12_watches_3 : decode cX12_watches 3 = .ok (.getfield 35, 3) := by decide +kernel
theorem dX12_watches_6 : decode cX12_watches 6 = .ok (.bipush 7, 2) := by decide +kernel
theorem dX12_watches_8 : decode cX12_watches 8 = .ok (.iaload, 1) := by decide +kernel
theorem dX12_watches_9 : decode cX12_watches 9 = .ok (.istore_n 3, 1) := by decide +kernel
theorem dX12_watches_10 : decode cX12_watches 10 = .ok (.iconst 0, 1) := by decide +kernel
theorem dX12_watches_11 : decode cX12_watches 11 = .ok (.istore 4, 2) := by decide +kernel
theorem dX12_watches_13 : decode cX12_watches 13 = .ok (.iload 4, 2) := by decide +kernel
theorem dX12_watches_15 : decode cX12_watches 15 = .ok (.iconst 4, 1) := by decide +kernel
theorem dX12_watches_16 : decode cX12_watches 16 = .ok (.if_icmp .gt 61, 3) := by decide +kernel
theorem dX12_watches_19 : decode cX12_watches 19 = .ok (.aload_n 0, 1) := by decide +kernel
theorem dX12_watches_20 : decode cX12_watches 20 = .ok (.iload_n 3, 1) := by decide +kernel
theorem dX12_watches_21 : decode cX12_watches 21 = .ok (.iload 4, 2) := by decide +kernel
theorem dX12_watches_23 : decode cX12_watches 23 = .ok (.invokevirtual 362, 3) := by decide +kernel
theorem dX12_watches_26 : decode cX12_watches 26 = .ok (.istore 5, 2) := by decide +kernel
theorem dX12_watches_28 : decode cX12_watches 28 = .ok (.iload 5, 2) := by decide +kernel
theorem dX12_watches_30 : decode cX12_watches 30 = .ok (.ifCond .ge 6, 3) := by decide +kernel
theorem dX12_watches_33 : decode cX12_watches 33 = .ok (.goto 38, 3) := by decide +kernel
theorem dX12_watches_36 : decode cX12_watches 36 = .ok (.aload_n 0, 1) := by decide +kernel
theorem dX12_watches_37 : decode cX12_watches 37 = .ok (.getfield 35, 3) := by decide +kernel
theorem dX12_watches_40 : decode cX12_watches 40 = .ok (.bipush 7, 2) := by decide +kernel
theorem dX12_watches_42 : decode cX12_watches 42 = .ok (.iload 5, 2) := by decide +kernel
theorem dX12_watches_44 : decode cX12_watches 44 = .ok (.iastore, 1) := by decide +kernel
theorem dX12_watches_45 : decode cX12_watches 45 = .ok (.aload_n 0, 1) := by decide +kernel
theorem dX12_watches_46 : decode cX12_watches 46 = .ok (.iload_n 1, 1) := by decide +kernel
theorem dX12_watches_47 : decode cX12_watches 47 = .ok (.iconst 1, 1) := by decide +kernel
theorem dX12_watches_48 : decode cX12_watches 48 = .ok (.isub, 1) := by decide +kernel
theorem dX12_watches_49 : decode cX12_watches 49 = .ok (.iconst 0, 1) := by decide +kernel
theorem dX12_watches_50 : decode cX12_watches 50 = .ok (.invokevirtual 464, 3) := by decide +kernel
theorem dX12_watches_53 : decode cX12_watches 53 = .ok (.istore 6, 2) := by decide +kernel
theorem dX12_watches_55 : decode cX12_watches 55 = .ok (.iload_n 2, 1) := by decide +kernel
theorem dX12_watches_56 : decode cX12_watches 56 = .ok (.ifCond .ge 8, 3) := by decide +kernel
theorem dX12_watches_59 : decode cX12_watches 59 = .ok (.iload 6, 2) := by decide +kernel
theorem dX12_watches_61 : decode cX12_watches 61 = .ok (.goto 9, 3) := by decide +kernel
theorem dX12_watches_64 : decode cX12_watches 64 = .ok (.iload_n 2, 1) := by decide +kernel
theorem dX12_watches_65 : decode cX12_watches 65 = .ok (.iload 6, 2) := by decide +kernel
theorem dX12_watches_67 : decode cX12_watches 67 = .ok (.invokestatic 468, 3) := by decide +kernel
theorem dX12_watches_70 : decode cX12_watches 70 = .ok (.istore_n 2, 1) := by decide +kernel
theorem dX12_watches_71 : decode cX12_watches 71 = .ok (.iinc 4 1, 3) := by decide +kernel
theorem dX12_watches_74 : decode cX12_watches 74 = .ok (.goto (-61), 3) := by decide +kernel
theorem dX12_watches_77 : decode cX12_watches 77 = .ok (.aload_n 0, 1) := by decide +kernel
theorem dX12_watches_78 : decode cX12_watches 78 = .ok (.getfield 35, 3) := by decide +kernel
theorem dX12_watches_81 : decode cX12_watches 81 = .ok (.bipush 7, 2) := by decide +kernel
theorem dX12_watches_83 : decode cX12_watches 83 = .ok (.iload_n 3, 1) := by decide +kernel
theorem dX12_watches_84 : decode cX12_watches 84 = .ok (.iastore, 1) := by decide +kernel
theorem dX12_watches_85 : decode cX12_watches 85 = .ok (.iload_n 2, 1) := by decide +kernel
theorem dX12_watches_86 : decode cX12_watches 86 = .ok (.ireturn, 1) := by decide +kernel
theorem dX12_whyNoGame_0 : decode cX12_whyNoGame 0 = .ok (.iload_n 1, 1) := by decide +kernel
theorem dX12_whyNoGame_1 : decode cX12_whyNoGame 1 = .ok (.i2l, 1) := by decide +kernel
theorem dX12_whyNoGame_2 : decode cX12_whyNoGame 2 = .ok (.iload_n 2, 1) := by decide +kernel
theorem dX12_whyNoGame_3 : decode cX12_whyNoGame 3 = .ok (.i2l, 1) := by decide +kernel
theorem dX12_whyNoGame_4 : decode cX12_whyNoGame 4 = .ok (.ldc2_w 471, 3) := by decide +kernel
theorem dX12_whyNoGame_7 : decode cX12_whyNoGame 7 = .ok (.invokestatic 107, 3) := by decide +kernel
theorem dX12_whyNoGame_10 : decode cX12_whyNoGame 10 = .ok (.ifCond .ne 7, 3) := by decide +kernel
theorem dX12_whyNoGame_13 : decode cX12_whyNoGame 13 = .ok (.iconst 5, 1) := by decide +kernel
theorem dX12_whyNoGame_14 : decode cX12_whyNoGame 14 = .ok (.goto 18, 3) := by decide +kernel
theorem dX12_whyNoGame_17 : decode cX12_whyNoGame 17 = .ok (.aload_n 0, 1) := by decide +kernel
theorem dX12_whyNoGame_18 : decode cX12_whyNoGame 18 = .ok (.getfield 35, 3) := by decide +kernel
theorem dX12_whyNoGame_21 : decode cX12_whyNoGame 21 = .ok (.iconst 0, 1) := by decide +kernel
theorem dX12_whyNoGame_22 : decode cX12_whyNoGame 22 = .ok (.iaload, 1) := by decide +kernel
theorem dX12_whyNoGame_23 : decode cX12_whyNoGame 23 = .ok (.ifCond .ne 8, 3) := by decide +kernel
theorem dX12_whyNoGame_26 : decode cX12_whyNoGame 26 = .ok (.bipush 8, 2) := by decide +kernel
theorem dX12_whyNoGame_28 : decode cX12_whyNoGame 28 = .ok (.goto 4, 3) := by decide +kernel
theorem dX12_whyNoGame_31 : decode cX12_whyNoGame 31 = .ok (.iconst 0, 1) := by decide +kernel
theorem dX12_whyNoGame_32 : decode cX12_whyNoGame 32 = .ok (.ireturn, 1) := by decide +kernel
theorem dX12_game_0 : decode cX12_game 0 = .ok (.aload_n 0, 1) := by decide +kernel
theorem dX12_game_1 : decode cX12_game 1 = .ok (.iconst 0, 1) := by decide +kernel
theorem dX12_game_2 : decode cX12_game 2 = .ok (.putfield 72, 3) := by decide +kernel
theorem dX12_game_5 : decode cX12_game 5 = .ok (.aload_n 0, 1) := by decide +kernel
theorem dX12_game_6 : decode cX12_game 6 = .ok (.aload_n 0, 1) := by decide +kernel
theorem dX12_game_7 : decode cX12_game 7 = .ok (.iload_n 1, 1) := by decide +kernel
theorem dX12_game_8 : decode cX12_game 8 = .ok (.iconst 0, 1) := by decide +kernel
theorem dX12_game_9 : decode cX12_game 9 = .ok (.invokevirtual 473, 3) := by decide +kernel
theorem dX12_game_12 : decode cX12_game 12 = .ok (.putfield 75, 3) := by decide +kernel
theorem dX12_game_15 : decode cX12_game 15 = .ok (.aload_n 0, 1) := by decide +kernel
theorem dX12_game_16 : decode cX12_game 16 = .ok (.getfield 75, 3) := by decide +kernel
theorem dX12_game_19 : decode cX12_game 19 = .ok (.ifCond .le 7, 3) := by decide +kernel
theorem dX12_game_22 : decode cX12_game 22 = .ok (.iconst (-1), 1) := by decide +kernel
theorem dX12_game_23 : decode cX12_game 23 = .ok (.goto 9, 3) := by decide +kernel
theorem dX12_game_26 : decode cX12_game 26 = .ok (.aload_n 0, 1) := by decide +kernel
theorem dX12_game_27 : decode cX12_game 27 = .ok (.iload_n 1, 1) := by decide +kernel
theorem dX12_game_28 : decode cX12_game 28 = .ok (.iconst 1, 1) := by decide +kernel
theorem dX12_game_29 : decode cX12_game 29 = .ok (.invokevirtual 464, 3) := by decide +kernel
theorem dX12_game_32 : decode cX12_game 32 = .ok (.ireturn, 1) := by decide +kernel
