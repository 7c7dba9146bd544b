theorem dX4_compare_37 : decode cX4_compare 37 = .ok (.iload_n 2, 1) := by decide +kernel
theorem dX4_compare_38 : decode cX4_compare 38 = .ok (.if_icmp .ne 7, 3) := by decide +kernel
theorem dX4_compare_41 : decode cX4_compare 41 = .ok (.iconst 1, 1) := by decide +kernel
theorem dX4_compare_42 : decode cX4_compare 42 = .ok (.goto 4, 3) := by decide +kernel
theorem dX4_compare_45 : decode cX4_compare 45 = .ok (.iconst 0, 1) := by decide +kernel
theorem dX4_compare_46 : decode cX4_compare 46 = .ok (.ireturn, 1) := by decide +kernel
theorem dX5_init_0 : decode cX5_init 0 = .ok (.aload_n 0, 1) := by decide +kernel
theorem dX5_init_1 : decode cX5_init 1 = .ok (.invokespecial 1, 3) := by decide +kernel
theorem dX5_init_4 : decode cX5_init 4 = .ok (.aload_n 0, 1) := by decide +kernel
theorem dX5_init_5 : decode cX5_init 5 = .ok (.bipush 60, 2) := by decide +kernel
theorem dX5_init_7 : decode cX5_init 7 = .ok (.newarray .int, 2) := by decide +kernel
theorem dX5_init_9 : decode cX5_init 9 = .ok (.putfield 9, 3) := by decide +kernel
theorem dX5_init_12 : decode cX5_init 12 = .ok (.aload_n 0, 1) := by decide +kernel
theorem dX5_init_13 : decode cX5_init 13 = .ok (.bipush 60, 2) := by decide +kernel
theorem dX5_init_15 : decode cX5_init 15 = .ok (.newarray .int, 2) := by decide +kernel
theorem dX5_init_17 : decode cX5_init 17 = .ok (.putfield 13, 3) := by decide +kernel
theorem dX5_init_20 : decode cX5_init 20 = .ok (.aload_n 0, 1) := by decide +kernel
theorem dX5_init_21 : decode cX5_init 21 = .ok (.bipush 60, 2) := by decide +kernel
theorem dX5_init_23 : decode cX5_init 23 = .ok (.newarray .int, 2) := by decide +kernel
theorem dX5_init_25 : decode cX5_init 25 = .ok (.putfield 16, 3) := by decide +kernel
theorem dX5_init_28 : decode cX5_init 28 = .ok (.aload_n 0, 1) := by decide +kernel
theorem dX5_init_29 : decode cX5_init 29 = .ok (.bipush 60, 2) := by decide +kernel
theorem dX5_init_31 : decode cX5_init 31 = .ok (.newarray .int, 2) := by decide +kernel
theorem dX5_init_33 : decode cX5_init 33 = .ok (.putfield 19, 3) := by decide +kernel
theorem dX5_init_36 : decode cX5_init 36 = .ok (.aload_n 0, 1) := by decide +kernel
theorem dX5_init_37 : decode cX5_init 37 = .ok (.bipush 60, 2) := by decide +kernel
theorem dX5_init_39 : decode cX5_init 39 = .ok (.newarray .int, 2) := by decide +kernel
theorem dX5_init_41 : decode cX5_init 41 = .ok (.putfield 22, 3) := by decide +kernel
theorem dX5_init_44 : decode cX5_init 44 = .ok (.return_, 1) := by decide +kernel
theorem dX5_empty_0 : decode cX5_empty 0 = .ok (.aload_n 0, 1) := by decide +kernel
theorem dX5_empty_1 : decode cX5_empty 1 = .ok (.iconst 0, 1) := by decide +kernel
theorem dX5_empty_2 : decode cX5_empty 2 = .ok (.putfield 25, 3) := by decide +kernel
theorem dX5_empty_5 : decode cX5_empty 5 = .ok (.aload_n 0, 1) := by decide +kernel
theorem dX5_empty_6 : decode cX5_empty 6 = .ok (.iconst 0, 1) := by decide +kernel
theorem dX5_empty_7 : decode cX5_empty 7 = .ok (.putfield 29, 3) := by decide +kernel
theorem dX5_empty_10 : decode cX5_empty 10 = .ok (.aload_n 0, 1) := by decide +kernel
theorem dX5_empty_11 : decode cX5_empty 11 = .ok (.iconst 0, 1) := by decide +kernel
theorem dX5_empty_12 : decode cX5_empty 12 = .ok (.putfield 33, 3) := by decide +kernel
theorem dX5_empty_15 : decode cX5_empty 15 = .ok (.return_, 1) := by decide +kernel
theorem dX5_takeFrom_0 : decode cX5_takeFrom 0 = .ok (.aload_n 0, 1) := by decide +kernel
theorem dX5_takeFrom_1 : decode cX5_takeFrom 1 = .ok (.aload_n 1, 1) := by decide +kernel
theorem dX5_takeFrom_2 : decode cX5_takeFrom 2 = .ok (.getfield 25, 3) := by decide +kernel
theorem dX5_takeFrom_5 : decode cX5_takeFrom 5 = .ok (.putfield 25, 3) := by decide +kernel
theorem dX5_takeFrom_8 : decode cX5_takeFrom 8 = .ok (.aload_n 0, 1) := by decide +kernel
theorem dX5_takeFrom_9 : decode cX5_takeFrom 9 = .ok (.aload_n 1, 1) := by decide +kernel
theorem dX5_takeFrom_10 : decode cX5_takeFrom 10 = .ok (.getfield 29, 3) := by decide +kernel
theorem dX5_takeFrom_13 : decode cX5_takeFrom 13 = .ok (.putfield 29, 3) := by decide +kernel
theorem dX5_takeFrom_16 : decode cX5_takeFrom 16 = .ok (.aload_n 0, 1) := by decide +kernel
theorem dX5_takeFrom_17 : decode cX5_takeFrom 17 = .ok (.aload_n 1, 1) := by decide +kernel
theorem dX5_takeFrom_18 : decode cX5_takeFrom 18 = .ok (.getfield 33, 3) := by decide +kernel
theorem dX5_takeFrom_21 : decode cX5_takeFrom 21 = .ok (.putfield 33, 3) := by decide +kernel
theorem dX5_takeFrom_24 : decode cX5_takeFrom 24 = .ok (.aload_n 1, 1) := by decide +kernel
theorem dX5_takeFrom_25 : decode cX5_takeFrom 25 = .ok (.getfield 9, 3) := by decide +kernel
theorem dX5_takeFrom_28 : decode cX5_takeFrom 28 = .ok (.iconst 0, 1) := by decide +kernel
theorem dX5_takeFrom_29 : decode cX5_takeFrom 29 = .ok (.aload_n 0, 1) := by decide +kernel
theorem dX5_takeFrom_30 : decode cX5_takeFrom 30 = .ok (.getfield 9, 3) := by decide +kernel
theorem dX5_takeFrom_33 : decode cX5_takeFrom 33 = .ok (.iconst 0, 1) := by decide +kernel
theorem dX5_takeFrom_34 : decode cX5_takeFrom 34 = .ok (.bipush 60, 2) := by decide +kernel
theorem dX5_takeFrom_36 : decode cX5_takeFrom 36 = .ok (.invokestatic 36, 3) := by decide +kernel
theorem dX5_takeFrom_39 : decode cX5_takeFrom 39 = .ok (.aload_n 1, 1) := by decide +kernel
theorem dX5_takeFrom_40 : decode cX5_takeFrom 40 = .ok (.getfield 13, 3) := by decide +kernel
theorem dX5_takeFrom_43 : decode cX5_takeFrom 43 = .ok (.iconst 0, 1) := by decide +kernel
theorem dX5_takeFrom_44 : decode cX5_takeFrom 44 = .ok (.aload_n 0, 1) := by decide +kernel
theorem dX5_takeFrom_45 : decode cX5_takeFrom 45 = .ok (.getfield 13, 3) := by decide +kernel
theorem dX5_takeFrom_48 : decode cX5_takeFrom 48 = .ok (.iconst 0, 1) := by decide +kernel
theorem dX5_takeFrom_49 : decode cX5_takeFrom 49 = .ok (.bipush 60, 2) := by decide +kernel
theorem dX5_takeFrom_51 : decode cX5_takeFrom 51 = .ok (.invokestatic 36, 3) := by decide +kernel
theorem dX5_takeFrom_54 : decode cX5_takeFrom 54 = .ok (.aload_n 1, 1) := by decide +kernel
theorem dX5_takeFrom_55 : decode cX5_takeFrom 55 = .ok (.getfield 16, 3) := by decide +kernel
theorem dX5_takeFrom_58 : decode cX5_takeFrom 58 = .ok (.iconst 0, 1) := by decide +kernel
theorem dX5_takeFrom_59 : decode cX5_takeFrom 59 = .ok (.aload_n 0, 1) := by decide +kernel
theorem dX5_takeFrom_60 : decode cX5_takeFrom 60 = .ok (.getfield 16, 3) := by decide +kernel
theorem dX5_takeFrom_63 : decode cX5_takeFrom 63 = .ok (.iconst 0, 1) := by decide +kernel
theorem dX5_takeFrom_64 : decode cX5_takeFrom 64 = .ok (.bipush 60, 2) := by decide +kernel
theorem dX5_takeFrom_66 : decode cX5_takeFrom 66 = .ok (.invokestatic 36, 3) := by decide +kernel
theorem dX5_takeFrom_69 : decode cX5_takeFrom 69 = .ok (.aload_n 1, 1) := by decide +kernel
theorem dX5_takeFrom_70 : decode cX5_takeFrom 70 = .ok (.getfield 19, 3) := by decide +kernel
theorem dX5_takeFrom_73 : decode cX5_takeFrom 73 = .ok (.iconst 0, 1) := by decide +kernel
theorem dX5_takeFrom_74 : decode cX5_takeFrom 74 = .ok (.aload_n 0, 1) := by decide +kernel
theorem dX5_takeFrom_75 : decode cX5_takeFrom 75 = .ok (.getfield 19, 3) := by decide +kernel
theorem dX5_takeFrom_78 : decode cX5_takeFrom 78 = .ok (.iconst 0, 1) := by decide +kernel
theorem dX5_takeFrom_79 : decode cX5_takeFrom 79 = .ok (.bipush 60, 2) := by decide +kernel
theorem dX5_takeFrom_81 : decode cX5_takeFrom 81 = .ok (.invokestatic 36, 3) := by decide +kernel
theorem dX5_takeFrom_84 : decode cX5_takeFrom 84 = .ok (.aload_n 1, 1) := by decide +kernel
theorem dX5_takeFrom_85 : decode cX5_takeFrom 85 = .ok (.getfield 22, 3) := by decide +kernel
theorem dX5_takeFrom_88 : decode cX5_takeFrom 88 = .ok (.iconst 0, 1) := by decide +kernel
theorem dX5_takeFrom_89 : decode cX5_takeFrom 89 = .ok (.aload_n 0, 1) := by decide +kernel
theorem dX5_takeFrom_90 : decode cX5_takeFrom 90 = .ok (.getfield 22, 3) := by decide +kernel
theorem dX5_takeFrom_93 : decode cX5_takeFrom 93 = .ok (.iconst 0, 1) := by decide +kernel
theorem dX5_takeFrom_94 : decode cX5_takeFrom 94 = .ok (.bipush 60, 2) := by decide +kernel
theorem dX5_takeFrom_96 : decode cX5_takeFrom 96 = .ok (.invokestatic 36, 3) := by decide +kernel
theorem dX5_takeFrom_99 : decode cX5_takeFrom 99 = .ok (.return_, 1) := by decide +kernel
theorem dX5_addItem_0 : decode cX5_addItem 0 = .ok (.aload_n 0, 1) := by decide +kernel
theorem dX5_addItem_1 : decode cX5_addItem 1 = .ok (.getfield 33, 3) := by decide +kernel
theorem dX5_addItem_4 : decode cX5_addItem 4 = .ok (.bipush 60, 2) := by decide +kernel
theorem dX5_addItem_6 : decode cX5_addItem 6 = .ok (.if_icmp .lt 6, 3) := by decide +kernel
theorem dX5_addItem_9 : decode cX5_addItem 9 = .ok (.bipush 59, 2) := by decide +kernel
theorem dX5_addItem_11 : decode cX5_addItem 11 = .ok (.ireturn, 1) := by decide +kernel
theorem dX5_addItem_12 : decode cX5_addItem 12 = .ok (.aload_n 0, 1) := by decide +kernel
theorem dX5_addItem_13 : decode cX5_addItem 13 = .ok (.getfield 33, 3) := by decide +kernel
theorem dX5_addItem_16 : decode cX5_addItem 16 = .ok (.istore_n 2, 1) := by decide +kernel
theorem dX5_addItem_17 : decode cX5_addItem 17 = .ok (.aload_n 0, 1) := by decide +kernel
theorem dX5_addItem_18 : decode cX5_addItem 18 = .ok (.getfield 9, 3) := by decide +kernel
theorem dX5_addItem_21 : decode cX5_addItem 21 = .ok (.iload_n 2, 1) := by decide +kernel
theorem dX5_addItem_22 : decode cX5_addItem 22 = .ok (.iload_n 1, 1) := by decide +kernel
theorem dX5_addItem_23 : decode cX5_addItem 23 = .ok (.iastore, 1) := by decide +kernel
theorem dX5_addItem_24 : decode cX5_addItem 24 = .ok (.aload_n 0, 1) := by decide +kernel
theorem dX5_addItem_25 : decode cX5_addItem 25 = .ok (.getfield 13, 3) := by decide +kernel
theorem dX5_addItem_28 : decode cX5_addItem 28 = .ok (.iload_n 2, 1) := by decide +kernel
theorem dX5_addItem_29 : decode cX5_addItem 29 = .ok (.iconst 0, 1) := by decide +kernel
theorem dX5_addItem_30 : decode cX5_addItem 30 = .ok (.iastore, 1) := by decide +kernel
theorem dX5_addItem_31 : decode cX5_addItem 31 = .ok (.aload_n 0, 1) := by decide +kernel
theorem dX5_addItem_32 : decode cX5_addItem 32 = .ok (.getfield 16, 3) := by decide +kernel
theorem dX5_addItem_35 : decode cX5_addItem 35 = .ok (.iload_n 2, 1) := by decide +kernel
theorem dX5_addItem_36 : decode cX5_addItem 36 = .ok (.iconst 0, 1) := by decide +kernel
theorem dX5_addItem_37 : decode cX5_addItem 37 = .ok (.iastore, 1) := by decide +kernel
theorem dX5_addItem_38 : decode cX5_addItem 38 = .ok (.aload_n 0, 1) := by decide +kernel
theorem dX5_addItem_39 : decode cX5_addItem 39 = .ok (.getfield 19, 3) := by decide +kernel
theorem dX5_addItem_42 : decode cX5_addItem 42 = .ok (.iload_n 2, 1) := by decide +kernel
theorem dX5_addItem_43 : decode cX5_addItem 43 = .ok (.iconst 0, 1) := by decide +kernel
theorem dX5_addItem_44 : decode cX5_addItem 44 = .ok (.iastore, 1) := by decide +kernel
theorem dX5_addItem_45 : decode cX5_addItem 45 = .ok (.aload_n 0, 1) := by decide +kernel
theorem dX5_addItem_46 : decode cX5_addItem 46 = .ok (.getfield 22, 3) := by decide +kernel
theorem dX5_addItem_49 : decode cX5_addItem 49 = .ok (.iload_n 2, 1) := by decide +kernel
theorem dX5_addItem_50 : decode cX5_addItem 50 = .ok (.iload_n 2, 1) := by decide +kernel
theorem dX5_addItem_51 : decode cX5_addItem 51 = .ok (.iastore, 1) := by decide +kernel
theorem dX5_addItem_52 : decode cX5_addItem 52 = .ok (.aload_n 0, 1) := by decide +kernel
theorem dX5_addItem_53 : decode cX5_addItem 53 = .ok (.dup, 1) := by decide +kernel
theorem dX5_addItem_54 : decode cX5_addItem 54 = .ok (.getfield 33, 3) := by decide +kernel
theorem dX5_addItem_57 : decode cX5_addItem 57 = .ok (.iconst 1, 1) := by decide +kernel
theorem dX5_addItem_58 : decode cX5_addItem 58 = .ok (.iadd, 1) := by decide +kernel
theorem dX5_addItem_59 : decode cX5_addItem 59 = .ok (.putfield 33, 3) := by decide +kernel
theorem dX5_addItem_62 : decode cX5_addItem 62 = .ok (.iload_n 2, 1) := by decide +kernel
theorem dX5_addItem_63 : decode cX5_addItem 63 = .ok (.ireturn, 1) := by decide +kernel
theorem dX6_init_0 : decode cX6_init 0 = .ok (.aload_n 0, 1) := by decide +kernel
theorem dX6_init_1 : decode cX6_init 1 = .ok (.invokespecial 3, 3) := by decide +kernel
theorem dX6_init_4 : decode cX6_init 4 = .ok (.aload_n 0, 1) := by decide +kernel
theorem dX6_init_5 : decode cX6_init 5 = .ok (.iconst 3, 1) := by decide +kernel
theorem dX6_init_6 : decode cX6_init 6 = .ok (.newarray .int, 2) := by decide +kernel
theorem dX6_init_8 : decode cX6_init 8 = .ok (.putfield 11, 3) := by decide +kernel
theorem dX6_init_11 : decode cX6_init 11 = .ok (.aload_n 0, 1) := by decide +kernel
theorem dX6_init_12 : decode cX6_init 12 = .ok (.aload_n 1, 1) := by decide +kernel
theorem dX6_init_13 : decode cX6_init 13 = .ok (.putfield 15, 3) := by decide +kernel
theorem dX6_init_16 : decode cX6_init 16 = .ok (.return_, 1) := by decide +kernel
theorem dX6_fill_0 : decode cX6_fill 0 = .ok (.aload_n 0, 1) := by decide +kernel
theorem dX6_fill_1 : decode cX6_fill 1 = .ok (.iconst 0, 1) := by decide +kernel
theorem dX6_fill_2 : decode cX6_fill 2 = .ok (.putfield 19, 3) := by decide +kernel
theorem dX6_fill_5 : decode cX6_fill 5 = .ok (.aload_n 1, 1) := by decide +kernel
theorem dX6_fill_6 : decode cX6_fill 6 = .ok (.invokevirtual 23, 3) := by decide +kernel
theorem dX6_fill_9 : decode cX6_fill 9 = .ok (.aload_n 0, 1) := by decide +kernel
theorem dX6_fill_10 : decode cX6_fill 10 = .ok (.getfield 15, 3) := by decide +kernel
theorem dX6_fill_13 : decode cX6_fill 13 = .ok (.iload_n 3, 1) := by decide +kernel
theorem dX6_fill_14 : decode cX6_fill 14 = .ok (.invokevirtual 28, 3) := by decide +kernel
theorem dX6_fill_17 : decode cX6_fill 17 = .ok (.iconst 0, 1) := by decide +kernel
theorem dX6_fill_18 : decode cX6_fill 18 = .ok (.istore 4, 2) := by decide +kernel
theorem dX6_fill_20 : decode cX6_fill 20 = .ok (.iload 4, 2) := by decide +kernel
theorem dX6_fill_22 : decode cX6_fill 22 = .ok (.sipush 300, 3) := by decide +kernel
theorem dX6_fill_25 : decode cX6_fill 25 = .ok (.if_icmp .ge 54, 3) := by decide +kernel
theorem dX6_fill_28 : decode cX6_fill 28 = .ok (.aload_n 0, 1) := by decide +kernel
theorem dX6_fill_29 : decode cX6_fill 29 = .ok (.getfield 15, 3) := by decide +kernel
theorem dX6_fill_32 : decode cX6_fill 32 = .ok (.getfield 33, 3) := by decide +kernel
theorem dX6_fill_35 : decode cX6_fill 35 = .ok (.ifCond .eq 44, 3) := by decide +kernel
theorem dX6_fill_38 : decode cX6_fill 38 = .ok (.aload_n 0, 1) := by decide +kernel
theorem dX6_fill_39 : decode cX6_fill 39 = .ok (.getfield 15, 3) := by decide +kernel
theorem dX6_fill_42 : decode cX6_fill 42 = .ok (.invokevirtual 36, 3) := by decide +kernel
theorem dX6_fill_45 : decode cX6_fill 45 = .ok (.bipush 26, 2) := by decide +kernel
theorem dX6_fill_47 : decode cX6_fill 47 = .ok (.if_icmp .ne 11, 3) := by decide +kernel
theorem dX6_fill_50 : decode cX6_fill 50 = .ok (.aload_n 0, 1) := by decide +kernel
theorem dX6_fill_51 : decode cX6_fill 51 = .ok (.aload_n 1, 1) := by decide +kernel
theorem dX6_fill_52 : decode cX6_fill 52 = .ok (.invokevirtual 40, 3) := by decide +kernel
theorem dX6_fill_55 : decode cX6_fill 55 = .ok (.goto 9, 3) := by decide +kernel
theorem dX6_fill_58 : decode cX6_fill 58 = .ok (.aload_n 0, 1) := by decide +kernel
theorem dX6_fill_59 : decode cX6_fill 59 = .ok (.aload_n 1, 1) := by decide +kernel
theorem dX6_fill_60 : decode cX6_fill 60 = .ok (.aload_n 2, 1) := by decide +kernel
theorem dX6_fill_61 : decode cX6_fill 61 = .ok (.invokevirtual 44, 3) := by decide +kernel
theorem dX6_fill_64 : decode cX6_fill 64 = .ok (.istore 5, 2) := by decide +kernel
theorem dX6_fill_66 : decode cX6_fill 66 = .ok (.iload 5, 2) := by decide +kernel
theorem dX6_fill_68 : decode cX6_fill 68 = .ok (.ifCond .ne 5, 3) := by decide +kernel
theorem dX6_fill_71 : decode cX6_fill 71 = .ok (.iconst 0, 1) := by decide +kernel
theorem dX6_fill_72 : decode cX6_fill 72 = .ok (.ireturn, 1) := by decide +kernel
theorem dX6_fill_73 : decode cX6_fill 73 = .ok (.iinc 4 1, 3) := by decide +kernel
theorem dX6_fill_76 : decode cX6_fill 76 = .ok (.goto (-56), 3) := by decide +kernel
theorem dX6_fill_79 : decode cX6_fill 79 = .ok (.aload_n 0, 1) := by decide +kernel
theorem dX6_fill_80 : decode cX6_fill 80 = .ok (.getfield 19, 3) := by decide +kernel
theorem dX6_fill_83 : decode cX6_fill 83 = .ok (.ifCond .le 11, 3) := by decide +kernel
theorem dX6_fill_86 : decode cX6_fill 86 = .ok (.aload_n 0, 1) := by decide +kernel
theorem dX6_fill_87 : decode cX6_fill 87 = .ok (.getfield 15, 3) := by decide +kernel
theorem dX6_fill_90 : decode cX6_fill 90 = .ok (.invokevirtual 48, 3) := by decide +kernel
theorem dX6_fill_93 : decode cX6_fill 93 = .ok (.ireturn, 1) := by decide +kernel
theorem dX6_fill_94 : decode cX6_fill 94 = .ok (.aload_n 1, 1) := by decide +kernel
theorem dX6_fill_95 : decode cX6_fill 95 = .ok (.iconst 1, 1) := by decide +kernel
theorem dX6_fill_96 : decode cX6_fill 96 = .ok (.putfield 52, 3) := by decide +kernel
theorem dX6_fill_99 : decode cX6_fill 99 = .ok (.iconst 1, 1) := by decide +kernel
theorem dX6_fill_100 : decode cX6_fill 100 = .ok (.ireturn, 1) := by decide +kernel
theorem dX6_takeEnd_0 : decode cX6_takeEnd 0 = .ok (.aload_n 0, 1) := by decide +kernel
theorem dX6_takeEnd_1 : decode cX6_takeEnd 1 = .ok (.getfield 19, 3) := by decide +kernel
theorem dX6_takeEnd_4 : decode cX6_takeEnd 4 = .ok (.ifCond .gt 11, 3) := by decide +kernel
theorem dX6_takeEnd_7 : decode cX6_takeEnd 7 = .ok (.aload_n 0, 1) := by decide +kernel
theorem dX6_takeEnd_8 : decode cX6_takeEnd 8 = .ok (.getfield 15, 3) := by decide +kernel
theorem dX6_takeEnd_11 : decode cX6_takeEnd 11 = .ok (.invokevirtual 48, 3) := by decide +kernel
theorem dX6_takeEnd_14 : decode cX6_takeEnd 14 = .ok (.ireturn, 1) := by decide +kernel
theorem dX6_takeEnd_15 : decode cX6_takeEnd 15 = .ok (.aload_n 0, 1) := by decide +kernel
theorem dX6_takeEnd_16 : decode cX6_takeEnd 16 = .ok (.getfield 15, 3) := by decide +kernel
theorem dX6_takeEnd_19 : decode cX6_takeEnd 19 = .ok (.invokevirtual 56, 3) := by decide +kernel
theorem dX6_takeEnd_22 : decode cX6_takeEnd 22 = .ok (.aload_n 0, 1) := by decide +kernel
theorem dX6_takeEnd_23 : decode cX6_takeEnd 23 = .ok (.dup, 1) := by decide +kernel
theorem dX6_takeEnd_24 : decode cX6_takeEnd 24 = .ok (.getfield 19, 3) := by decide +kernel
theorem dX6_takeEnd_27 : decode cX6_takeEnd 27 = .ok (.iconst 1, 1) := by decide +kernel
theorem dX6_takeEnd_28 : decode cX6_takeEnd 28 = .ok (.isub, 1) := by decide +kernel
theorem dX6_takeEnd_29 : decode cX6_takeEnd 29 = .ok (.putfield 19, 3) := by decide +kernel
theorem dX6_takeEnd_32 : decode cX6_takeEnd 32 = .ok (.aload_n 1, 1) := by decide +kernel
theorem dX6_takeEnd_33 : decode cX6_takeEnd 33 = .ok (.bipush 26, 2) := by decide +kernel
theorem dX6_takeEnd_35 : decode cX6_takeEnd 35 = .ok (.invokevirtual 59, 3) := by decide +kernel
theorem dX6_takeEnd_38 : decode cX6_takeEnd 38 = .ok (.istore_n 2, 1) := by decide +kernel
theorem dX6_takeEnd_39 : decode cX6_takeEnd 39 = .ok (.aload_n 1, 1) := by decide +kernel
theorem dX6_takeEnd_40 : decode cX6_takeEnd 40 = .ok (.getfield 63, 3) := by decide +kernel
theorem dX6_takeEnd_43 : decode cX6_takeEnd 43 = .ok (.iload_n 2, 1) := by decide +kernel
theorem dX6_takeEnd_44 : decode cX6_takeEnd 44 = .ok (.aload_n 0, 1) := by decide +kernel
theorem dX6_takeEnd_45 : decode cX6_takeEnd 45 = .ok (.getfield 11, 3) := by decide +kernel
theorem dX6_takeEnd_48 : decode cX6_takeEnd 48 = .ok (.aload_n 0, 1) := by decide +kernel
theorem dX6_takeEnd_49 : decode cX6_takeEnd 49 = .ok (.getfield 19, 3) := by decide +kernel
theorem dX6_takeEnd_52 : decode cX6_takeEnd 52 = .ok (.iaload, 1) := by decide +kernel
theorem dX6_takeEnd_53 : decode cX6_takeEnd 53 = .ok (.iastore, 1) := by decide +kernel
theorem dX6_takeEnd_54 : decode cX6_takeEnd 54 = .ok (.aload_n 1, 1) := by decide +kernel
theorem dX6_takeEnd_55 : decode cX6_takeEnd 55 = .ok (.getfield 63, 3) := by decide +kernel
theorem dX6_takeEnd_58 : decode cX6_takeEnd 58 = .ok (.aload_n 0, 1) := by decide +kernel
theorem dX6_takeEnd_59 : decode cX6_takeEnd 59 = .ok (.getfield 11, 3) := by decide +kernel
theorem dX6_takeEnd_62 : decode cX6_takeEnd 62 = .ok (.aload_n 0, 1) := by decide +kernel
theorem dX6_takeEnd_63 : decode cX6_takeEnd 63 = .ok (.getfield 19, 3) := by decide +kernel
theorem dX6_takeEnd_66 : decode cX6_takeEnd 66 = .ok (.iaload, 1) := by decide +kernel
theorem dX6_takeEnd_67 : decode cX6_takeEnd 67 = .ok (.iload_n 2, 1) := by decide +kernel
theorem dX6_takeEnd_68 : decode cX6_takeEnd 68 = .ok (.iastore, 1) := by decide +kernel
theorem dX6_takeEnd_69 : decode cX6_takeEnd 69 = .ok (.aload_n 0, 1) := by decide +kernel
theorem dX6_takeEnd_70 : decode cX6_takeEnd 70 = .ok (.getfield 15, 3) := by decide +kernel
theorem dX6_takeEnd_73 : decode cX6_takeEnd 73 = .ok (.invokevirtual 66, 3) := by decide +kernel
theorem dX6_takeEnd_76 : decode cX6_takeEnd 76 = .ok (.ireturn, 1) := by decide +kernel
theorem dX6_beginsOrder_0 : decode cX6_beginsOrder 0 = .ok (.iload_n 0, 1) := by decide +kernel
theorem dX6_beginsOrder_1 : decode cX6_beginsOrder 1 = .ok (.bipush 13, 2) := by decide +kernel
theorem dX6_beginsOrder_3 : decode cX6_beginsOrder 3 = .ok (.if_icmp .eq 26, 3) := by decide +kernel
theorem dX6_beginsOrder_6 : decode cX6_beginsOrder 6 = .ok (.iload_n 0, 1) := by decide +kernel
theorem dX6_beginsOrder_7 : decode cX6_beginsOrder 7 = .ok (.bipush 17, 2) := by decide +kernel
theorem dX6_beginsOrder_9 : decode cX6_beginsOrder 9 = .ok (.bipush 21, 2) := by decide +kernel
theorem dX6_beginsOrder_11 : decode cX6_beginsOrder 11 = .ok (.invokestatic 69, 3) := by decide +kernel
theorem dX6_beginsOrder_14 : decode cX6_beginsOrder 14 = .ok (.ifCond .ne 15, 3) := by decide +kernel
theorem dX6_beginsOrder_17 : decode cX6_beginsOrder 17 = .ok (.iload_n 0, 1) := by decide +kernel
theorem dX6_beginsOrder_18 : decode cX6_beginsOrder 18 = .ok (.bipush 25, 2) := by decide +kernel
theorem dX6_beginsOrder_20 : decode cX6_beginsOrder 20 = .ok (.if_icmp .eq 9, 3) := by decide +kernel
theorem dX6_beginsOrder_23 : decode cX6_beginsOrder 23 = .ok (.iload_n 0, 1) := by decide +kernel
theorem dX6_beginsOrder_24 : decode cX6_beginsOrder 24 = .ok (.bipush 27, 2) := by decide +kernel
theorem dX6_beginsOrder_26 : decode cX6_beginsOrder 26 = .ok (.if_icmp .ne 7, 3) := by decide +kernel
theorem dX6_beginsOrder_29 : decode cX6_beginsOrder 29 = .ok (.iconst 1, 1) := by decide +kernel
theorem dX6_beginsOrder_30 : decode cX6_beginsOrder 30 = .ok (.goto 4, 3) := by decide +kernel
theorem dX6_beginsOrder_33 : decode cX6_beginsOrder 33 = .ok (.iconst 0, 1) := by decide +kernel
theorem dX6_beginsOrder_34 : decode cX6_beginsOrder 34 = .ok (.ireturn, 1) := by decide +kernel
theorem dX6_takeOrder_0 : decode cX6_takeOrder 0 = .ok (.aload_n 0, 1) := by decide +kernel
theorem dX6_takeOrder_1 : decode cX6_takeOrder 1 = .ok (.getfield 15, 3) := by decide +kernel
theorem dX6_takeOrder_4 : decode cX6_takeOrder 4 = .ok (.invokevirtual 36, 3) := by decide +kernel
theorem dX6_takeOrder_7 : decode cX6_takeOrder 7 = .ok (.istore_n 3, 1) := by decide +kernel
theorem dX6_takeOrder_8 : decode cX6_takeOrder 8 = .ok (.iload_n 3, 1) := by decide +kernel
theorem dX6_takeOrder_9 : decode cX6_takeOrder 9 = .ok (.invokestatic 73, 3) := by decide +kernel
theorem dX6_takeOrder_12 : decode cX6_takeOrder 12 = .ok (.ifCond .ne 11, 3) := by decide +kernel
theorem dX6_takeOrder_15 : decode cX6_takeOrder 15 = .ok (.aload_n 0, 1) := by decide +kernel
theorem dX6_takeOrder_16 : decode cX6_takeOrder 16 = .ok (.getfield 15, 3) := by decide +kernel
theorem dX6_takeOrder_19 : decode cX6_takeOrder 19 = .ok (.invokevirtual 48, 3) := by decide +kernel
theorem dX6_takeOrder_22 : decode cX6_takeOrder 22 = .ok (.ireturn, 1) := by decide +kernel
theorem dX6_takeOrder_23 : decode cX6_takeOrder 23 = .ok (.aload_n 1, 1) := by decide +kernel
theorem dX6_takeOrder_24 : decode cX6_takeOrder 24 = .ok (.getfield 77, 3) := by decide +kernel
theorem dX6_takeOrder_27 : decode cX6_takeOrder 27 = .ok (.bipush 30, 2) := by decide +kernel
theorem dX6_takeOrder_29 : decode cX6_takeOrder 29 = .ok (.if_icmp .lt 13, 3) := by decide +kernel
theorem dX6_takeOrder_32 : decode cX6_takeOrder 32 = .ok (.aload_n 0, 1) := by decide +kernel
theorem dX6_takeOrder_33 : decode cX6_takeOrder 33 = .ok (.getfield 15, 3) := by decide +kernel
theorem dX6_takeOrder_36 : decode cX6_takeOrder 36 = .ok (.bipush 6, 2) := by decide +kernel
theorem dX6_takeOrder_38 : decode cX6_takeOrder 38 = .ok (.invokevirtual 80, 3) := by decide +kernel
theorem dX6_takeOrder_41 : decode cX6_takeOrder 41 = .ok (.ireturn, 1) := by decide +kernel
theorem dX6_takeOrder_42 : decode cX6_takeOrder 42 = .ok (.iload_n 3, 1) := by decide +kernel
theorem dX6_takeOrder_43 : decode cX6_takeOrder 43 = .ok (.bipush 21, 2) := by decide +kernel
theorem dX6_takeOrder_45 : decode cX6_takeOrder 45 = .ok (.if_icmp .eq 9, 3) := by decide +kernel
theorem dX6_takeOrder_48 : decode cX6_takeOrder 48 = .ok (.iload_n 3, 1) := by decide +kernel
theorem dX6_takeOrder_49 : decode cX6_takeOrder 49 = .ok (.bipush 25, 2) := by decide +kernel
theorem dX6_takeOrder_51 : decode cX6_takeOrder 51 = .ok (.if_icmp .ne 7, 3) := by decide +kernel
theorem dX6_takeOrder_54 : decode cX6_takeOrder 54 = .ok (.iconst 1, 1) := by decide +kernel
theorem dX6_takeOrder_55 : decode cX6_takeOrder 55 = .ok (.goto 4, 3) := by decide +kernel
theorem dX6_takeOrder_58 : decode cX6_takeOrder 58 = .ok (.iconst 0, 1) := by decide +kernel
theorem dX6_takeOrder_59 : decode cX6_takeOrder 59 = .ok (.istore 4, 2) := by decide +kernel
theorem dX6_takeOrder_61 : decode cX6_takeOrder 61 = .ok (.iload 4, 2) := by decide +kernel
theorem dX6_takeOrder_63 : decode cX6_takeOrder 63 = .ok (.ifCond .eq 21, 3) := by decide +kernel
theorem dX6_takeOrder_66 : decode cX6_takeOrder 66 = .ok (.aload_n 0, 1) := by decide +kernel
theorem dX6_takeOrder_67 : decode cX6_takeOrder 67 = .ok (.getfield 19, 3) := by decide +kernel
theorem dX6_takeOrder_70 : decode cX6_takeOrder 70 = .ok (.iconst 3, 1) := by decide +kernel
theorem dX6_takeOrder_71 : decode cX6_takeOrder 71 = .ok (.if_icmp .lt 13, 3) := by decide +kernel
theorem dX6_takeOrder_74 : decode cX6_takeOrder 74 = .ok (.aload_n 0, 1) := by decide +kernel
theorem dX6_takeOrder_75 : decode cX6_takeOrder 75 = .ok (.getfield 15, 3) := by decide +kernel
theorem dX6_takeOrder_78 : decode cX6_takeOrder 78 = .ok (.bipush 7, 2) := by decide +kernel
theorem dX6_takeOrder_80 : decode cX6_takeOrder 80 = .ok (.invokevirtual 80, 3) := by decide +kernel
theorem dX6_takeOrder_83 : decode cX6_takeOrder 83 = .ok (.ireturn, 1) := by decide +kernel
theorem dX6_takeOrder_84 : decode cX6_takeOrder 84 = .ok (.aload_n 1, 1) := by decide +kernel
theorem dX6_takeOrder_85 : decode cX6_takeOrder 85 = .ok (.dup, 1) := by decide +kernel
theorem dX6_takeOrder_86 : decode cX6_takeOrder 86 = .ok (.getfield 77, 3) := by decide +kernel
theorem dX6_takeOrder_89 : decode cX6_takeOrder 89 = .ok (.iconst 1, 1) := by decide +kernel
theorem dX6_takeOrder_90 : decode cX6_takeOrder 90 = .ok (.iadd, 1) := by decide +kernel
theorem dX6_takeOrder_91 : decode cX6_takeOrder 91 = .ok (.putfield 77, 3) := by decide +kernel
theorem dX6_takeOrder_94 : decode cX6_takeOrder 94 = .ok (.aload_n 1, 1) := by decide +kernel
theorem dX6_takeOrder_95 : decode cX6_takeOrder 95 = .ok (.iload_n 3, 1) := by decide +kernel
theorem dX6_takeOrder_96 : decode cX6_takeOrder 96 = .ok (.invokevirtual 59, 3) := by decide +kernel
theorem dX6_takeOrder_99 : decode cX6_takeOrder 99 = .ok (.istore 5, 2) := by decide +kernel
theorem dX6_takeOrder_101 : decode cX6_takeOrder 101 = .ok (.iload 4, 2) := by decide +kernel
theorem dX6_takeOrder_103 : decode cX6_takeOrder 103 = .ok (.ifCond .eq 24, 3) := by decide +kernel
theorem dX6_takeOrder_106 : decode cX6_takeOrder 106 = .ok (.aload_n 0, 1) := by decide +kernel
theorem dX6_takeOrder_107 : decode cX6_takeOrder 107 = .ok (.getfield 11, 3) := by decide +kernel
theorem dX6_takeOrder_110 : decode cX6_takeOrder 110 = .ok (.aload_n 0, 1) := by decide +kernel
theorem dX6_takeOrder_111 : decode cX6_takeOrder 111 = .ok (.getfield 19, 3) := by decide +kernel
theorem dX6_takeOrder_114 : decode cX6_takeOrder 114 = .ok (.iload 5, 2) := by decide +kernel
theorem dX6_takeOrder_116 : decode cX6_takeOrder 116 = .ok (.iastore, 1) := by decide +kernel
theorem dX6_takeOrder_117 : decode cX6_takeOrder 117 = .ok (.aload_n 0, 1) := by decide +kernel
theorem dX6_takeOrder_118 : decode cX6_takeOrder 118 = .ok (.dup, 1) := by decide +kernel
theorem dX6_takeOrder_119 : decode cX6_takeOrder 119 = .ok (.getfield 19, 3) := by decide +kernel
theorem dX6_takeOrder_122 : decode cX6_takeOrder 122 = .ok (.iconst 1, 1) := by decide +kernel
theorem dX6_takeOrder_123 : decode cX6_takeOrder 123 = .ok (.iadd, 1) := by decide +kernel
theorem dX6_takeOrder_124 : decode cX6_takeOrder 124 = .ok (.putfield 19, 3) := by decide +kernel
theorem dX6_takeOrder_127 : decode cX6_takeOrder 127 = .ok (.aload_n 0, 1) := by decide +kernel
theorem dX6_takeOrder_128 : decode cX6_takeOrder 128 = .ok (.getfield 15, 3) := by decide +kernel
theorem dX6_takeOrder_131 : decode cX6_takeOrder 131 = .ok (.invokevirtual 56, 3) := by decide +kernel
theorem dX6_takeOrder_134 : decode cX6_takeOrder 134 = .ok (.iload_n 3, 1) := by decide +kernel
theorem dX6_takeOrder_135 : decode cX6_takeOrder 135 = .ok (.bipush 21, 2) := by decide +kernel
theorem dX6_takeOrder_137 : decode cX6_takeOrder 137 = .ok (.if_icmp .ne 14, 3) := by decide +kernel
theorem dX6_takeOrder_140 : decode cX6_takeOrder 140 = .ok (.aload_n 0, 1) := by decide +kernel
theorem dX6_takeOrder_141 : decode cX6_takeOrder 141 = .ok (.aload_n 1, 1) := by decide +kernel
theorem dX6_takeOrder_142 : decode cX6_takeOrder 142 = .ok (.aload_n 2, 1) := by decide +kernel
theorem dX6_takeOrder_143 : decode cX6_takeOrder 143 = .ok (.iload 5, 2) := by decide +kernel
theorem dX6_takeOrder_145 : decode cX6_takeOrder 145 = .ok (.invokevirtual 83, 3) := by decide +kernel
theorem dX6_takeOrder_148 : decode cX6_takeOrder 148 = .ok (.goto 11, 3) := by decide +kernel
theorem dX6_takeOrder_151 : decode cX6_takeOrder 151 = .ok (.aload_n 0, 1) := by decide +kernel
theorem dX6_takeOrder_152 : decode cX6_takeOrder 152 = .ok (.aload_n 1, 1) := by decide +kernel
theorem dX6_takeOrder_153 : decode cX6_takeOrder 153 = .ok (.aload_n 2, 1) := by decide +kernel
theorem dX6_takeOrder_154 : decode cX6_takeOrder 154 = .ok (.iload 5, 2) := by decide +kernel
theorem dX6_takeOrder_156 : decode cX6_takeOrder 156 = .ok (.invokevirtual 87, 3) := by decide +kernel
theorem dX6_takeOrder_159 : decode cX6_takeOrder 159 = .ok (.istore 6, 2) := by decide +kernel
theorem dX6_takeOrder_161 : decode cX6_takeOrder 161 = .ok (.iload 6, 2) := by decide +kernel
theorem dX6_takeOrder_163 : decode cX6_takeOrder 163 = .ok (.ifCond .eq 17, 3) := by decide +kernel
theorem dX6_takeOrder_166 : decode cX6_takeOrder 166 = .ok (.aload_n 0, 1) := by decide +kernel
theorem dX6_takeOrder_167 : decode cX6_takeOrder 167 = .ok (.getfield 15, 3) := by decide +kernel
theorem dX6_takeOrder_170 : decode cX6_takeOrder 170 = .ok (.invokevirtual 66, 3) := by decide +kernel
theorem dX6_takeOrder_173 : decode cX6_takeOrder 173 = .ok (.ifCond .eq 7, 3) := by decide +kernel
theorem dX6_takeOrder_176 : decode cX6_takeOrder 176 = .ok (.iconst 1, 1) := by decide +kernel
theorem dX6_takeOrder_177 : decode cX6_takeOrder 177 = .ok (.goto 4, 3) := by decide +kernel
theorem dX6_takeOrder_180 : decode cX6_takeOrder 180 = .ok (.iconst 0, 1) := by decide +kernel
theorem dX6_takeOrder_181 : decode cX6_takeOrder 181 = .ok (.ireturn, 1) := by decide +kernel
theorem dX6_takeRest_0 : decode cX6_takeRest 0 = .ok (.aload_n 1, 1) := by decide +kernel
theorem dX6_takeRest_1 : decode cX6_takeRest 1 = .ok (.getfield 90, 3) := by decide +kernel
theorem dX6_takeRest_4 : decode cX6_takeRest 4 = .ok (.iload_n 3, 1) := by decide +kernel
theorem dX6_takeRest_5 : decode cX6_takeRest 5 = .ok (.iaload, 1) := by decide +kernel
theorem dX6_takeRest_6 : decode cX6_takeRest 6 = .ok (.tableswitch 101 13 25 #[66, 101, 101, 101, 73, 93, 93, 101, 101, 101, 101, 101, 83], 66) := by decide +kernel
theorem dX6_takeRest_72 : decode cX6_takeRest 72 = .ok (.aload_n 0, 1) := by decide +kernel
theorem dX6_takeRest_73 : decode cX6_takeRest 73 = .ok (.aload_n 1, 1) := by decide +kernel
theorem dX6_takeRest_74 : decode cX6_takeRest 74 = .ok (.iload_n 3, 1) := by decide +kernel
theorem dX6_takeRest_75 : decode cX6_takeRest 75 = .ok (.invokevirtual 93, 3) := by decide +kernel
theorem dX6_takeRest_78 : decode cX6_takeRest 78 = .ok (.ireturn, 1) := by decide +kernel
theorem dX6_takeRest_79 : decode cX6_takeRest 79 = .ok (.aload_n 0, 1) := by decide +kernel
theorem dX6_takeRest_80 : decode cX6_takeRest 80 = .ok (.aload_n 1, 1) := by decide +kernel
theorem dX6_takeRest_81 : decode cX6_takeRest 81 = .ok (.iload_n 3, 1) := by decide +kernel
theorem dX6_takeRest_82 : decode cX6_takeRest 82 = .ok (.iconst 1, 1) := by decide +kernel
theorem dX6_takeRest_83 : decode cX6_takeRest 83 = .ok (.bipush 24, 2) := by decide +kernel
theorem dX6_takeRest_85 : decode cX6_takeRest 85 = .ok (.invokevirtual 97, 3) := by decide +kernel
theorem dX6_takeRest_88 : decode cX6_takeRest 88 = .ok (.ireturn, 1) := by decide +kernel
theorem dX6_takeRest_89 : decode cX6_takeRest 89 = .ok (.aload_n 0, 1) := by decide +kernel
theorem dX6_takeRest_90 : decode cX6_takeRest 90 = .ok (.aload_n 1, 1) := by decide +kernel
theorem dX6_takeRest_91 : decode cX6_takeRest 91 = .ok (.iload_n 3, 1) := by decide +kernel
theorem dX6_takeRest_92 : decode cX6_takeRest 92 = .ok (.iconst 1, 1) := by decide +kernel
theorem dX6_takeRest_93 : decode cX6_takeRest 93 = .ok (.bipush 99, 2) := by decide +kernel
theorem dX6_takeRest_95 : decode cX6_takeRest 95 = .ok (.invokevirtual 97, 3) := by decide +kernel
theorem dX6_takeRest_98 : decode cX6_takeRest 98 = .ok (.ireturn, 1) := by decide +kernel
theorem dX6_takeRest_99 : decode cX6_takeRest 99 = .ok (.aload_n 0, 1) := by decide +kernel
theorem dX6_takeRest_100 : decode cX6_takeRest 100 = .ok (.aload_n 1, 1) := by decide +kernel
theorem dX6_takeRest_101 : decode cX6_takeRest 101 = .ok (.aload_n 2, 1) := by decide +kernel
theorem dX6_takeRest_102 : decode cX6_takeRest 102 = .ok (.iload_n 3, 1) := by decide +kernel
theorem dX6_takeRest_103 : decode cX6_takeRest 103 = .ok (.invokevirtual 101, 3) := by decide +kernel
theorem dX6_takeRest_106 : decode cX6_takeRest 106 = .ok (.ireturn, 1) := by decide +kernel
theorem dX6_takeRest_107 : decode cX6_takeRest 107 = .ok (.iconst 1, 1) := by decide +kernel
theorem dX6_takeRest_108 : decode cX6_takeRest 108 = .ok (.ireturn, 1) := by decide +kernel
theorem dX6_takeNumberInto_0 : decode cX6_takeNumberInto 0 = .ok (.aload_n 0, 1) := by decide +kernel
theorem dX6_takeNumberInto_1 : decode cX6_takeNumberInto 1 = .ok (.getfield 15, 3) := by decide +kernel
theorem dX6_takeNumberInto_4 : decode cX6_takeNumberInto 4 = .ok (.iload_n 3, 1) := by decide +kernel
theorem dX6_takeNumberInto_5 : decode cX6_takeNumberInto 5 = .ok (.iload 4, 2) := by decide +kernel
theorem dX6_takeNumberInto_7 : decode cX6_takeNumberInto 7 = .ok (.invokevirtual 104, 3) := by decide +kernel
theorem dX6_takeNumberInto_10 : decode cX6_takeNumberInto 10 = .ok (.ifCond .ne 5, 3) := by decide +kernel
theorem dX6_takeNumberInto_13 : decode cX6_takeNumberInto 13 = .ok (.iconst 0, 1) := by decide +kernel
theorem dX6_takeNumberInto_14 : decode cX6_takeNumberInto 14 = .ok (.ireturn, 1) := by decide +kernel
theorem dX6_takeNumberInto_15 : decode cX6_takeNumberInto 15 = .ok (.aload_n 1, 1) := by decide +kernel
theorem dX6_takeNumberInto_16 : decode cX6_takeNumberInto 16 = .ok (.getfield 108, 3) := by decide +kernel
theorem dX6_takeNumberInto_19 : decode cX6_takeNumberInto 19 = .ok (.iload_n 2, 1) := by decide +kernel
theorem dX6_takeNumberInto_20 : decode cX6_takeNumberInto 20 = .ok (.aload_n 0, 1) := by decide +kernel
theorem dX6_takeNumberInto_21 : decode cX6_takeNumberInto 21 = .ok (.getfield 15, 3) := by decide +kernel
theorem dX6_takeNumberInto_24 : decode cX6_takeNumberInto 24 = .ok (.getfield 111, 3) := by decide +kernel
theorem dX6_takeNumberInto_27 : decode cX6_takeNumberInto 27 = .ok (.iastore, 1) := by decide +kernel
theorem dX6_takeNumberInto_28 : decode cX6_takeNumberInto 28 = .ok (.iconst 1, 1) := by decide +kernel
theorem dX6_takeNumberInto_29 : decode cX6_takeNumberInto 29 = .ok (.ireturn, 1) := by decide +kernel
theorem dX6_takeCellInto_0 : decode cX6_takeCellInto 0 = .ok (.aload_n 0, 1) := by decide +kernel
theorem dX6_takeCellInto_1 : decode cX6_takeCellInto 1 = .ok (.getfield 15, 3) := by decide +kernel
theorem dX6_takeCellInto_4 : decode cX6_takeCellInto 4 = .ok (.aload_n 2, 1) := by decide +kernel
theorem dX6_takeCellInto_5 : decode cX6_takeCellInto 5 = .ok (.invokevirtual 114, 3) := by decide +kernel
theorem dX6_takeCellInto_8 : decode cX6_takeCellInto 8 = .ok (.ifCond .ne 5, 3) := by decide +kernel
theorem dX6_takeCellInto_11 : decode cX6_takeCellInto 11 = .ok (.iconst 0, 1) := by decide +kernel
theorem dX6_takeCellInto_12 : decode cX6_takeCellInto 12 = .ok (.ireturn, 1) := by decide +kernel
theorem dX6_takeCellInto_13 : decode cX6_takeCellInto 13 = .ok (.aload_n 0, 1) := by decide +kernel
theorem dX6_takeCellInto_14 : decode cX6_takeCellInto 14 = .ok (.getfield 15, 3) := by decide +kernel
theorem dX6_takeCellInto_17 : decode cX6_takeCellInto 17 = .ok (.getfield 111, 3) := by decide +kernel
theorem dX6_takeCellInto_20 : decode cX6_takeCellInto 20 = .ok (.istore 4, 2) := by decide +kernel
theorem dX6_takeCellInto_22 : decode cX6_takeCellInto 22 = .ok (.aload_n 0, 1) := by decide +kernel
theorem dX6_takeCellInto_23 : decode cX6_takeCellInto 23 = .ok (.getfield 15, 3) := by decide +kernel
theorem dX6_takeCellInto_26 : decode cX6_takeCellInto 26 = .ok (.iconst 0, 1) := by decide +kernel
theorem dX6_takeCellInto_27 : decode cX6_takeCellInto 27 = .ok (.aload_n 2, 1) := by decide +kernel
theorem dX6_takeCellInto_28 : decode cX6_takeCellInto 28 = .ok (.getfield 118, 3) := by decide +kernel
theorem dX6_takeCellInto_31 : decode cX6_takeCellInto 31 = .ok (.iconst 1, 1) := by decide +kernel
theorem dX6_takeCellInto_32 : decode cX6_takeCellInto 32 = .ok (.isub, 1) := by decide +kernel
theorem dX6_takeCellInto_33 : decode cX6_takeCellInto 33 = .ok (.invokevirtual 104, 3) := by decide +kernel
theorem dX6_takeCellInto_36 : decode cX6_takeCellInto 36 = .ok (.ifCond .ne 5, 3) := by decide +kernel
theorem dX6_takeCellInto_39 : decode cX6_takeCellInto 39 = .ok (.iconst 0, 1) := by decide +kernel
theorem dX6_takeCellInto_40 : decode cX6_takeCellInto 40 = .ok (.ireturn, 1) := by decide +kernel
theorem dX6_takeCellInto_41 : decode cX6_takeCellInto 41 = .ok (.aload_n 1, 1) := by decide +kernel
theorem dX6_takeCellInto_42 : decode cX6_takeCellInto 42 = .ok (.getfield 123, 3) := by decide +kernel
theorem dX6_takeCellInto_45 : decode cX6_takeCellInto 45 = .ok (.iload_n 3, 1) := by decide +kernel
theorem dX6_takeCellInto_46 : decode cX6_takeCellInto 46 = .ok (.iload 4, 2) := by decide +kernel
theorem dX6_takeCellInto_48 : decode cX6_takeCellInto 48 = .ok (.aload_n 0, 1) := by decide +kernel
theorem dX6_takeCellInto_49 : decode cX6_takeCellInto 49 = .ok (.getfield 15, 3) := by decide +kernel
theorem dX6_takeCellInto_52 : decode cX6_takeCellInto 52 = .ok (.getfield 111, 3) := by decide +kernel
theorem dX6_takeCellInto_55 : decode cX6_takeCellInto 55 = .ok (.iadd, 1) := by decide +kernel
theorem dX6_takeCellInto_56 : decode cX6_takeCellInto 56 = .ok (.iastore, 1) := by decide +kernel
theorem dX6_takeCellInto_57 : decode cX6_takeCellInto 57 = .ok (.iconst 1, 1) := by decide +kernel
theorem dX6_takeCellInto_58 : decode cX6_takeCellInto 58 = .ok (.ireturn, 1) := by decide +kernel
theorem dX6_wayNamed_0 : decode cX6_wayNamed 0 = .ok (.iload_n 0, 1) := by decide +kernel
theorem dX6_wayNamed_1 : decode cX6_wayNamed 1 = .ok (.tableswitch 61 8 16 #[55, 57, 61, 61, 61, 61, 51, 53, 59], 51) := by decide +kernel
theorem dX6_wayNamed_52 : decode cX6_wayNamed 52 = .ok (.iconst 0, 1) := by decide +kernel
theorem dX6_wayNamed_53 : decode cX6_wayNamed 53 = .ok (.ireturn, 1) := by decide +kernel
theorem dX6_wayNamed_54 : decode cX6_wayNamed 54 = .ok (.iconst 1, 1) := by decide +kernel
theorem dX6_wayNamed_55 : decode cX6_wayNamed 55 = .ok (.ireturn, 1) := by decide +kernel
theorem dX6_wayNamed_56 : decode cX6_wayNamed 56 = .ok (.iconst 2, 1) := by decide +kernel
theorem dX6_wayNamed_57 : decode cX6_wayNamed 57 = .ok (.ireturn, 1) := by decide +kernel
theorem dX6_wayNamed_58 : decode cX6_wayNamed 58 = .ok (.iconst 3, 1) := by decide +kernel
theorem dX6_wayNamed_59 : decode cX6_wayNamed 59 = .ok (.ireturn, 1) := by decide +kernel
theorem dX6_wayNamed_60 : decode cX6_wayNamed 60 = .ok (.iconst 4, 1) := by decide +kernel
theorem dX6_wayNamed_61 : decode cX6_wayNamed 61 = .ok (.ireturn, 1) := by decide +kernel
theorem dX6_wayNamed_62 : decode cX6_wayNamed 62 = .ok (.iconst (-1), 1) := by decide +kernel
theorem dX6_wayNamed_63 : decode cX6_wayNamed 63 = .ok (.ireturn, 1) := by decide +kernel
theorem dX6_takeWay_0 : decode cX6_takeWay 0 = .ok (.aload_n 0, 1) := by decide +kernel
theorem dX6_takeWay_1 : decode cX6_takeWay 1 = .ok (.getfield 15, 3) := by decide +kernel
theorem dX6_takeWay_4 : decode cX6_takeWay 4 = .ok (.invokevirtual 36, 3) := by decide +kernel
theorem dX6_takeWay_7 : decode cX6_takeWay 7 = .ok (.invokestatic 126, 3) := by decide +kernel
theorem dX6_takeWay_10 : decode cX6_takeWay 10 = .ok (.istore_n 3, 1) := by decide +kernel
theorem dX6_takeWay_11 : decode cX6_takeWay 11 = .ok (.iload_n 3, 1) := by decide +kernel
theorem dX6_takeWay_12 : decode cX6_takeWay 12 = .ok (.iconst (-1), 1) := by decide +kernel
theorem dX6_takeWay_13 : decode cX6_takeWay 13 = .ok (.if_icmp .ne 11, 3) := by decide +kernel
theorem dX6_takeWay_16 : decode cX6_takeWay 16 = .ok (.aload_n 0, 1) := by decide +kernel
theorem dX6_takeWay_17 : decode cX6_takeWay 17 = .ok (.getfield 15, 3) := by decide +kernel
theorem dX6_takeWay_20 : decode cX6_takeWay 20 = .ok (.invokevirtual 48, 3) := by decide +kernel
theorem dX6_takeWay_23 : decode cX6_takeWay 23 = .ok (.ireturn, 1) := by decide +kernel
theorem dX6_takeWay_24 : decode cX6_takeWay 24 = .ok (.aload_n 1, 1) := by decide +kernel
theorem dX6_takeWay_25 : decode cX6_takeWay 25 = .ok (.getfield 108, 3) := by decide +kernel
theorem dX6_takeWay_28 : decode cX6_takeWay 28 = .ok (.iload_n 2, 1) := by decide +kernel
theorem dX6_takeWay_29 : decode cX6_takeWay 29 = .ok (.iload_n 3, 1) := by decide +kernel
theorem dX6_takeWay_30 : decode cX6_takeWay 30 = .ok (.iastore, 1) := by decide +kernel
theorem dX6_takeWay_31 : decode cX6_takeWay 31 = .ok (.aload_n 0, 1) := by decide +kernel
theorem dX6_takeWay_32 : decode cX6_takeWay 32 = .ok (.getfield 15, 3) := by decide +kernel
theorem dX6_takeWay_35 : decode cX6_takeWay 35 = .ok (.invokevirtual 56, 3) := by decide +kernel
theorem dX6_takeWay_38 : decode cX6_takeWay 38 = .ok (.iconst 1, 1) := by decide +kernel
theorem dX6_takeWay_39 : decode cX6_takeWay 39 = .ok (.ireturn, 1) := by decide +kernel
theorem dX6_takeTest_0 : decode cX6_takeTest 0 = .ok (.aload_n 0, 1) := by decide +kernel
theorem dX6_takeTest_1 : decode cX6_takeTest 1 = .ok (.getfield 15, 3) := by decide +kernel
theorem dX6_takeTest_4 : decode cX6_takeTest 4 = .ok (.invokevirtual 36, 3) := by decide +kernel
theorem dX6_takeTest_7 : decode cX6_takeTest 7 = .ok (.istore 4, 2) := by decide +kernel
theorem dX6_takeTest_9 : decode cX6_takeTest 9 = .ok (.iload 4, 2) := by decide +kernel
theorem dX6_takeTest_11 : decode cX6_takeTest 11 = .ok (.bipush 22, 2) := by decide +kernel
theorem dX6_takeTest_13 : decode cX6_takeTest 13 = .ok (.bipush 24, 2) := by decide +kernel
theorem dX6_takeTest_15 : decode cX6_takeTest 15 = .ok (.invokestatic 69, 3) := by decide +kernel
theorem dX6_takeTest_18 : decode cX6_takeTest 18 = .ok (.ifCond .ne 11, 3) := by decide +kernel
theorem dX6_takeTest_21 : decode cX6_takeTest 21 = .ok (.aload_n 0, 1) := by decide +kernel
theorem dX6_takeTest_22 : decode cX6_takeTest 22 = .ok (.getfield 15, 3) := by decide +kernel
theorem dX6_takeTest_25 : decode cX6_takeTest 25 = .ok (.invokevirtual 48, 3) := by decide +kernel
theorem dX6_takeTest_28 : decode cX6_takeTest 28 = .ok (.ireturn, 1) := by decide +kernel
theorem dX6_takeTest_29 : decode cX6_takeTest 29 = .ok (.aload_n 1, 1) := by decide +kernel
theorem dX6_takeTest_30 : decode cX6_takeTest 30 = .ok (.getfield 90, 3) := by decide +kernel
theorem dX6_takeTest_33 : decode cX6_takeTest 33 = .ok (.iload_n 3, 1) := by decide +kernel
theorem dX6_takeTest_34 : decode cX6_takeTest 34 = .ok (.iload 4, 2) := by decide +kernel
theorem dX6_takeTest_36 : decode cX6_takeTest 36 = .ok (.iastore, 1) := by decide +kernel
theorem dX6_takeTest_37 : decode cX6_takeTest 37 = .ok (.aload_n 0, 1) := by decide +kernel
theorem dX6_takeTest_38 : decode cX6_takeTest 38 = .ok (.getfield 15, 3) := by decide +kernel
theorem dX6_takeTest_41 : decode cX6_takeTest 41 = .ok (.invokevirtual 56, 3) := by decide +kernel
theorem dX6_takeTest_44 : decode cX6_takeTest 44 = .ok (.iload 4, 2) := by decide +kernel
theorem dX6_takeTest_46 : decode cX6_takeTest 46 = .ok (.bipush 24, 2) := by decide +kernel
theorem dX6_takeTest_48 : decode cX6_takeTest 48 = .ok (.if_icmp .ne 5, 3) := by decide +kernel
theorem dX6_takeTest_51 : decode cX6_takeTest 51 = .ok (.iconst 1, 1) := by decide +kernel
theorem dX6_takeTest_52 : decode cX6_takeTest 52 = .ok (.ireturn, 1) := by decide +kernel
theorem dX6_takeTest_53 : decode cX6_takeTest 53 = .ok (.iload 4, 2) := by decide +kernel
theorem dX6_takeTest_55 : decode cX6_takeTest 55 = .ok (.bipush 23, 2) := by decide +kernel
theorem dX6_takeTest_57 : decode cX6_takeTest 57 = .ok (.if_icmp .ne 15, 3) := by decide +kernel
theorem dX6_takeTest_60 : decode cX6_takeTest 60 = .ok (.aload_n 0, 1) := by decide +kernel
theorem dX6_takeTest_61 : decode cX6_takeTest 61 = .ok (.aload_n 1, 1) := by decide +kernel
theorem dX6_takeTest_62 : decode cX6_takeTest 62 = .ok (.aload_n 2, 1) := by decide +kernel
theorem dX6_takeTest_63 : decode cX6_takeTest 63 = .ok (.iload_n 3, 1) := by decide +kernel
theorem dX6_takeTest_64 : decode cX6_takeTest 64 = .ok (.invokevirtual 101, 3) := by decide +kernel
theorem dX6_takeTest_67 : decode cX6_takeTest 67 = .ok (.ifCond .ne 5, 3) := by decide +kernel
theorem dX6_takeTest_70 : decode cX6_takeTest 70 = .ok (.iconst 0, 1) := by decide +kernel
theorem dX6_takeTest_71 : decode cX6_takeTest 71 = .ok (.ireturn, 1) := by decide +kernel
theorem dX6_takeTest_72 : decode cX6_takeTest 72 = .ok (.aload_n 0, 1) := by decide +kernel
theorem dX6_takeTest_73 : decode cX6_takeTest 73 = .ok (.aload_n 1, 1) := by decide +kernel
theorem dX6_takeTest_74 : decode cX6_takeTest 74 = .ok (.iload_n 3, 1) := by decide +kernel
theorem dX6_takeTest_75 : decode cX6_takeTest 75 = .ok (.invokevirtual 129, 3) := by decide +kernel
theorem dX6_takeTest_78 : decode cX6_takeTest 78 = .ok (.ifCond .eq 31, 3) := by decide +kernel
theorem dX6_takeTest_81 : decode cX6_takeTest 81 = .ok (.aload_n 0, 1) := by decide +kernel
theorem dX6_takeTest_82 : decode cX6_takeTest 82 = .ok (.aload_n 1, 1) := by decide +kernel
theorem dX6_takeTest_83 : decode cX6_takeTest 83 = .ok (.iload_n 3, 1) := by decide +kernel
theorem dX6_takeTest_84 : decode cX6_takeTest 84 = .ok (.iconst 0, 1) := by decide +kernel
theorem dX6_takeTest_85 : decode cX6_takeTest 85 = .ok (.iload 4, 2) := by decide +kernel
theorem dX6_takeTest_87 : decode cX6_takeTest 87 = .ok (.bipush 23, 2) := by decide +kernel
theorem dX6_takeTest_89 : decode cX6_takeTest 89 = .ok (.if_icmp .ne 8, 3) := by decide +kernel
theorem dX6_takeTest_92 : decode cX6_takeTest 92 = .ok (.bipush 9, 2) := by decide +kernel
theorem dX6_takeTest_94 : decode cX6_takeTest 94 = .ok (.goto 5, 3) := by decide +kernel
theorem dX6_takeTest_97 : decode cX6_takeTest 97 = .ok (.bipush 99, 2) := by decide +kernel
theorem dX6_takeTest_99 : decode cX6_takeTest 99 = .ok (.invokevirtual 97, 3) := by decide +kernel
theorem dX6_takeTest_102 : decode cX6_takeTest 102 = .ok (.ifCond .eq 7, 3) := by decide +kernel
theorem dX6_takeTest_105 : decode cX6_takeTest 105 = .ok (.iconst 1, 1) := by decide +kernel
theorem dX6_takeTest_106 : decode cX6_takeTest 106 = .ok (.goto 4, 3) := by decide +kernel
theorem dX6_takeTest_109 : decode cX6_takeTest 109 = .ok (.iconst 0, 1) := by decide +kernel
theorem dX6_takeTest_110 : decode cX6_takeTest 110 = .ok (.ireturn, 1) := by decide +kernel
theorem dX6_takeCompares_0 : decode cX6_takeCompares 0 = .ok (.aload_n 0, 1) := by decide +kernel
theorem dX6_takeCompares_1 : decode cX6_takeCompares 1 = .ok (.getfield 15, 3) := by decide +kernel
theorem dX6_takeCompares_4 : decode cX6_takeCompares 4 = .ok (.getfield 33, 3) := by decide +kernel
theorem dX6_takeCompares_7 : decode cX6_takeCompares 7 = .ok (.iconst 3, 1) := by decide +kernel
theorem dX6_takeCompares_8 : decode cX6_takeCompares 8 = .ok (.if_icmp .ne 15, 3) := by decide +kernel
theorem dX6_takeCompares_11 : decode cX6_takeCompares 11 = .ok (.aload_n 0, 1) := by decide +kernel
theorem dX6_takeCompares_12 : decode cX6_takeCompares 12 = .ok (.getfield 15, 3) := by decide +kernel
theorem dX6_takeCompares_15 : decode cX6_takeCompares 15 = .ok (.getfield 132, 3) := by decide +kernel
theorem dX6_takeCompares_18 : decode cX6_takeCompares 18 = .ok (.bipush 59, 2) := by decide +kernel
theorem dX6_takeCompares_20 : decode cX6_takeCompares 20 = .ok (.if_icmp .ne 11, 3) := by decide +kernel
theorem dX6_takeCompares_23 : decode cX6_takeCompares 23 = .ok (.aload_n 0, 1) := by decide +kernel
theorem dX6_takeCompares_24 : decode cX6_takeCompares 24 = .ok (.getfield 15, 3) := by decide +kernel
theorem dX6_takeCompares_27 : decode cX6_takeCompares 27 = .ok (.invokevirtual 48, 3) := by decide +kernel
theorem dX6_takeCompares_30 : decode cX6_takeCompares 30 = .ok (.ireturn, 1) := by decide +kernel
theorem dX6_takeCompares_31 : decode cX6_takeCompares 31 = .ok (.aload_n 1, 1) := by decide +kernel
theorem dX6_takeCompares_32 : decode cX6_takeCompares 32 = .ok (.getfield 135, 3) := by decide +kernel
theorem dX6_takeCompares_35 : decode cX6_takeCompares 35 = .ok (.iload_n 2, 1) := by decide +kernel
theorem dX6_takeCompares_36 : decode cX6_takeCompares 36 = .ok (.aload_n 0, 1) := by decide +kernel
theorem dX6_takeCompares_37 : decode cX6_takeCompares 37 = .ok (.getfield 15, 3) := by decide +kernel
theorem dX6_takeCompares_40 : decode cX6_takeCompares 40 = .ok (.getfield 132, 3) := by decide +kernel
theorem dX6_takeCompares_43 : decode cX6_takeCompares 43 = .ok (.iastore, 1) := by decide +kernel
theorem dX6_takeCompares_44 : decode cX6_takeCompares 44 = .ok (.aload_n 0, 1) := by decide +kernel
theorem dX6_takeCompares_45 : decode cX6_takeCompares 45 = .ok (.getfield 15, 3) := by decide +kernel
theorem dX6_takeCompares_48 : decode cX6_takeCompares 48 = .ok (.invokevirtual 56, 3) := by decide +kernel
theorem dX6_takeCompares_51 : decode cX6_takeCompares 51 = .ok (.iconst 1, 1) := by decide +kernel
theorem dX6_takeCompares_52 : decode cX6_takeCompares 52 = .ok (.ireturn, 1) := by decide +kernel
theorem dX7_init_0 : decode cX7_init 0 = .ok (.aload_n 0, 1) := by decide +kernel
theorem dX7_init_1 : decode cX7_init 1 = .ok (.invokespecial 3, 3) := by decide +kernel
theorem dX7_init_4 : decode cX7_init 4 = .ok (.aload_n 0, 1) := by decide +kernel
theorem dX7_init_5 : decode cX7_init 5 = .ok (.bipush 25, 2) := by decide +kernel
theorem dX7_init_7 : decode cX7_init 7 = .ok (.newarray .int, 2) := by decide +kernel
theorem dX7_init_9 : decode cX7_init 9 = .ok (.putfield 9, 3) := by decide +kernel
theorem dX7_init_12 : decode cX7_init 12 = .ok (.aload_n 0, 1) := by decide +kernel
theorem dX7_init_13 : decode cX7_init 13 = .ok (.bipush 110, 2) := by decide +kernel
theorem dX7_init_15 : decode cX7_init 15 = .ok (.newarray .int, 2) := by decide +kernel
theorem dX7_init_17 : decode cX7_init 17 = .ok (.putfield 15, 3) := by decide +kernel
theorem dX7_init_20 : decode cX7_init 20 = .ok (.aload_n 0, 1) := by decide +kernel
theorem dX7_init_21 : decode cX7_init 21 = .ok (.bipush 110, 2) := by decide +kernel
theorem dX7_init_23 : decode cX7_init 23 = .ok (.newarray .int, 2) := by decide +kernel
theorem dX7_init_25 : decode cX7_init 25 = .ok (.putfield 18, 3) := by decide +kernel
theorem dX7_init_28 : decode cX7_init 28 = .ok (.aload_n 0, 1) := by decide +kernel
theorem dX7_init_29 : decode cX7_init 29 = .ok (.bipush 110, 2) := by decide +kernel
theorem dX7_init_31 : decode cX7_init 31 = .ok (.newarray .int, 2) := by decide +kernel
theorem dX7_init_33 : decode cX7_init 33 = .ok (.putfield 21, 3) := by decide +kernel
theorem dX7_init_36 : decode cX7_init 36 = .ok (.aload_n 0, 1) := by decide +kernel
theorem dX7_init_37 : decode cX7_init 37 = .ok (.bipush 110, 2) := by decide +kernel
theorem dX7_init_39 : decode cX7_init 39 = .ok (.newarray .int, 2) := by decide +kernel
theorem dX7_init_41 : decode cX7_init 41 = .ok (.putfield 24, 3) := by decide +kernel
theorem dX7_init_44 : decode cX7_init 44 = .ok (.return_, 1) := by decide +kernel
theorem dX7_gather_0 : decode cX7_gather 0 = .ok (.aload_n 1, 1) := by decide +kernel
theorem dX7_gather_1 : decode cX7_gather 1 = .ok (.getfield 27, 3) := by decide +kernel
theorem dX7_gather_4 : decode cX7_gather 4 = .ok (.iconst 0, 1) := by decide +kernel
theorem dX7_gather_5 : decode cX7_gather 5 = .ok (.aload_n 0, 1) := by decide +kernel
theorem dX7_gather_6 : decode cX7_gather 6 = .ok (.getfield 9, 3) := by decide +kernel
theorem dX7_gather_9 : decode cX7_gather 9 = .ok (.iconst 0, 1) := by decide +kernel
theorem dX7_gather_10 : decode cX7_gather 10 = .ok (.bipush 25, 2) := by decide +kernel
theorem dX7_gather_12 : decode cX7_gather 12 = .ok (.invokestatic 32, 3) := by decide +kernel
theorem dX7_gather_15 : decode cX7_gather 15 = .ok (.aload_n 0, 1) := by decide +kernel
theorem dX7_gather_16 : decode cX7_gather 16 = .ok (.iconst 0, 1) := by decide +kernel
theorem dX7_gather_17 : decode cX7_gather 17 = .ok (.putfield 38, 3) := by decide +kernel
theorem dX7_gather_20 : decode cX7_gather 20 = .ok (.aload_n 0, 1) := by decide +kernel
theorem dX7_gather_21 : decode cX7_gather 21 = .ok (.iconst (-1), 1) := by decide +kernel
theorem dX7_gather_22 : decode cX7_gather 22 = .ok (.putfield 42, 3) := by decide +kernel
theorem dX7_gather_25 : decode cX7_gather 25 = .ok (.aload_n 0, 1) := by decide +kernel
theorem dX7_gather_26 : decode cX7_gather 26 = .ok (.getfield 15, 3) := by decide +kernel
theorem dX7_gather_29 : decode cX7_gather 29 = .ok (.iconst 0, 1) := by decide +kernel
theorem dX7_gather_30 : decode cX7_gather 30 = .ok (.invokestatic 45, 3) := by decide +kernel
theorem dX7_gather_33 : decode cX7_gather 33 = .ok (.iconst 0, 1) := by decide +kernel
theorem dX7_gather_34 : decode cX7_gather 34 = .ok (.istore_n 3, 1) := by decide +kernel
theorem dX7_gather_35 : decode cX7_gather 35 = .ok (.iload_n 3, 1) := by decide +kernel
theorem dX7_gather_36 : decode cX7_gather 36 = .ok (.bipush 9, 2) := by decide +kernel
theorem dX7_gather_38 : decode cX7_gather 38 = .ok (.if_icmp .gt 29, 3) := by decide +kernel
theorem dX7_gather_41 : decode cX7_gather 41 = .ok (.aload_n 0, 1) := by decide +kernel
theorem dX7_gather_42 : decode cX7_gather 42 = .ok (.getfield 15, 3) := by decide +kernel
theorem dX7_gather_45 : decode cX7_gather 45 = .ok (.bipush 100, 2) := by decide +kernel
theorem dX7_gather_47 : decode cX7_gather 47 = .ok (.iload_n 3, 1) := by decide +kernel
theorem dX7_gather_48 : decode cX7_gather 48 = .ok (.iadd, 1) := by decide +kernel
theorem dX7_gather_49 : decode cX7_gather 49 = .ok (.iconst 1, 1) := by decide +kernel
theorem dX7_gather_50 : decode cX7_gather 50 = .ok (.iastore, 1) := by decide +kernel
theorem dX7_gather_51 : decode cX7_gather 51 = .ok (.aload_n 0, 1) := by decide +kernel
theorem dX7_gather_52 : decode cX7_gather 52 = .ok (.getfield 18, 3) := by decide +kernel
theorem dX7_gather_55 : decode cX7_gather 55 = .ok (.bipush 100, 2) := by decide +kernel
theorem dX7_gather_57 : decode cX7_gather 57 = .ok (.iload_n 3, 1) := by decide +kernel
theorem dX7_gather_58 : decode cX7_gather 58 = .ok (.iadd, 1) := by decide +kernel
theorem dX7_gather_59 : decode cX7_gather 59 = .ok (.iload_n 3, 1) := by decide +kernel
theorem dX7_gather_60 : decode cX7_gather 60 = .ok (.iastore, 1) := by decide +kernel
theorem dX7_gather_61 : decode cX7_gather 61 = .ok (.iinc 3 1, 3) := by decide +kernel
theorem dX7_gather_64 : decode cX7_gather 64 = .ok (.goto (-29), 3) := by decide +kernel
theorem dX7_gather_67 : decode cX7_gather 67 = .ok (.iload_n 2, 1) := by decide +kernel
theorem dX7_gather_68 : decode cX7_gather 68 = .ok (.aload_n 1, 1) := by decide +kernel
theorem dX7_gather_69 : decode cX7_gather 69 = .ok (.getfield 51, 3) := by decide +kernel
theorem dX7_gather_72 : decode cX7_gather 72 = .ok (.imul, 1) := by decide +kernel
theorem dX7_gather_73 : decode cX7_gather 73 = .ok (.istore_n 3, 1) := by decide +kernel
theorem dX7_gather_74 : decode cX7_gather 74 = .ok (.iconst 0, 1) := by decide +kernel
theorem dX7_gather_75 : decode cX7_gather 75 = .ok (.istore 4, 2) := by decide +kernel
theorem dX7_gather_77 : decode cX7_gather 77 = .ok (.iload 4, 2) := by decide +kernel
theorem dX7_gather_79 : decode cX7_gather 79 = .ok (.aload_n 1, 1) := by decide +kernel
theorem dX7_gather_80 : decode cX7_gather 80 = .ok (.getfield 51, 3) := by decide +kernel
theorem dX7_gather_83 : decode cX7_gather 83 = .ok (.iconst 1, 1) := by decide +kernel
theorem dX7_gather_84 : decode cX7_gather 84 = .ok (.isub, 1) := by decide +kernel
theorem dX7_gather_85 : decode cX7_gather 85 = .ok (.if_icmp .ge 48, 3) := by decide +kernel
theorem dX7_gather_88 : decode cX7_gather 88 = .ok (.aload_n 0, 1) := by decide +kernel
theorem dX7_gather_89 : decode cX7_gather 89 = .ok (.getfield 21, 3) := by decide +kernel
theorem dX7_gather_92 : decode cX7_gather 92 = .ok (.iconst 0, 1) := by decide +kernel
theorem dX7_gather_93 : decode cX7_gather 93 = .ok (.invokestatic 45, 3) := by decide +kernel
theorem dX7_gather_96 : decode cX7_gather 96 = .ok (.iconst 0, 1) := by decide +kernel
theorem dX7_gather_97 : decode cX7_gather 97 = .ok (.istore 5, 2) := by decide +kernel
theorem dX7_gather_99 : decode cX7_gather 99 = .ok (.iload 5, 2) := by decide +kernel
theorem dX7_gather_101 : decode cX7_gather 101 = .ok (.bipush 110, 2) := by decide +kernel
theorem dX7_gather_103 : decode cX7_gather 103 = .ok (.if_icmp .ge 20, 3) := by decide +kernel
theorem dX7_gather_106 : decode cX7_gather 106 = .ok (.aload_n 0, 1) := by decide +kernel
theorem dX7_gather_107 : decode cX7_gather 107 = .ok (.aload_n 1, 1) := by decide +kernel
theorem dX7_gather_108 : decode cX7_gather 108 = .ok (.iload_n 3, 1) := by decide +kernel
theorem dX7_gather_109 : decode cX7_gather 109 = .ok (.iload 4, 2) := by decide +kernel
theorem dX7_gather_111 : decode cX7_gather 111 = .ok (.iadd, 1) := by decide +kernel
theorem dX7_gather_112 : decode cX7_gather 112 = .ok (.iload 5, 2) := by decide +kernel
theorem dX7_gather_114 : decode cX7_gather 114 = .ok (.invokevirtual 54, 3) := by decide +kernel
theorem dX7_gather_117 : decode cX7_gather 117 = .ok (.iinc 5 1, 3) := by decide +kernel
theorem dX7_gather_120 : decode cX7_gather 120 = .ok (.goto (-21), 3) := by decide +kernel
theorem dX7_gather_123 : decode cX7_gather 123 = .ok (.aload_n 0, 1) := by decide +kernel
theorem dX7_gather_124 : decode cX7_gather 124 = .ok (.invokevirtual 58, 3) := by decide +kernel
theorem dX7_gather_127 : decode cX7_gather 127 = .ok (.iinc 4 1, 3) := by decide +kernel
theorem dX7_gather_130 : decode cX7_gather 130 = .ok (.goto (-53), 3) := by decide +kernel
theorem dX7_gather_133 : decode cX7_gather 133 = .ok (.iconst 0, 1) := by decide +kernel
theorem dX7_gather_134 : decode cX7_gather 134 = .ok (.istore 4, 2) := by decide +kernel
theorem dX7_gather_136 : decode cX7_gather 136 = .ok (.iload 4, 2) := by decide +kernel
theorem dX7_gather_138 : decode cX7_gather 138 = .ok (.bipush 110, 2) := by decide +kernel
theorem dX7_gather_140 : decode cX7_gather 140 = .ok (.if_icmp .ge 24, 3) := by decide +kernel
theorem dX7_gather_143 : decode cX7_gather 143 = .ok (.aload_n 0, 1) := by decide +kernel
theorem dX7_gather_144 : decode cX7_gather 144 = .ok (.aload_n 1, 1) := by decide +kernel
theorem dX7_gather_145 : decode cX7_gather 145 = .ok (.iload_n 3, 1) := by decide +kernel
theorem dX7_gather_146 : decode cX7_gather 146 = .ok (.aload_n 1, 1) := by decide +kernel
theorem dX7_gather_147 : decode cX7_gather 147 = .ok (.getfield 51, 3) := by decide +kernel
theorem dX7_gather_150 : decode cX7_gather 150 = .ok (.iadd, 1) := by decide +kernel
theorem dX7_gather_151 : decode cX7_gather 151 = .ok (.iconst 1, 1) := by decide +kernel
theorem dX7_gather_152 : decode cX7_gather 152 = .ok (.isub, 1) := by decide +kernel
theorem dX7_gather_153 : decode cX7_gather 153 = .ok (.iload 4, 2) := by decide +kernel
theorem dX7_gather_155 : decode cX7_gather 155 = .ok (.invokevirtual 61, 3) := by decide +kernel
theorem dX7_gather_158 : decode cX7_gather 158 = .ok (.iinc 4 1, 3) := by decide +kernel
theorem dX7_gather_161 : decode cX7_gather 161 = .ok (.goto (-25), 3) := by decide +kernel
theorem dX7_gather_164 : decode cX7_gather 164 = .ok (.return_, 1) := by decide +kernel
theorem dX7_swapTables_0 : decode cX7_swapTables 0 = .ok (.aload_n 0, 1) := by decide +kernel
theorem dX7_swapTables_1 : decode cX7_swapTables 1 = .ok (.getfield 15, 3) := by decide +kernel
theorem dX7_swapTables_4 : decode cX7_swapTables 4 = .ok (.astore_n 1, 1) := by decide +kernel
theorem dX7_swapTables_5 : decode cX7_swapTables 5 = .ok (.aload_n 0, 1) := by decide +kernel
theorem dX7_swapTables_6 : decode cX7_swapTables 6 = .ok (.aload_n 0, 1) := by decide +kernel
theorem dX7_swapTables_7 : decode cX7_swapTables 7 = .ok (.getfield 21, 3) := by decide +kernel
theorem dX7_swapTables_10 : decode cX7_swapTables 10 = .ok (.putfield 15, 3) := by decide +kernel
theorem dX7_swapTables_13 : decode cX7_swapTables 13 = .ok (.aload_n 0, 1) := by decide +kernel
theorem dX7_swapTables_14 : decode cX7_swapTables 14 = .ok (.aload_n 1, 1) := by decide +kernel
theorem dX7_swapTables_15 : decode cX7_swapTables 15 = .ok (.putfield 21, 3) := by decide +kernel
theorem dX7_swapTables_18 : decode cX7_swapTables 18 = .ok (.aload_n 0, 1) := by decide +kernel
theorem dX7_swapTables_19 : decode cX7_swapTables 19 = .ok (.getfield 18, 3) := by decide +kernel
theorem dX7_swapTables_22 : decode cX7_swapTables 22 = .ok (.astore_n 2, 1) := by decide +kernel
theorem dX7_swapTables_23 : decode cX7_swapTables 23 = .ok (.aload_n 0, 1) := by decide +kernel
theorem dX7_swapTables_24 : decode cX7_swapTables 24 = .ok (.aload_n 0, 1) := by decide +kernel
theorem dX7_swapTables_25 : decode cX7_swapTables 25 = .ok (.getfield 24, 3) := by decide +kernel
theorem dX7_swapTables_28 : decode cX7_swapTables 28 = .ok (.putfield 18, 3) := by decide +kernel
theorem dX7_swapTables_31 : decode cX7_swapTables 31 = .ok (.aload_n 0, 1) := by decide +kernel
theorem dX7_swapTables_32 : decode cX7_swapTables 32 = .ok (.aload_n 2, 1) := by decide +kernel
theorem dX7_swapTables_33 : decode cX7_swapTables 33 = .ok (.putfield 24, 3) := by decide +kernel
theorem dX7_swapTables_36 : decode cX7_swapTables 36 = .ok (.return_, 1) := by decide +kernel
theorem dX7_setPair_0 : decode cX7_setPair 0 = .ok (.iload_n 2, 1) := by decide +kernel
theorem dX7_setPair_1 : decode cX7_setPair 1 = .ok (.bipush 10, 2) := by decide +kernel
theorem dX7_setPair_3 : decode cX7_setPair 3 = .ok (.idiv, 1) := by decide +kernel
theorem dX7_setPair_4 : decode cX7_setPair 4 = .ok (.istore_n 3, 1) := by decide +kernel
theorem dX7_setPair_5 : decode cX7_setPair 5 = .ok (.iload_n 3, 1) := by decide +kernel
theorem dX7_setPair_6 : decode cX7_setPair 6 = .ok (.bipush 10, 2) := by decide +kernel
theorem dX7_setPair_8 : decode cX7_setPair 8 = .ok (.if_icmp .eq 16, 3) := by decide +kernel
theorem dX7_setPair_11 : decode cX7_setPair 11 = .ok (.iload_n 1, 1) := by decide +kernel
theorem dX7_setPair_12 : decode cX7_setPair 12 = .ok (.ifCond .le 12, 3) := by decide +kernel
theorem dX7_setPair_15 : decode cX7_setPair 15 = .ok (.aload_n 0, 1) := by decide +kernel
theorem dX7_setPair_16 : decode cX7_setPair 16 = .ok (.getfield 9, 3) := by decide +kernel
theorem dX7_setPair_19 : decode cX7_setPair 19 = .ok (.iload_n 1, 1) := by decide +kernel
theorem dX7_setPair_20 : decode cX7_setPair 20 = .ok (.iconst 1, 1) := by decide +kernel
theorem dX7_setPair_21 : decode cX7_setPair 21 = .ok (.isub, 1) := by decide +kernel
theorem dX7_setPair_22 : decode cX7_setPair 22 = .ok (.iload_n 3, 1) := by decide +kernel
theorem dX7_setPair_23 : decode cX7_setPair 23 = .ok (.iastore, 1) := by decide +kernel
theorem dX7_setPair_24 : decode cX7_setPair 24 = .ok (.aload_n 0, 1) := by decide +kernel
theorem dX7_setPair_25 : decode cX7_setPair 25 = .ok (.getfield 9, 3) := by decide +kernel
theorem dX7_setPair_28 : decode cX7_setPair 28 = .ok (.iload_n 1, 1) := by decide +kernel
theorem dX7_setPair_29 : decode cX7_setPair 29 = .ok (.iload_n 2, 1) := by decide +kernel
theorem dX7_setPair_30 : decode cX7_setPair 30 = .ok (.bipush 10, 2) := by decide +kernel
theorem dX7_setPair_32 : decode cX7_setPair 32 = .ok (.irem, 1) := by decide +kernel
theorem dX7_setPair_33 : decode cX7_setPair 33 = .ok (.iastore, 1) := by decide +kernel
theorem dX7_setPair_34 : decode cX7_setPair 34 = .ok (.return_, 1) := by decide +kernel
theorem dX7_goOn_0 : decode cX7_goOn 0 = .ok (.aload_n 0, 1) := by decide +kernel
theorem dX7_goOn_1 : decode cX7_goOn 1 = .ok (.getfield 15, 3) := by decide +kernel
theorem dX7_goOn_4 : decode cX7_goOn 4 = .ok (.iload_n 3, 1) := by decide +kernel
theorem dX7_goOn_5 : decode cX7_goOn 5 = .ok (.iaload, 1) := by decide +kernel
theorem dX7_goOn_6 : decode cX7_goOn 6 = .ok (.ifCond .ne 4, 3) := by decide +kernel
theorem dX7_goOn_9 : decode cX7_goOn 9 = .ok (.return_, 1) := by decide +kernel
theorem dX7_goOn_10 : decode cX7_goOn 10 = .ok (.aload_n 0, 1) := by decide +kernel
theorem dX7_goOn_11 : decode cX7_goOn 11 = .ok (.iload_n 2, 1) := by decide +kernel
theorem dX7_goOn_12 : decode cX7_goOn 12 = .ok (.iload_n 3, 1) := by decide +kernel
theorem dX7_goOn_13 : decode cX7_goOn 13 = .ok (.invokevirtual 64, 3) := by decide +kernel
theorem dX7_goOn_16 : decode cX7_goOn 16 = .ok (.iconst 0, 1) := by decide +kernel
theorem dX7_goOn_17 : decode cX7_goOn 17 = .ok (.istore 4, 2) := by decide +kernel
theorem dX7_goOn_19 : decode cX7_goOn 19 = .ok (.iload 4, 2) := by decide +kernel
theorem dX7_goOn_21 : decode cX7_goOn 21 = .ok (.bipush 9, 2) := by decide +kernel
theorem dX7_goOn_23 : decode cX7_goOn 23 = .ok (.if_icmp .gt 113, 3) := by decide +kernel
theorem dX7_goOn_26 : decode cX7_goOn 26 = .ok (.aload_n 0, 1) := by decide +kernel
theorem dX7_goOn_27 : decode cX7_goOn 27 = .ok (.getfield 9, 3) := by decide +kernel
theorem dX7_goOn_30 : decode cX7_goOn 30 = .ok (.iload_n 2, 1) := by decide +kernel
theorem dX7_goOn_31 : decode cX7_goOn 31 = .ok (.iconst 1, 1) := by decide +kernel
theorem dX7_goOn_32 : decode cX7_goOn 32 = .ok (.iadd, 1) := by decide +kernel
theorem dX7_goOn_33 : decode cX7_goOn 33 = .ok (.iload 4, 2) := by decide +kernel
theorem dX7_goOn_35 : decode cX7_goOn 35 = .ok (.iastore, 1) := by decide +kernel
theorem dX7_goOn_36 : decode cX7_goOn 36 = .ok (.aload_n 1, 1) := by decide +kernel
theorem dX7_goOn_37 : decode cX7_goOn 37 = .ok (.aload_n 0, 1) := by decide +kernel
theorem dX7_goOn_38 : decode cX7_goOn 38 = .ok (.getfield 9, 3) := by decide +kernel
theorem dX7_goOn_41 : decode cX7_goOn 41 = .ok (.iload_n 2, 1) := by decide +kernel
theorem dX7_goOn_42 : decode cX7_goOn 42 = .ok (.invokevirtual 68, 3) := by decide +kernel
theorem dX7_goOn_45 : decode cX7_goOn 45 = .ok (.aload_n 1, 1) := by decide +kernel
theorem dX7_goOn_46 : decode cX7_goOn 46 = .ok (.getfield 27, 3) := by decide +kernel
theorem dX7_goOn_49 : decode cX7_goOn 49 = .ok (.iload_n 2, 1) := by decide +kernel
theorem dX7_goOn_50 : decode cX7_goOn 50 = .ok (.iaload, 1) := by decide +kernel
theorem dX7_goOn_51 : decode cX7_goOn 51 = .ok (.if_icmp .ne 79, 3) := by decide +kernel
theorem dX7_goOn_54 : decode cX7_goOn 54 = .ok (.iload_n 3, 1) := by decide +kernel
theorem dX7_goOn_55 : decode cX7_goOn 55 = .ok (.bipush 10, 2) := by decide +kernel
theorem dX7_goOn_57 : decode cX7_goOn 57 = .ok (.irem, 1) := by decide +kernel
theorem dX7_goOn_58 : decode cX7_goOn 58 = .ok (.bipush 10, 2) := by decide +kernel
theorem dX7_goOn_60 : decode cX7_goOn 60 = .ok (.imul, 1) := by decide +kernel
theorem dX7_goOn_61 : decode cX7_goOn 61 = .ok (.iload 4, 2) := by decide +kernel
theorem dX7_goOn_63 : decode cX7_goOn 63 = .ok (.iadd, 1) := by decide +kernel
theorem dX7_goOn_64 : decode cX7_goOn 64 = .ok (.istore 5, 2) := by decide +kernel
theorem dX7_goOn_66 : decode cX7_goOn 66 = .ok (.aload_n 0, 1) := by decide +kernel
theorem dX7_goOn_67 : decode cX7_goOn 67 = .ok (.getfield 18, 3) := by decide +kernel
theorem dX7_goOn_70 : decode cX7_goOn 70 = .ok (.iload_n 3, 1) := by decide +kernel
theorem dX7_goOn_71 : decode cX7_goOn 71 = .ok (.iaload, 1) := by decide +kernel
theorem dX7_goOn_72 : decode cX7_goOn 72 = .ok (.bipush 10, 2) := by decide +kernel
theorem dX7_goOn_74 : decode cX7_goOn 74 = .ok (.imul, 1) := by decide +kernel
theorem dX7_goOn_75 : decode cX7_goOn 75 = .ok (.iload 4, 2) := by decide +kernel
theorem dX7_goOn_77 : decode cX7_goOn 77 = .ok (.iadd, 1) := by decide +kernel
theorem dX7_goOn_78 : decode cX7_goOn 78 = .ok (.istore 6, 2) := by decide +kernel
theorem dX7_goOn_80 : decode cX7_goOn 80 = .ok (.aload_n 0, 1) := by decide +kernel
theorem dX7_goOn_81 : decode cX7_goOn 81 = .ok (.getfield 24, 3) := by decide +kernel
theorem dX7_goOn_84 : decode cX7_goOn 84 = .ok (.iload 5, 2) := by decide +kernel
theorem dX7_goOn_86 : decode cX7_goOn 86 = .ok (.aload_n 0, 1) := by decide +kernel
theorem dX7_goOn_87 : decode cX7_goOn 87 = .ok (.getfield 21, 3) := by decide +kernel
theorem dX7_goOn_90 : decode cX7_goOn 90 = .ok (.iload 5, 2) := by decide +kernel
theorem dX7_goOn_92 : decode cX7_goOn 92 = .ok (.iaload, 1) := by decide +kernel
theorem dX7_goOn_93 : decode cX7_goOn 93 = .ok (.ifCond .ne 8, 3) := by decide +kernel
theorem dX7_goOn_96 : decode cX7_goOn 96 = .ok (.iload 6, 2) := by decide +kernel
theorem dX7_goOn_98 : decode cX7_goOn 98 = .ok (.goto 15, 3) := by decide +kernel
theorem dX7_goOn_101 : decode cX7_goOn 101 = .ok (.aload_n 0, 1) := by decide +kernel
theorem dX7_goOn_102 : decode cX7_goOn 102 = .ok (.getfield 24, 3) := by decide +kernel
theorem dX7_goOn_105 : decode cX7_goOn 105 = .ok (.iload 5, 2) := by decide +kernel
theorem dX7_goOn_107 : decode cX7_goOn 107 = .ok (.iaload, 1) := by decide +kernel
theorem dX7_goOn_108 : decode cX7_goOn 108 = .ok (.iload 6, 2) := by decide +kernel
theorem dX7_goOn_110 : decode cX7_goOn 110 = .ok (.invokestatic 72, 3) := by decide +kernel
theorem dX7_goOn_113 : decode cX7_goOn 113 = .ok (.iastore, 1) := by decide +kernel
theorem dX7_goOn_114 : decode cX7_goOn 114 = .ok (.aload_n 0, 1) := by decide +kernel
theorem dX7_goOn_115 : decode cX7_goOn 115 = .ok (.getfield 21, 3) := by decide +kernel
theorem dX7_goOn_118 : decode cX7_goOn 118 = .ok (.iload 5, 2) := by decide +kernel
theorem dX7_goOn_120 : decode cX7_goOn 120 = .ok (.dup2, 1) := by decide +kernel
theorem dX7_goOn_121 : decode cX7_goOn 121 = .ok (.iaload, 1) := by decide +kernel
theorem dX7_goOn_122 : decode cX7_goOn 122 = .ok (.aload_n 0, 1) := by decide +kernel
theorem dX7_goOn_123 : decode cX7_goOn 123 = .ok (.getfield 15, 3) := by decide +kernel
theorem dX7_goOn_126 : decode cX7_goOn 126 = .ok (.iload_n 3, 1) := by decide +kernel
theorem dX7_goOn_127 : decode cX7_goOn 127 = .ok (.iaload, 1) := by decide +kernel
theorem dX7_goOn_128 : decode cX7_goOn 128 = .ok (.iadd, 1) := by decide +kernel
theorem dX7_goOn_129 : decode cX7_goOn 129 = .ok (.iastore, 1) := by decide +kernel
theorem dX7_goOn_130 : decode cX7_goOn 130 = .ok (.iinc 4 1, 3) := by decide +kernel
theorem dX7_goOn_133 : decode cX7_goOn 133 = .ok (.goto (-114), 3) := by decide +kernel
theorem dX7_goOn_136 : decode cX7_goOn 136 = .ok (.return_, 1) := by decide +kernel
theorem dX7_finish_0 : decode cX7_finish 0 = .ok (.aload_n 0, 1) := by decide +kernel
theorem dX7_finish_1 : decode cX7_finish 1 = .ok (.getfield 15, 3) := by decide +kernel
theorem dX7_finish_4 : decode cX7_finish 4 = .ok (.iload_n 3, 1) := by decide +kernel
theorem dX7_finish_5 : decode cX7_finish 5 = .ok (.iaload, 1) := by decide +kernel
theorem dX7_finish_6 : decode cX7_finish 6 = .ok (.ifCond .ne 4, 3) := by decide +kernel
theorem dX7_finish_9 : decode cX7_finish 9 = .ok (.return_, 1) := by decide +kernel
theorem dX7_finish_10 : decode cX7_finish 10 = .ok (.aload_n 0, 1) := by decide +kernel
theorem dX7_finish_11 : decode cX7_finish 11 = .ok (.iload_n 2, 1) := by decide +kernel
theorem dX7_finish_12 : decode cX7_finish 12 = .ok (.iload_n 3, 1) := by decide +kernel
theorem dX7_finish_13 : decode cX7_finish 13 = .ok (.invokevirtual 64, 3) := by decide +kernel
theorem dX7_finish_16 : decode cX7_finish 16 = .ok (.aload_n 1, 1) := by decide +kernel
theorem dX7_finish_17 : decode cX7_finish 17 = .ok (.aload_n 0, 1) := by decide +kernel
theorem dX7_finish_18 : decode cX7_finish 18 = .ok (.getfield 9, 3) := by decide +kernel
theorem dX7_finish_21 : decode cX7_finish 21 = .ok (.iload_n 2, 1) := by decide +kernel
theorem dX7_finish_22 : decode cX7_finish 22 = .ok (.invokevirtual 68, 3) := by decide +kernel
theorem dX7_finish_25 : decode cX7_finish 25 = .ok (.aload_n 1, 1) := by decide +kernel
theorem dX7_finish_26 : decode cX7_finish 26 = .ok (.getfield 27, 3) := by decide +kernel
theorem dX7_finish_29 : decode cX7_finish 29 = .ok (.iload_n 2, 1) := by decide +kernel
theorem dX7_finish_30 : decode cX7_finish 30 = .ok (.iaload, 1) := by decide +kernel
theorem dX7_finish_31 : decode cX7_finish 31 = .ok (.if_icmp .ne 51, 3) := by decide +kernel
theorem dX7_finish_34 : decode cX7_finish 34 = .ok (.aload_n 0, 1) := by decide +kernel
theorem dX7_finish_35 : decode cX7_finish 35 = .ok (.aload_n 0, 1) := by decide +kernel
theorem dX7_finish_36 : decode cX7_finish 36 = .ok (.getfield 38, 3) := by decide +kernel
theorem dX7_finish_39 : decode cX7_finish 39 = .ok (.ifCond .ne 12, 3) := by decide +kernel
theorem dX7_finish_42 : decode cX7_finish 42 = .ok (.aload_n 0, 1) := by decide +kernel
theorem dX7_finish_43 : decode cX7_finish 43 = .ok (.getfield 18, 3) := by decide +kernel
theorem dX7_finish_46 : decode cX7_finish 46 = .ok (.iload_n 3, 1) := by decide +kernel
theorem dX7_finish_47 : decode cX7_finish 47 = .ok (.iaload, 1) := by decide +kernel
theorem dX7_finish_48 : decode cX7_finish 48 = .ok (.goto 16, 3) := by decide +kernel
theorem dX7_finish_51 : decode cX7_finish 51 = .ok (.aload_n 0, 1) := by decide +kernel
theorem dX7_finish_52 : decode cX7_finish 52 = .ok (.getfield 42, 3) := by decide +kernel
theorem dX7_finish_55 : decode cX7_finish 55 = .ok (.aload_n 0, 1) := by decide +kernel
theorem dX7_finish_56 : decode cX7_finish 56 = .ok (.getfield 18, 3) := by decide +kernel
theorem dX7_finish_59 : decode cX7_finish 59 = .ok (.iload_n 3, 1) := by decide +kernel
theorem dX7_finish_60 : decode cX7_finish 60 = .ok (.iaload, 1) := by decide +kernel
theorem dX7_finish_61 : decode cX7_finish 61 = .ok (.invokestatic 72, 3) := by decide +kernel
theorem dX7_finish_64 : decode cX7_finish 64 = .ok (.putfield 42, 3) := by decide +kernel
theorem dX7_finish_67 : decode cX7_finish 67 = .ok (.aload_n 0, 1) := by decide +kernel
theorem dX7_finish_68 : decode cX7_finish 68 = .ok (.dup, 1) := by decide +kernel
theorem dX7_finish_69 : decode cX7_finish 69 = .ok (.getfield 38, 3) := by decide +kernel
theorem dX7_finish_72 : decode cX7_finish 72 = .ok (.aload_n 0, 1) := by decide +kernel
theorem dX7_finish_73 : decode cX7_finish 73 = .ok (.getfield 15, 3) := by decide +kernel
theorem dX7_finish_76 : decode cX7_finish 76 = .ok (.iload_n 3, 1) := by decide +kernel
theorem dX7_finish_77 : decode cX7_finish 77 = .ok (.iaload, 1) := by decide +kernel
theorem dX7_finish_78 : decode cX7_finish 78 = .ok (.iadd, 1) := by decide +kernel
theorem dX7_finish_79 : decode cX7_finish 79 = .ok (.putfield 38, 3) := by decide +kernel
theorem dX7_finish_82 : decode cX7_finish 82 = .ok (.return_, 1) := by decide +kernel
theorem dX7_couldHaveBeen_0 : decode cX7_couldHaveBeen 0 = .ok (.iload_n 3, 1) := by decide +kernel
theorem dX7_couldHaveBeen_1 : decode cX7_couldHaveBeen 1 = .ok (.getstatic 78, 3) := by decide +kernel
theorem dX7_couldHaveBeen_4 : decode cX7_couldHaveBeen 4 = .ok (.aload_n 1, 1) := by decide +kernel
theorem dX7_couldHaveBeen_5 : decode cX7_couldHaveBeen 5 = .ok (.getfield 51, 3) := by decide +kernel
theorem dX7_couldHaveBeen_8 : decode cX7_couldHaveBeen 8 = .ok (.iaload, 1) := by decide +kernel
theorem dX7_couldHaveBeen_9 : decode cX7_couldHaveBeen 9 = .ok (.if_icmp .lt 5, 3) := by decide +kernel
theorem dX7_couldHaveBeen_12 : decode cX7_couldHaveBeen 12 = .ok (.iconst 0, 1) := by decide +kernel
theorem dX7_couldHaveBeen_13 : decode cX7_couldHaveBeen 13 = .ok (.ireturn, 1) := by decide +kernel
theorem dX7_couldHaveBeen_14 : decode cX7_couldHaveBeen 14 = .ok (.aload_n 1, 1) := by decide +kernel
theorem dX7_couldHaveBeen_15 : decode cX7_couldHaveBeen 15 = .ok (.getfield 27, 3) := by decide +kernel
theorem dX7_couldHaveBeen_18 : decode cX7_couldHaveBeen 18 = .ok (.iconst 0, 1) := by decide +kernel
theorem dX7_couldHaveBeen_19 : decode cX7_couldHaveBeen 19 = .ok (.aload_n 0, 1) := by decide +kernel
theorem dX7_couldHaveBeen_20 : decode cX7_couldHaveBeen 20 = .ok (.getfield 9, 3) := by decide +kernel
theorem dX7_couldHaveBeen_23 : decode cX7_couldHaveBeen 23 = .ok (.iconst 0, 1) := by decide +kernel
theorem dX7_couldHaveBeen_24 : decode cX7_couldHaveBeen 24 = .ok (.bipush 25, 2) := by decide +kernel
theorem dX7_couldHaveBeen_26 : decode cX7_couldHaveBeen 26 = .ok (.invokestatic 32, 3) := by decide +kernel
theorem dX7_couldHaveBeen_29 : decode cX7_couldHaveBeen 29 = .ok (.iload_n 2, 1) := by decide +kernel
theorem dX7_couldHaveBeen_30 : decode cX7_couldHaveBeen 30 = .ok (.aload_n 1, 1) := by decide +kernel
theorem dX7_couldHaveBeen_31 : decode cX7_couldHaveBeen 31 = .ok (.getfield 51, 3) := by decide +kernel
theorem dX7_couldHaveBeen_34 : decode cX7_couldHaveBeen 34 = .ok (.imul, 1) := by decide +kernel
theorem dX7_couldHaveBeen_35 : decode cX7_couldHaveBeen 35 = .ok (.istore 4, 2) := by decide +kernel
theorem dX7_couldHaveBeen_37 : decode cX7_couldHaveBeen 37 = .ok (.iload_n 3, 1) := by decide +kernel
theorem dX7_couldHaveBeen_38 : decode cX7_couldHaveBeen 38 = .ok (.istore 5, 2) := by decide +kernel
theorem dX7_couldHaveBeen_40 : decode cX7_couldHaveBeen 40 = .ok (.aload_n 1, 1) := by decide +kernel
theorem dX7_couldHaveBeen_41 : decode cX7_couldHaveBeen 41 = .ok (.getfield 51, 3) := by decide +kernel
theorem dX7_couldHaveBeen_44 : decode cX7_couldHaveBeen 44 = .ok (.iconst 1, 1) := by decide +kernel
theorem dX7_couldHaveBeen_45 : decode cX7_couldHaveBeen 45 = .ok (.isub, 1) := by decide +kernel
theorem dX7_couldHaveBeen_46 : decode cX7_couldHaveBeen 46 = .ok (.istore 6, 2) := by decide +kernel
theorem dX7_couldHaveBeen_48 : decode cX7_couldHaveBeen 48 = .ok (.iload 6, 2) := by decide +kernel
theorem dX7_couldHaveBeen_50 : decode cX7_couldHaveBeen 50 = .ok (.ifCond .lt 31, 3) := by decide +kernel
theorem dX7_couldHaveBeen_53 : decode cX7_couldHaveBeen 53 = .ok (.aload_n 0, 1) := by decide +kernel
theorem dX7_couldHaveBeen_54 : decode cX7_couldHaveBeen 54 = .ok (.getfield 9, 3) := by decide +kernel
theorem dX7_couldHaveBeen_57 : decode cX7_couldHaveBeen 57 = .ok (.iload 4, 2) := by decide +kernel
theorem dX7_couldHaveBeen_59 : decode cX7_couldHaveBeen 59 = .ok (.iload 6, 2) := by decide +kernel
theorem dX7_couldHaveBeen_61 : decode cX7_couldHaveBeen 61 = .ok (.iadd, 1) := by decide +kernel
theorem dX7_couldHaveBeen_62 : decode cX7_couldHaveBeen 62 = .ok (.iload 5, 2) := by decide +kernel
theorem dX7_couldHaveBeen_64 : decode cX7_couldHaveBeen 64 = .ok (.bipush 10, 2) := by decide +kernel
theorem dX7_couldHaveBeen_66 : decode cX7_couldHaveBeen 66 = .ok (.irem, 1) := by decide +kernel
theorem dX7_couldHaveBeen_67 : decode cX7_couldHaveBeen 67 = .ok (.iastore, 1) := by decide +kernel
theorem dX7_couldHaveBeen_68 : decode cX7_couldHaveBeen 68 = .ok (.iload 5, 2) := by decide +kernel
theorem dX7_couldHaveBeen_70 : decode cX7_couldHaveBeen 70 = .ok (.bipush 10, 2) := by decide +kernel
theorem dX7_couldHaveBeen_72 : decode cX7_couldHaveBeen 72 = .ok (.idiv, 1) := by decide +kernel
theorem dX7_couldHaveBeen_73 : decode cX7_couldHaveBeen 73 = .ok (.istore 5, 2) := by decide +kernel
theorem dX7_couldHaveBeen_75 : decode cX7_couldHaveBeen 75 = .ok (.iinc 6 (-1), 3) := by decide +kernel
theorem dX7_couldHaveBeen_78 : decode cX7_couldHaveBeen 78 = .ok (.goto (-30), 3) := by decide +kernel
theorem dX7_couldHaveBeen_81 : decode cX7_couldHaveBeen 81 = .ok (.iconst 0, 1) := by decide +kernel
theorem dX7_couldHaveBeen_82 : decode cX7_couldHaveBeen 82 = .ok (.istore 6, 2) := by decide +kernel
theorem dX7_couldHaveBeen_84 : decode cX7_couldHaveBeen 84 = .ok (.iload 6, 2) := by decide +kernel
theorem dX7_couldHaveBeen_86 : decode cX7_couldHaveBeen 86 = .ok (.aload_n 1, 1) := by decide +kernel
theorem dX7_couldHaveBeen_87 : decode cX7_couldHaveBeen 87 = .ok (.getfield 51, 3) := by decide +kernel
theorem dX7_couldHaveBeen_90 : decode cX7_couldHaveBeen 90 = .ok (.if_icmp .ge 37, 3) := by decide +kernel
theorem dX7_couldHaveBeen_93 : decode cX7_couldHaveBeen 93 = .ok (.aload_n 1, 1) := by decide +kernel
theorem dX7_couldHaveBeen_94 : decode cX7_couldHaveBeen 94 = .ok (.aload_n 0, 1) := by decide +kernel
theorem dX7_couldHaveBeen_95 : decode cX7_couldHaveBeen 95 = .ok (.getfield 9, 3) := by decide +kernel
theorem dX7_couldHaveBeen_98 : decode cX7_couldHaveBeen 98 = .ok (.iload 4, 2) := by decide +kernel
theorem dX7_couldHaveBeen_100 : decode cX7_couldHaveBeen 100 = .ok (.iload 6, 2) := by decide +kernel
theorem dX7_couldHaveBeen_102 : decode cX7_couldHaveBeen 102 = .ok (.iadd, 1) := by decide +kernel
theorem dX7_couldHaveBeen_103 : decode cX7_couldHaveBeen 103 = .ok (.invokevirtual 68, 3) := by decide +kernel
theorem dX7_couldHaveBeen_106 : decode cX7_couldHaveBeen 106 = .ok (.aload_n 1, 1) := by decide +kernel
theorem dX7_couldHaveBeen_107 : decode cX7_couldHaveBeen 107 = .ok (.getfield 27, 3) := by decide +kernel
theorem dX7_couldHaveBeen_110 : decode cX7_couldHaveBeen 110 = .ok (.iload 4, 2) := by decide +kernel
theorem dX7_couldHaveBeen_112 : decode cX7_couldHaveBeen 112 = .ok (.iload 6, 2) := by decide +kernel
theorem dX7_couldHaveBeen_114 : decode cX7_couldHaveBeen 114 = .ok (.iadd, 1) := by decide +kernel
theorem dX7_couldHaveBeen_115 : decode cX7_couldHaveBeen 115 = .ok (.iaload, 1) := by decide +kernel
theorem dX7_couldHaveBeen_116 : decode cX7_couldHaveBeen 116 = .ok (.if_icmp .eq 5, 3) := by decide +kernel
theorem dX7_couldHaveBeen_119 : decode cX7_couldHaveBeen 119 = .ok (.iconst 0, 1) := by decide +kernel
theorem dX7_couldHaveBeen_120 : decode cX7_couldHaveBeen 120 = .ok (.ireturn, 1) := by decide +kernel
theorem dX7_couldHaveBeen_121 : decode cX7_couldHaveBeen 121 = .ok (.iinc 6 1, 3) := by decide +kernel
theorem dX7_couldHaveBeen_124 : decode cX7_couldHaveBeen 124 = .ok (.goto (-40), 3) := by decide +kernel
theorem dX7_couldHaveBeen_127 : decode cX7_couldHaveBeen 127 = .ok (.iconst 1, 1) := by decide +kernel
theorem dX7_couldHaveBeen_128 : decode cX7_couldHaveBeen 128 = .ok (.ireturn, 1) := by decide +kernel
theorem dX8_init_0 : decode cX8_init 0 = .ok (.aload_n 0, 1) := by decide +kernel
theorem dX8_init_1 : decode cX8_init 1 = .ok (.invokespecial 3, 3) := by decide +kernel
theorem dX8_init_4 : decode cX8_init 4 = .ok (.aload_n 0, 1) := by decide +kernel
theorem dX8_init_5 : decode cX8_init 5 = .ok (.iconst 5, 1) := by decide +kernel
theorem dX8_init_6 : decode cX8_init 6 = .ok (.newarray .int, 2) := by decide +kernel
theorem dX8_init_8 : decode cX8_init 8 = .ok (.putfield 9, 3) := by decide +kernel
theorem dX8_init_11 : decode cX8_init 11 = .ok (.aload_n 0, 1) := by decide +kernel
theorem dX8_init_12 : decode cX8_init 12 = .ok (.iconst 5, 1) := by decide +kernel
theorem dX8_init_13 : decode cX8_init 13 = .ok (.newarray .int, 2) := by decide +kernel
theorem dX8_init_15 : decode cX8_init 15 = .ok (.putfield 15, 3) := by decide +kernel
theorem dX8_init_18 : decode cX8_init 18 = .ok (.aload_n 0, 1) := by decide +kernel
theorem dX8_init_19 : decode cX8_init 19 = .ok (.bipush 6, 2) := by decide +kernel
theorem dX8_init_21 : decode cX8_init 21 = .ok (.bipush 25, 2) := by decide +kernel
theorem dX8_init_23 : decode cX8_init 23 = .ok (.multianewarray 18 2, 4) := by decide +kernel
theorem dX8_init_27 : decode cX8_init 27 = .ok (.putfield 20, 3) := by decide +kernel
theorem dX8_init_30 : decode cX8_init 30 = .ok (.aload_n 0, 1) := by decide +kernel
theorem dX8_init_31 : decode cX8_init 31 = .ok (.bipush 6, 2) := by decide +kernel
theorem dX8_init_33 : decode cX8_init 33 = .ok (.bipush 25, 2) := by decide +kernel
theorem dX8_init_35 : decode cX8_init 35 = .ok (.multianewarray 18 2, 4) := by decide +kernel
theorem dX8_init_39 : decode cX8_init 39 = .ok (.putfield 23, 3) := by decide +kernel
theorem dX8_init_42 : decode cX8_init 42 = .ok (.aload_n 0, 1) := by decide +kernel
theorem dX8_init_43 : decode cX8_init 43 = .ok (.bipush 6, 2) := by decide +kernel
theorem dX8_init_45 : decode cX8_init 45 = .ok (.bipush 25, 2) := by decide +kernel
theorem dX8_init_47 : decode cX8_init 47 = .ok (.multianewarray 18 2, 4) := by decide +kernel
theorem dX8_init_51 : decode cX8_init 51 = .ok (.putfield 26, 3) := by decide +kernel
theorem dX8_init_54 : decode cX8_init 54 = .ok (.return_, 1) := by decide +kernel
theorem dX8_seek_0 : decode cX8_seek 0 = .ok (.aload_n 0, 1) := by decide +kernel
theorem dX8_seek_1 : decode cX8_seek 1 = .ok (.iload_n 2, 1) := by decide +kernel
theorem dX8_seek_2 : decode cX8_seek 2 = .ok (.putfield 29, 3) := by decide +kernel
theorem dX8_seek_5 : decode cX8_seek 5 = .ok (.aload_n 0, 1) := by decide +kernel
theorem dX8_seek_6 : decode cX8_seek 6 = .ok (.iload_n 3, 1) := by decide +kernel
theorem dX8_seek_7 : decode cX8_seek 7 = .ok (.iconst 5, 1) := by decide +kernel
theorem dX8_seek_8 : decode cX8_seek 8 = .ok (.invokestatic 33, 3) := by decide +kernel
theorem dX8_seek_11 : decode cX8_seek 11 = .ok (.putfield 39, 3) := by decide +kernel
theorem dX8_seek_14 : decode cX8_seek 14 = .ok (.aload_n 0, 1) := by decide +kernel
theorem dX8_seek_15 : decode cX8_seek 15 = .ok (.bipush 26, 2) := by decide +kernel
theorem dX8_seek_17 : decode cX8_seek 17 = .ok (.putfield 42, 3) := by decide +kernel
theorem dX8_seek_20 : decode cX8_seek 20 = .ok (.aload_n 0, 1) := by decide +kernel
theorem dX8_seek_21 : decode cX8_seek 21 = .ok (.iconst 0, 1) := by decide +kernel
theorem dX8_seek_22 : decode cX8_seek 22 = .ok (.putfield 45, 3) := by decide +kernel
theorem dX8_seek_25 : decode cX8_seek 25 = .ok (.aload_n 1, 1) := by decide +kernel
theorem dX8_seek_26 : decode cX8_seek 26 = .ok (.getfield 48, 3) := by decide +kernel
theorem dX8_seek_29 : decode cX8_seek 29 = .ok (.iconst 0, 1) := by decide +kernel
theorem dX8_seek_30 : decode cX8_seek 30 = .ok (.aload_n 0, 1) := by decide +kernel
theorem dX8_seek_31 : decode cX8_seek 31 = .ok (.getfield 20, 3) := by decide +kernel
theorem dX8_seek_34 : decode cX8_seek 34 = .ok (.iconst 0, 1) := by decide +kernel
theorem dX8_seek_35 : decode cX8_seek 35 = .ok (.aaload, 1) := by decide +kernel
theorem dX8_seek_36 : decode cX8_seek 36 = .ok (.iconst 0, 1) := by decide +kernel
theorem dX8_seek_37 : decode cX8_seek 37 = .ok (.bipush 25, 2) := by decide +kernel
theorem dX8_seek_39 : decode cX8_seek 39 = .ok (.invokestatic 52, 3) := by decide +kernel
theorem dX8_seek_42 : decode cX8_seek 42 = .ok (.aload_n 1, 1) := by decide +kernel
theorem dX8_seek_43 : decode cX8_seek 43 = .ok (.getfield 58, 3) := by decide +kernel
theorem dX8_seek_46 : decode cX8_seek 46 = .ok (.iconst 0, 1) := by decide +kernel
theorem dX8_seek_47 : decode cX8_seek 47 = .ok (.aload_n 0, 1) := by decide +kernel
theorem dX8_seek_48 : decode cX8_seek 48 = .ok (.getfield 23, 3) := by decide +kernel
theorem dX8_seek_51 : decode cX8_seek 51 = .ok (.iconst 0, 1) := by decide +kernel
theorem dX8_seek_52 : decode cX8_seek 52 = .ok (.aaload, 1) := by decide +kernel
theorem dX8_seek_53 : decode cX8_seek 53 = .ok (.iconst 0, 1) := by decide +kernel
theorem dX8_seek_54 : decode cX8_seek 54 = .ok (.bipush 25, 2) := by decide +kernel
theorem dX8_seek_56 : decode cX8_seek 56 = .ok (.invokestatic 52, 3) := by decide +kernel
theorem dX8_seek_59 : decode cX8_seek 59 = .ok (.aload_n 0, 1) := by decide +kernel
theorem dX8_seek_60 : decode cX8_seek 60 = .ok (.aload_n 1, 1) := by decide +kernel
theorem dX8_seek_61 : decode cX8_seek 61 = .ok (.iconst 0, 1) := by decide +kernel
theorem dX8_seek_62 : decode cX8_seek 62 = .ok (.aload_n 1, 1) := by decide +kernel
theorem dX8_seek_63 : decode cX8_seek 63 = .ok (.getfield 60, 3) := by decide +kernel
theorem dX8_seek_66 : decode cX8_seek 66 = .ok (.iconst 0, 1) := by decide +kernel
theorem dX8_seek_67 : decode cX8_seek 67 = .ok (.invokevirtual 63, 3) := by decide +kernel
theorem dX8_seek_70 : decode cX8_seek 70 = .ok (.return_, 1) := by decide +kernel
theorem dX8_tryStep_0 : decode cX8_tryStep 0 = .ok (.iload_n 2, 1) := by decide +kernel
theorem dX8_tryStep_1 : decode cX8_tryStep 1 = .ok (.aload_n 0, 1) := by decide +kernel
theorem dX8_tryStep_2 : decode cX8_tryStep 2 = .ok (.getfield 39, 3) := by decide +kernel
theorem dX8_tryStep_5 : decode cX8_tryStep 5 = .ok (.if_icmp .lt 11, 3) := by decide +kernel
theorem dX8_tryStep_8 : decode cX8_tryStep 8 = .ok (.aload_n 0, 1) := by decide +kernel
theorem dX8_tryStep_9 : decode cX8_tryStep 9 = .ok (.aload_n 1, 1) := by decide +kernel
theorem dX8_tryStep_10 : decode cX8_tryStep 10 = .ok (.iload 4, 2) := by decide +kernel
theorem dX8_tryStep_12 : decode cX8_tryStep 12 = .ok (.invokevirtual 67, 3) := by decide +kernel
theorem dX8_tryStep_15 : decode cX8_tryStep 15 = .ok (.return_, 1) := by decide +kernel
theorem dX8_tryStep_16 : decode cX8_tryStep 16 = .ok (.aload_n 1, 1) := by decide +kernel
theorem dX8_tryStep_17 : decode cX8_tryStep 17 = .ok (.aload_n 0, 1) := by decide +kernel
theorem dX8_tryStep_18 : decode cX8_tryStep 18 = .ok (.getfield 20, 3) := by decide +kernel
theorem dX8_tryStep_21 : decode cX8_tryStep 21 = .ok (.iload_n 2, 1) := by decide +kernel
theorem dX8_tryStep_22 : decode cX8_tryStep 22 = .ok (.aaload, 1) := by decide +kernel
theorem dX8_tryStep_23 : decode cX8_tryStep 23 = .ok (.aload_n 0, 1) := by decide +kernel
theorem dX8_tryStep_24 : decode cX8_tryStep 24 = .ok (.getfield 23, 3) := by decide +kernel
theorem dX8_tryStep_27 : decode cX8_tryStep 27 = .ok (.iload_n 2, 1) := by decide +kernel
theorem dX8_tryStep_28 : decode cX8_tryStep 28 = .ok (.aaload, 1) := by decide +kernel
theorem dX8_tryStep_29 : decode cX8_tryStep 29 = .ok (.aload_n 0, 1) := by decide +kernel
theorem dX8_tryStep_30 : decode cX8_tryStep 30 = .ok (.getfield 26, 3) := by decide +kernel
theorem dX8_tryStep_33 : decode cX8_tryStep 33 = .ok (.iload_n 2, 1) := by decide +kernel
theorem dX8_tryStep_34 : decode cX8_tryStep 34 = .ok (.aaload, 1) := by decide +kernel
theorem dX8_tryStep_35 : decode cX8_tryStep 35 = .ok (.invokevirtual 71, 3) := by decide +kernel
theorem dX8_tryStep_38 : decode cX8_tryStep 38 = .ok (.pop, 1) := by decide +kernel
theorem dX8_tryStep_39 : decode cX8_tryStep 39 = .ok (.iconst 0, 1) := by decide +kernel
theorem dX8_tryStep_40 : decode cX8_tryStep 40 = .ok (.istore 5, 2) := by decide +kernel
theorem dX8_tryStep_42 : decode cX8_tryStep 42 = .ok (.iload 5, 2) := by decide +kernel
theorem dX8_tryStep_44 : decode cX8_tryStep 44 = .ok (.iconst 4, 1) := by decide +kernel
theorem dX8_tryStep_45 : decode cX8_tryStep 45 = .ok (.if_icmp .gt 65, 3) := by decide +kernel
theorem dX8_tryStep_48 : decode cX8_tryStep 48 = .ok (.aload_n 1, 1) := by decide +kernel
theorem dX8_tryStep_49 : decode cX8_tryStep 49 = .ok (.iload_n 3, 1) := by decide +kernel
theorem dX8_tryStep_50 : decode cX8_tryStep 50 = .ok (.iload 5, 2) := by decide +kernel
theorem dX8_tryStep_52 : decode cX8_tryStep 52 = .ok (.invokevirtual 75, 3) := by decide +kernel
theorem dX8_tryStep_55 : decode cX8_tryStep 55 = .ok (.istore 6, 2) := by decide +kernel
theorem dX8_tryStep_57 : decode cX8_tryStep 57 = .ok (.iload 6, 2) := by decide +kernel
theorem dX8_tryStep_59 : decode cX8_tryStep 59 = .ok (.iconst (-1), 1) := by decide +kernel
theorem dX8_tryStep_60 : decode cX8_tryStep 60 = .ok (.if_icmp .eq 44, 3) := by decide +kernel
theorem dX8_tryStep_63 : decode cX8_tryStep 63 = .ok (.aload_n 0, 1) := by decide +kernel
theorem dX8_tryStep_64 : decode cX8_tryStep 64 = .ok (.getfield 15, 3) := by decide +kernel
theorem dX8_tryStep_67 : decode cX8_tryStep 67 = .ok (.iload_n 2, 1) := by decide +kernel
theorem dX8_tryStep_68 : decode cX8_tryStep 68 = .ok (.iload 5, 2) := by decide +kernel
theorem dX8_tryStep_70 : decode cX8_tryStep 70 = .ok (.iastore, 1) := by decide +kernel
theorem dX8_tryStep_71 : decode cX8_tryStep 71 = .ok (.aload_n 0, 1) := by decide +kernel
theorem dX8_tryStep_72 : decode cX8_tryStep 72 = .ok (.aload_n 1, 1) := by decide +kernel
theorem dX8_tryStep_73 : decode cX8_tryStep 73 = .ok (.iload_n 2, 1) := by decide +kernel
theorem dX8_tryStep_74 : decode cX8_tryStep 74 = .ok (.iload 6, 2) := by decide +kernel
theorem dX8_tryStep_76 : decode cX8_tryStep 76 = .ok (.invokevirtual 78, 3) := by decide +kernel
theorem dX8_tryStep_79 : decode cX8_tryStep 79 = .ok (.aload_n 0, 1) := by decide +kernel
theorem dX8_tryStep_80 : decode cX8_tryStep 80 = .ok (.aload_n 1, 1) := by decide +kernel
theorem dX8_tryStep_81 : decode cX8_tryStep 81 = .ok (.iload_n 2, 1) := by decide +kernel
theorem dX8_tryStep_82 : decode cX8_tryStep 82 = .ok (.iconst 1, 1) := by decide +kernel
theorem dX8_tryStep_83 : decode cX8_tryStep 83 = .ok (.iadd, 1) := by decide +kernel
theorem dX8_tryStep_84 : decode cX8_tryStep 84 = .ok (.iload 6, 2) := by decide +kernel
theorem dX8_tryStep_86 : decode cX8_tryStep 86 = .ok (.iload 5, 2) := by decide +kernel
theorem dX8_tryStep_88 : decode cX8_tryStep 88 = .ok (.iconst 4, 1) := by decide +kernel
theorem dX8_tryStep_89 : decode cX8_tryStep 89 = .ok (.if_icmp .ne 10, 3) := by decide +kernel
theorem dX8_tryStep_92 : decode cX8_tryStep 92 = .ok (.iload 4, 2) := by decide +kernel
theorem dX8_tryStep_94 : decode cX8_tryStep 94 = .ok (.iconst 1, 1) := by decide +kernel
theorem dX8_tryStep_95 : decode cX8_tryStep 95 = .ok (.iadd, 1) := by decide +kernel
theorem dX8_tryStep_96 : decode cX8_tryStep 96 = .ok (.goto 5, 3) := by decide +kernel
theorem dX8_tryStep_99 : decode cX8_tryStep 99 = .ok (.iload 4, 2) := by decide +kernel
theorem dX8_tryStep_101 : decode cX8_tryStep 101 = .ok (.invokevirtual 63, 3) := by decide +kernel
theorem dX8_tryStep_104 : decode cX8_tryStep 104 = .ok (.iinc 5 1, 3) := by decide +kernel
theorem dX8_tryStep_107 : decode cX8_tryStep 107 = .ok (.goto (-65), 3) := by decide +kernel
theorem dX8_tryStep_110 : decode cX8_tryStep 110 = .ok (.return_, 1) := by decide +kernel
theorem dX8_tapAndPass_0 : decode cX8_tapAndPass 0 = .ok (.aload_n 0, 1) := by decide +kernel
theorem dX8_tapAndPass_1 : decode cX8_tapAndPass 1 = .ok (.getfield 20, 3) := by decide +kernel
theorem dX8_tapAndPass_4 : decode cX8_tapAndPass 4 = .ok (.iload_n 2, 1) := by decide +kernel
theorem dX8_tapAndPass_5 : decode cX8_tapAndPass 5 = .ok (.iconst 1, 1) := by decide +kernel
theorem dX8_tapAndPass_6 : decode cX8_tapAndPass 6 = .ok (.iadd, 1) := by decide +kernel
theorem dX8_tapAndPass_7 : decode cX8_tapAndPass 7 = .ok (.aaload, 1) := by decide +kernel
theorem dX8_tapAndPass_8 : decode cX8_tapAndPass 8 = .ok (.astore 4, 2) := by decide +kernel
theorem dX8_tapAndPass_10 : decode cX8_tapAndPass 10 = .ok (.aload_n 0, 1) := by decide +kernel
theorem dX8_tapAndPass_11 : decode cX8_tapAndPass 11 = .ok (.getfield 23, 3) := by decide +kernel
theorem dX8_tapAndPass_14 : decode cX8_tapAndPass 14 = .ok (.iload_n 2, 1) := by decide +kernel
theorem dX8_tapAndPass_15 : decode cX8_tapAndPass 15 = .ok (.iconst 1, 1) := by decide +kernel
theorem dX8_tapAndPass_16 : decode cX8_tapAndPass 16 = .ok (.iadd, 1) := by decide +kernel
theorem dX8_tapAndPass_17 : decode cX8_tapAndPass 17 = .ok (.aaload, 1) := by decide +kernel
theorem dX8_tapAndPass_18 : decode cX8_tapAndPass 18 = .ok (.astore 5, 2) := by decide +kernel
theorem dX8_tapAndPass_20 : decode cX8_tapAndPass 20 = .ok (.aload_n 0, 1) := by decide +kernel
theorem dX8_tapAndPass_21 : decode cX8_tapAndPass 21 = .ok (.getfield 26, 3) := by decide +kernel
theorem dX8_tapAndPass_24 : decode cX8_tapAndPass 24 = .ok (.iload_n 2, 1) := by decide +kernel
theorem dX8_tapAndPass_25 : decode cX8_tapAndPass 25 = .ok (.aaload, 1) := by decide +kernel
theorem dX8_tapAndPass_26 : decode cX8_tapAndPass 26 = .ok (.iconst 0, 1) := by decide +kernel
theorem dX8_tapAndPass_27 : decode cX8_tapAndPass 27 = .ok (.aload 4, 2) := by decide +kernel
theorem dX8_tapAndPass_29 : decode cX8_tapAndPass 29 = .ok (.iconst 0, 1) := by decide +kernel
theorem dX8_tapAndPass_30 : decode cX8_tapAndPass 30 = .ok (.bipush 25, 2) := by decide +kernel
theorem dX8_tapAndPass_32 : decode cX8_tapAndPass 32 = .ok (.invokestatic 52, 3) := by decide +kernel
theorem dX8_tapAndPass_35 : decode cX8_tapAndPass 35 = .ok (.aload 4, 2) := by decide +kernel
theorem dX8_tapAndPass_37 : decode cX8_tapAndPass 37 = .ok (.iload_n 3, 1) := by decide +kernel
theorem dX8_tapAndPass_38 : decode cX8_tapAndPass 38 = .ok (.aload_n 0, 1) := by decide +kernel
theorem dX8_tapAndPass_39 : decode cX8_tapAndPass 39 = .ok (.getfield 20, 3) := by decide +kernel
theorem dX8_tapAndPass_42 : decode cX8_tapAndPass 42 = .ok (.iload_n 2, 1) := by decide +kernel
theorem dX8_tapAndPass_43 : decode cX8_tapAndPass 43 = .ok (.aaload, 1) := by decide +kernel
theorem dX8_tapAndPass_44 : decode cX8_tapAndPass 44 = .ok (.iload_n 3, 1) := by decide +kernel
theorem dX8_tapAndPass_45 : decode cX8_tapAndPass 45 = .ok (.iaload, 1) := by decide +kernel
theorem dX8_tapAndPass_46 : decode cX8_tapAndPass 46 = .ok (.iastore, 1) := by decide +kernel
theorem dX8_tapAndPass_47 : decode cX8_tapAndPass 47 = .ok (.iconst 0, 1) := by decide +kernel
theorem dX8_tapAndPass_48 : decode cX8_tapAndPass 48 = .ok (.istore 6, 2) := by decide +kernel
theorem dX8_tapAndPass_50 : decode cX8_tapAndPass 50 = .ok (.iload 6, 2) := by decide +kernel
theorem dX8_tapAndPass_52 : decode cX8_tapAndPass 52 = .ok (.aload_n 1, 1) := by decide +kernel
theorem dX8_tapAndPass_53 : decode cX8_tapAndPass 53 = .ok (.invokevirtual 82, 3) := by decide +kernel
theorem dX8_tapAndPass_56 : decode cX8_tapAndPass 56 = .ok (.if_icmp .ge 29, 3) := by decide +kernel
theorem dX8_tapAndPass_59 : decode cX8_tapAndPass 59 = .ok (.aload 5, 2) := by decide +kernel
theorem dX8_tapAndPass_61 : decode cX8_tapAndPass 61 = .ok (.iload 6, 2) := by decide +kernel
theorem dX8_tapAndPass_63 : decode cX8_tapAndPass 63 = .ok (.aload_n 0, 1) := by decide +kernel
theorem dX8_tapAndPass_64 : decode cX8_tapAndPass 64 = .ok (.getfield 23, 3) := by decide +kernel
theorem dX8_tapAndPass_67 : decode cX8_tapAndPass 67 = .ok (.iload_n 2, 1) := by decide +kernel
theorem dX8_tapAndPass_68 : decode cX8_tapAndPass 68 = .ok (.aaload, 1) := by decide +kernel
theorem dX8_tapAndPass_69 : decode cX8_tapAndPass 69 = .ok (.iload 6, 2) := by decide +kernel
theorem dX8_tapAndPass_71 : decode cX8_tapAndPass 71 = .ok (.iaload, 1) := by decide +kernel
theorem dX8_tapAndPass_72 : decode cX8_tapAndPass 72 = .ok (.iconst 1, 1) := by decide +kernel
theorem dX8_tapAndPass_73 : decode cX8_tapAndPass 73 = .ok (.isub, 1) := by decide +kernel
theorem dX8_tapAndPass_74 : decode cX8_tapAndPass 74 = .ok (.iconst 0, 1) := by decide +kernel
theorem dX8_tapAndPass_75 : decode cX8_tapAndPass 75 = .ok (.invokestatic 86, 3) := by decide +kernel
theorem dX8_tapAndPass_78 : decode cX8_tapAndPass 78 = .ok (.iastore, 1) := by decide +kernel
theorem dX8_tapAndPass_79 : decode cX8_tapAndPass 79 = .ok (.iinc 6 1, 3) := by decide +kernel
theorem dX8_tapAndPass_82 : decode cX8_tapAndPass 82 = .ok (.goto (-32), 3) := by decide +kernel
theorem dX8_tapAndPass_85 : decode cX8_tapAndPass 85 = .ok (.aload 5, 2) := by decide +kernel
theorem dX8_tapAndPass_87 : decode cX8_tapAndPass 87 = .ok (.iload_n 3, 1) := by decide +kernel
theorem dX8_tapAndPass_88 : decode cX8_tapAndPass 88 = .ok (.aload_n 1, 1) := by decide +kernel
theorem dX8_tapAndPass_89 : decode cX8_tapAndPass 89 = .ok (.getfield 89, 3) := by decide +kernel
theorem dX8_tapAndPass_92 : decode cX8_tapAndPass 92 = .ok (.iconst 1, 1) := by decide +kernel
theorem dX8_tapAndPass_93 : decode cX8_tapAndPass 93 = .ok (.isub, 1) := by decide +kernel
theorem dX8_tapAndPass_94 : decode cX8_tapAndPass 94 = .ok (.iastore, 1) := by decide +kernel
theorem dX8_tapAndPass_95 : decode cX8_tapAndPass 95 = .ok (.return_, 1) := by decide +kernel
theorem dX8_weigh_0 : decode cX8_weigh 0 = .ok (.iconst 0, 1) := by decide +kernel
theorem dX8_weigh_1 : decode cX8_weigh 1 = .ok (.istore_n 3, 1) := by decide +kernel
theorem dX8_weigh_2 : decode cX8_weigh 2 = .ok (.iconst 0, 1) := by decide +kernel
theorem dX8_weigh_3 : decode cX8_weigh 3 = .ok (.istore 4, 2) := by decide +kernel
theorem dX8_weigh_5 : decode cX8_weigh 5 = .ok (.iload 4, 2) := by decide +kernel
theorem dX8_weigh_7 : decode cX8_weigh 7 = .ok (.aload_n 1, 1) := by decide +kernel
theorem dX8_weigh_8 : decode cX8_weigh 8 = .ok (.invokevirtual 82, 3) := by decide +kernel
theorem dX8_weigh_11 : decode cX8_weigh 11 = .ok (.if_icmp .ge 46, 3) := by decide +kernel
theorem dX8_weigh_14 : decode cX8_weigh 14 = .ok (.aload_n 0, 1) := by decide +kernel
theorem dX8_weigh_15 : decode cX8_weigh 15 = .ok (.getfield 29, 3) := by decide +kernel
theorem dX8_weigh_18 : decode cX8_weigh 18 = .ok (.iload 4, 2) := by decide +kernel
theorem dX8_weigh_20 : decode cX8_weigh 20 = .ok (.ishr, 1) := by decide +kernel
theorem dX8_weigh_21 : decode cX8_weigh 21 = .ok (.iconst 1, 1) := by decide +kernel
theorem dX8_weigh_22 : decode cX8_weigh 22 = .ok (.iand, 1) := by decide +kernel
theorem dX8_weigh_23 : decode cX8_weigh 23 = .ok (.ifCond .eq 28, 3) := by decide +kernel
theorem dX8_weigh_26 : decode cX8_weigh 26 = .ok (.aload_n 0, 1) := by decide +kernel
theorem dX8_weigh_27 : decode cX8_weigh 27 = .ok (.getfield 20, 3) := by decide +kernel
theorem dX8_weigh_30 : decode cX8_weigh 30 = .ok (.aload_n 0, 1) := by decide +kernel
theorem dX8_weigh_31 : decode cX8_weigh 31 = .ok (.getfield 39, 3) := by decide +kernel
theorem dX8_weigh_34 : decode cX8_weigh 34 = .ok (.aaload, 1) := by decide +kernel
theorem dX8_weigh_35 : decode cX8_weigh 35 = .ok (.iload 4, 2) := by decide +kernel
theorem dX8_weigh_37 : decode cX8_weigh 37 = .ok (.iaload, 1) := by decide +kernel
theorem dX8_weigh_38 : decode cX8_weigh 38 = .ok (.aload_n 1, 1) := by decide +kernel
theorem dX8_weigh_39 : decode cX8_weigh 39 = .ok (.getfield 92, 3) := by decide +kernel
theorem dX8_weigh_42 : decode cX8_weigh 42 = .ok (.iload 4, 2) := by decide +kernel
theorem dX8_weigh_44 : decode cX8_weigh 44 = .ok (.iaload, 1) := by decide +kernel
theorem dX8_weigh_45 : decode cX8_weigh 45 = .ok (.if_icmp .eq 6, 3) := by decide +kernel
theorem dX8_weigh_48 : decode cX8_weigh 48 = .ok (.iinc 3 1, 3) := by decide +kernel
theorem dX8_weigh_51 : decode cX8_weigh 51 = .ok (.iinc 4 1, 3) := by decide +kernel
theorem dX8_weigh_54 : decode cX8_weigh 54 = .ok (.goto (-49), 3) := by decide +kernel
theorem dX8_weigh_57 : decode cX8_weigh 57 = .ok (.iload_n 3, 1) := by decide +kernel
theorem dX8_weigh_58 : decode cX8_weigh 58 = .ok (.aload_n 0, 1) := by decide +kernel
theorem dX8_weigh_59 : decode cX8_weigh 59 = .ok (.getfield 42, 3) := by decide +kernel
theorem dX8_weigh_62 : decode cX8_weigh 62 = .ok (.if_icmp .lt 19, 3) := by decide +kernel
theorem dX8_weigh_65 : decode cX8_weigh 65 = .ok (.iload_n 3, 1) := by decide +kernel
theorem dX8_weigh_66 : decode cX8_weigh 66 = .ok (.aload_n 0, 1) := by decide +kernel
theorem dX8_weigh_67 : decode cX8_weigh 67 = .ok (.getfield 42, 3) := by decide +kernel
theorem dX8_weigh_70 : decode cX8_weigh 70 = .ok (.if_icmp .ne 38, 3) := by decide +kernel
theorem dX8_weigh_73 : decode cX8_weigh 73 = .ok (.iload_n 2, 1) := by decide +kernel
theorem dX8_weigh_74 : decode cX8_weigh 74 = .ok (.aload_n 0, 1) := by decide +kernel
theorem dX8_weigh_75 : decode cX8_weigh 75 = .ok (.getfield 45, 3) := by decide +kernel
theorem dX8_weigh_78 : decode cX8_weigh 78 = .ok (.if_icmp .le 30, 3) := by decide +kernel
theorem dX8_weigh_81 : decode cX8_weigh 81 = .ok (.aload_n 0, 1) := by decide +kernel
theorem dX8_weigh_82 : decode cX8_weigh 82 = .ok (.iload_n 3, 1) := by decide +kernel
theorem dX8_weigh_83 : decode cX8_weigh 83 = .ok (.putfield 42, 3) := by decide +kernel
theorem dX8_weigh_86 : decode cX8_weigh 86 = .ok (.aload_n 0, 1) := by decide +kernel
theorem dX8_weigh_87 : decode cX8_weigh 87 = .ok (.iload_n 2, 1) := by decide +kernel
theorem dX8_weigh_88 : decode cX8_weigh 88 = .ok (.putfield 45, 3) := by decide +kernel
theorem dX8_weigh_91 : decode cX8_weigh 91 = .ok (.aload_n 0, 1) := by decide +kernel
theorem dX8_weigh_92 : decode cX8_weigh 92 = .ok (.getfield 15, 3) := by decide +kernel
theorem dX8_weigh_95 : decode cX8_weigh 95 = .ok (.iconst 0, 1) := by decide +kernel
theorem dX8_weigh_96 : decode cX8_weigh 96 = .ok (.aload_n 0, 1) := by decide +kernel
theorem dX8_weigh_97 : decode cX8_weigh 97 = .ok (.getfield 9, 3) := by decide +kernel
theorem dX8_weigh_100 : decode cX8_weigh 100 = .ok (.iconst 0, 1) := by decide +kernel
theorem dX8_weigh_101 : decode cX8_weigh 101 = .ok (.aload_n 0, 1) := by decide +kernel
theorem dX8_weigh_102 : decode cX8_weigh 102 = .ok (.getfield 39, 3) := by decide +kernel
theorem dX8_weigh_105 : decode cX8_weigh 105 = .ok (.invokestatic 52, 3) := by decide +kernel
theorem dX8_weigh_108 : decode cX8_weigh 108 = .ok (.return_, 1) := by decide +kernel
theorem dX9_init_0 : decode cX9_init 0 = .ok (.aload_n 0, 1) := by decide +kernel
theorem dX9_init_1 : decode cX9_init 1 = .ok (.invokespecial 3, 3) := by decide +kernel
theorem dX9_init_4 : decode cX9_init 4 = .ok (.aload_n 0, 1) := by decide +kernel
theorem dX9_init_5 : decode cX9_init 5 = .ok (.sipush 900, 3) := by decide +kernel
theorem dX9_init_8 : decode cX9_init 8 = .ok (.newarray .byte, 2) := by decide +kernel
theorem dX9_init_10 : decode cX9_init 10 = .ok (.putfield 11, 3) := by decide +kernel
theorem dX9_init_13 : decode cX9_init 13 = .ok (.aload_n 0, 1) := by decide +kernel
theorem dX9_init_14 : decode cX9_init 14 = .ok (.iconst (-1), 1) := by decide +kernel
theorem dX9_init_15 : decode cX9_init 15 = .ok (.putfield 15, 3) := by decide +kernel
theorem dX9_init_18 : decode cX9_init 18 = .ok (.aload_n 0, 1) := by decide +kernel
theorem dX9_init_19 : decode cX9_init 19 = .ok (.iconst (-1), 1) := by decide +kernel
theorem dX9_init_20 : decode cX9_init 20 = .ok (.putfield 19, 3) := by decide +kernel
theorem dX9_init_23 : decode cX9_init 23 = .ok (.aload_n 0, 1) := by decide +kernel
theorem dX9_init_24 : decode cX9_init 24 = .ok (.bipush 28, 2) := by decide +kernel
theorem dX9_init_26 : decode cX9_init 26 = .ok (.newarray .long, 2) := by decide +kernel
theorem dX9_init_28 : decode cX9_init 28 = .ok (.putfield 22, 3) := by decide +kernel
theorem dX9_init_31 : decode cX9_init 31 = .ok (.iconst 0, 1) := by decide +kernel
theorem dX9_init_32 : decode cX9_init 32 = .ok (.istore_n 1, 1) := by decide +kernel
theorem dX9_init_33 : decode cX9_init 33 = .ok (.iconst 0, 1) := by decide +kernel
theorem dX9_init_34 : decode cX9_init 34 = .ok (.istore_n 2, 1) := by decide +kernel
theorem dX9_init_35 : decode cX9_init 35 = .ok (.iload_n 2, 1) := by decide +kernel
theorem dX9_init_36 : decode cX9_init 36 = .ok (.ldc 26, 2) := by decide +kernel
theorem dX9_init_38 : decode cX9_init 38 = .ok (.invokevirtual 28, 3) := by decide +kernel
theorem dX9_init_41 : decode cX9_init 41 = .ok (.if_icmp .ge 57, 3) := by decide +kernel
theorem dX9_init_44 : decode cX9_init 44 = .ok (.ldc 26, 2) := by decide +kernel
theorem dX9_init_46 : decode cX9_init 46 = .ok (.iload_n 2, 1) := by decide +kernel
theorem dX9_init_47 : decode cX9_init 47 = .ok (.invokevirtual 34, 3) := by decide +kernel
theorem dX9_init_50 : decode cX9_init 50 = .ok (.istore_n 3, 1) := by decide +kernel
theorem dX9_init_51 : decode cX9_init 51 = .ok (.iload_n 3, 1) := by decide +kernel
theorem dX9_init_52 : decode cX9_init 52 = .ok (.bipush 32, 2) := by decide +kernel
theorem dX9_init_54 : decode cX9_init 54 = .ok (.if_icmp .ne 9, 3) := by decide +kernel
theorem dX9_init_57 : decode cX9_init 57 = .ok (.iinc 1 1, 3) := by decide +kernel
theorem dX9_init_60 : decode cX9_init 60 = .ok (.goto 32, 3) := by decide +kernel
theorem dX9_init_63 : decode cX9_init 63 = .ok (.iload_n 1, 1) := by decide +kernel
theorem dX9_init_64 : decode cX9_init 64 = .ok (.bipush 28, 2) := by decide +kernel
theorem dX9_init_66 : decode cX9_init 66 = .ok (.if_icmp .ge 26, 3) := by decide +kernel
theorem dX9_init_69 : decode cX9_init 69 = .ok (.aload_n 0, 1) := by decide +kernel
theorem dX9_init_70 : decode cX9_init 70 = .ok (.getfield 22, 3) := by decide +kernel
theorem dX9_init_73 : decode cX9_init 73 = .ok (.iload_n 1, 1) := by decide +kernel
theorem dX9_init_74 : decode cX9_init 74 = .ok (.aload_n 0, 1) := by decide +kernel
theorem dX9_init_75 : decode cX9_init 75 = .ok (.getfield 22, 3) := by decide +kernel
theorem dX9_init_78 : decode cX9_init 78 = .ok (.iload_n 1, 1) := by decide +kernel
theorem dX9_init_79 : decode cX9_init 79 = .ok (.laload, 1) := by decide +kernel
theorem dX9_init_80 : decode cX9_init 80 = .ok (.ldc2_w 38, 3) := by decide +kernel
theorem dX9_init_83 : decode cX9_init 83 = .ok (.lmul, 1) := by decide +kernel
theorem dX9_init_84 : decode cX9_init 84 = .ok (.iload_n 3, 1) := by decide +kernel
theorem dX9_init_85 : decode cX9_init 85 = .ok (.i2l, 1) := by decide +kernel
theorem dX9_init_86 : decode cX9_init 86 = .ok (.ladd, 1) := by decide +kernel
theorem dX9_init_87 : decode cX9_init 87 = .ok (.ldc2_w 40, 3) := by decide +kernel
theorem dX9_init_90 : decode cX9_init 90 = .ok (.lsub, 1) := by decide +kernel
theorem dX9_init_91 : decode cX9_init 91 = .ok (.lastore, 1) := by decide +kernel
theorem dX9_init_92 : decode cX9_init 92 = .ok (.iinc 2 1, 3) := by decide +kernel
theorem dX9_init_95 : decode cX9_init 95 = .ok (.goto (-60), 3) := by decide +kernel
theorem dX9_init_98 : decode cX9_init 98 = .ok (.return_, 1) := by decide +kernel
theorem dX9_append_0 : decode cX9_append 0 = .ok (.bipush 24, 2) := by decide +kernel
theorem dX9_append_2 : decode cX9_append 2 = .ok (.istore_n 2, 1) := by decide +kernel
theorem dX9_append_3 : decode cX9_append 3 = .ok (.iload_n 2, 1) := by decide +kernel
theorem dX9_append_4 : decode cX9_append 4 = .ok (.ifCond .lt 42, 3) := by decide +kernel
theorem dX9_append_7 : decode cX9_append 7 = .ok (.aload_n 0, 1) := by decide +kernel
theorem dX9_append_8 : decode cX9_append 8 = .ok (.getfield 42, 3) := by decide +kernel
theorem dX9_append_11 : decode cX9_append 11 = .ok (.sipush 900, 3) := by decide +kernel
theorem dX9_append_14 : decode cX9_append 14 = .ok (.if_icmp .ge 32, 3) := by decide +kernel
theorem dX9_append_17 : decode cX9_append 17 = .ok (.aload_n 0, 1) := by decide +kernel
theorem dX9_append_18 : decode cX9_append 18 = .ok (.getfield 11, 3) := by decide +kernel
theorem dX9_append_21 : decode cX9_append 21 = .ok (.aload_n 0, 1) := by decide +kernel
theorem dX9_append_22 : decode cX9_append 22 = .ok (.getfield 42, 3) := by decide +kernel
theorem dX9_append_25 : decode cX9_append 25 = .ok (.iload_n 1, 1) := by decide +kernel
theorem dX9_append_26 : decode cX9_append 26 = .ok (.iload_n 2, 1) := by decide +kernel
theorem dX9_append_27 : decode cX9_append 27 = .ok (.ishr, 1) := by decide +kernel
theorem dX9_append_28 : decode cX9_append 28 = .ok (.i2b, 1) := by decide +kernel
theorem dX9_append_29 : decode cX9_append 29 = .ok (.bastore, 1) := by decide +kernel
theorem dX9_append_30 : decode cX9_append 30 = .ok (.aload_n 0, 1) := by decide +kernel
theorem dX9_append_31 : decode cX9_append 31 = .ok (.dup, 1) := by decide +kernel
theorem dX9_append_32 : decode cX9_append 32 = .ok (.getfield 42, 3) := by decide +kernel
theorem dX9_append_35 : decode cX9_append 35 = .ok (.iconst 1, 1) := by decide +kernel
theorem dX9_append_36 : decode cX9_append 36 = .ok (.iadd, 1) := by decide +kernel
theorem dX9_append_37 : decode cX9_append 37 = .ok (.putfield 42, 3) := by decide +kernel
theorem dX9_append_40 : decode cX9_append 40 = .ok (.iinc 2 (-8), 3) := by decide +kernel
theorem dX9_append_43 : decode cX9_append 43 = .ok (.goto (-40), 3) := by decide +kernel
theorem dX9_append_46 : decode cX9_append 46 = .ok (.return_, 1) := by decide +kernel
theorem dX9_open_0 : decode cX9_open 0 = .ok (.aload_n 0, 1) := by decide +kernel
theorem dX9_open_1 : decode cX9_open 1 = .ok (.iload_n 1, 1) := by decide +kernel
theorem dX9_open_2 : decode cX9_open 2 = .ok (.aload_n 0, 1) := by decide +kernel
theorem dX9_open_3 : decode cX9_open 3 = .ok (.getfield 42, 3) := by decide +kernel
theorem dX9_open_6 : decode cX9_open 6 = .ok (.invokestatic 45, 3) := by decide +kernel
theorem dX9_open_9 : decode cX9_open 9 = .ok (.putfield 51, 3) := by decide +kernel
theorem dX9_open_12 : decode cX9_open 12 = .ok (.aload_n 0, 1) := by decide +kernel
theorem dX9_open_13 : decode cX9_open 13 = .ok (.iconst 0, 1) := by decide +kernel
theorem dX9_open_14 : decode cX9_open 14 = .ok (.putfield 42, 3) := by decide +kernel
theorem dX9_open_17 : decode cX9_open 17 = .ok (.aload_n 0, 1) := by decide +kernel
theorem dX9_open_18 : decode cX9_open 18 = .ok (.iconst 0, 1) := by decide +kernel
theorem dX9_open_19 : decode cX9_open 19 = .ok (.putfield 54, 3) := by decide +kernel
theorem dX9_open_22 : decode cX9_open 22 = .ok (.aload_n 0, 1) := by decide +kernel
theorem dX9_open_23 : decode cX9_open 23 = .ok (.iconst 0, 1) := by decide +kernel
theorem dX9_open_24 : decode cX9_open 24 = .ok (.putfield 15, 3) := by decide +kernel
theorem dX9_open_27 : decode cX9_open 27 = .ok (.aload_n 0, 1) := by decide +kernel
theorem dX9_open_28 : decode cX9_open 28 = .ok (.iconst (-1), 1) := by decide +kernel
theorem dX9_open_29 : decode cX9_open 29 = .ok (.putfield 19, 3) := by decide +kernel
theorem dX9_open_32 : decode cX9_open 32 = .ok (.aload_n 0, 1) := by decide +kernel
theorem dX9_open_33 : decode cX9_open 33 = .ok (.invokevirtual 57, 3) := by decide +kernel
theorem dX9_open_36 : decode cX9_open 36 = .ok (.return_, 1) := by decide +kernel
theorem dX9_advance_0 : decode cX9_advance 0 = .ok (.aload_n 0, 1) := by decide +kernel
theorem dX9_advance_1 : decode cX9_advance 1 = .ok (.getfield 54, 3) := by decide +kernel
theorem dX9_advance_4 : decode cX9_advance 4 = .ok (.aload_n 0, 1) := by decide +kernel
theorem dX9_advance_5 : decode cX9_advance 5 = .ok (.getfield 51, 3) := by decide +kernel
theorem dX9_advance_8 : decode cX9_advance 8 = .ok (.if_icmp .ge 44, 3) := by decide +kernel
theorem dX9_advance_11 : decode cX9_advance 11 = .ok (.aload_n 0, 1) := by decide +kernel
theorem dX9_advance_12 : decode cX9_advance 12 = .ok (.getfield 11, 3) := by decide +kernel
theorem dX9_advance_15 : decode cX9_advance 15 = .ok (.aload_n 0, 1) := by decide +kernel
theorem dX9_advance_16 : decode cX9_advance 16 = .ok (.getfield 54, 3) := by decide +kernel
theorem dX9_advance_19 : decode cX9_advance 19 = .ok (.baload, 1) := by decide +kernel
theorem dX9_advance_20 : decode cX9_advance 20 = .ok (.bipush 32, 2) := by decide +kernel
theorem dX9_advance_22 : decode cX9_advance 22 = .ok (.if_icmp .eq 17, 3) := by decide +kernel
theorem dX9_advance_25 : decode cX9_advance 25 = .ok (.aload_n 0, 1) := by decide +kernel
theorem dX9_advance_26 : decode cX9_advance 26 = .ok (.getfield 11, 3) := by decide +kernel
theorem dX9_advance_29 : decode cX9_advance 29 = .ok (.aload_n 0, 1) := by decide +kernel
theorem dX9_advance_30 : decode cX9_advance 30 = .ok (.getfield 54, 3) := by decide +kernel
theorem dX9_advance_33 : decode cX9_advance 33 = .ok (.baload, 1) := by decide +kernel
theorem dX9_advance_34 : decode cX9_advance 34 = .ok (.bipush 10, 2) := by decide +kernel
theorem dX9_advance_36 : decode cX9_advance 36 = .ok (.if_icmp .ne 16, 3) := by decide +kernel
theorem dX9_advance_39 : decode cX9_advance 39 = .ok (.aload_n 0, 1) := by decide +kernel
theorem dX9_advance_40 : decode cX9_advance 40 = .ok (.dup, 1) := by decide +kernel
theorem dX9_advance_41 : decode cX9_advance 41 = .ok (.getfield 54, 3) := by decide +kernel
theorem dX9_advance_44 : decode cX9_advance 44 = .ok (.iconst 1, 1) := by decide +kernel
theorem dX9_advance_45 : decode cX9_advance 45 = .ok (.iadd, 1) := by decide +kernel
theorem dX9_advance_46 : decode cX9_advance 46 = .ok (.putfield 54, 3) := by decide +kernel
theorem dX9_advance_49 : decode cX9_advance 49 = .ok (.goto (-49), 3) := by decide +kernel
theorem dX9_advance_52 : decode cX9_advance 52 = .ok (.aload_n 0, 1) := by decide +kernel
theorem dX9_advance_53 : decode cX9_advance 53 = .ok (.aload_n 0, 1) := by decide +kernel
theorem dX9_advance_54 : decode cX9_advance 54 = .ok (.getfield 54, 3) := by decide +kernel
theorem dX9_advance_57 : decode cX9_advance 57 = .ok (.putfield 60, 3) := by decide +kernel
theorem dX9_advance_60 : decode cX9_advance 60 = .ok (.aload_n 0, 1) := by decide +kernel
theorem dX9_advance_61 : decode cX9_advance 61 = .ok (.getfield 54, 3) := by decide +kernel
theorem dX9_advance_64 : decode cX9_advance 64 = .ok (.aload_n 0, 1) := by decide +kernel
theorem dX9_advance_65 : decode cX9_advance 65 = .ok (.getfield 51, 3) := by decide +kernel
theorem dX9_advance_68 : decode cX9_advance 68 = .ok (.if_icmp .lt 11, 3) := by decide +kernel
theorem dX9_advance_71 : decode cX9_advance 71 = .ok (.aload_n 0, 1) := by decide +kernel
theorem dX9_advance_72 : decode cX9_advance 72 = .ok (.iconst 0, 1) := by decide +kernel
theorem dX9_advance_73 : decode cX9_advance 73 = .ok (.putfield 63, 3) := by decide +kernel
theorem dX9_advance_76 : decode cX9_advance 76 = .ok (.goto 51, 3) := by decide +kernel
theorem dX9_advance_79 : decode cX9_advance 79 = .ok (.aload_n 0, 1) := by decide +kernel
theorem dX9_advance_80 : decode cX9_advance 80 = .ok (.getfield 11, 3) := by decide +kernel
theorem dX9_advance_83 : decode cX9_advance 83 = .ok (.aload_n 0, 1) := by decide +kernel
theorem dX9_advance_84 : decode cX9_advance 84 = .ok (.getfield 54, 3) := by decide +kernel
theorem dX9_advance_87 : decode cX9_advance 87 = .ok (.baload, 1) := by decide +kernel
theorem dX9_advance_88 : decode cX9_advance 88 = .ok (.invokestatic 66, 3) := by decide +kernel
theorem dX9_advance_91 : decode cX9_advance 91 = .ok (.ifCond .eq 10, 3) := by decide +kernel
theorem dX9_advance_94 : decode cX9_advance 94 = .ok (.aload_n 0, 1) := by decide +kernel
theorem dX9_advance_95 : decode cX9_advance 95 = .ok (.invokevirtual 70, 3) := by decide +kernel
theorem dX9_advance_98 : decode cX9_advance 98 = .ok (.goto 29, 3) := by decide +kernel
theorem dX9_advance_101 : decode cX9_advance 101 = .ok (.aload_n 0, 1) := by decide +kernel
theorem dX9_advance_102 : decode cX9_advance 102 = .ok (.getfield 11, 3) := by decide +kernel
theorem dX9_advance_105 : decode cX9_advance 105 = .ok (.aload_n 0, 1) := by decide +kernel
theorem dX9_advance_106 : decode cX9_advance 106 = .ok (.getfield 54, 3) := by decide +kernel
theorem dX9_advance_109 : decode cX9_advance 109 = .ok (.baload, 1) := by decide +kernel
theorem dX9_advance_110 : decode cX9_advance 110 = .ok (.invokestatic 73, 3) := by decide +kernel
theorem dX9_advance_113 : decode cX9_advance 113 = .ok (.ifCond .eq 10, 3) := by decide +kernel
theorem dX9_advance_116 : decode cX9_advance 116 = .ok (.aload_n 0, 1) := by decide +kernel
theorem dX9_advance_117 : decode cX9_advance 117 = .ok (.invokevirtual 76, 3) := by decide +kernel
theorem dX9_advance_120 : decode cX9_advance 120 = .ok (.goto 7, 3) := by decide +kernel
theorem dX9_advance_123 : decode cX9_advance 123 = .ok (.aload_n 0, 1) := by decide +kernel
theorem dX9_advance_124 : decode cX9_advance 124 = .ok (.invokevirtual 79, 3) := by decide +kernel
theorem dX9_advance_127 : decode cX9_advance 127 = .ok (.return_, 1) := by decide +kernel
theorem dX9_isLetter_0 : decode cX9_isLetter 0 = .ok (.iload_n 0, 1) := by decide +kernel
theorem dX9_isLetter_1 : decode cX9_isLetter 1 = .ok (.bipush 97, 2) := by decide +kernel
theorem dX9_isLetter_3 : decode cX9_isLetter 3 = .ok (.if_icmp .lt 13, 3) := by decide +kernel
theorem dX9_isLetter_6 : decode cX9_isLetter 6 = .ok (.iload_n 0, 1) := by decide +kernel
theorem dX9_isLetter_7 : decode cX9_isLetter 7 = .ok (.bipush 122, 2) := by decide +kernel
theorem dX9_isLetter_9 : decode cX9_isLetter 9 = .ok (.if_icmp .gt 7, 3) := by decide +kernel
theorem dX9_isLetter_12 : decode cX9_isLetter 12 = .ok (.iconst 1, 1) := by decide +kernel
theorem dX9_isLetter_13 : decode cX9_isLetter 13 = .ok (.goto 4, 3) := by decide +kernel
theorem dX9_isLetter_16 : decode cX9_isLetter 16 = .ok (.iconst 0, 1) := by decide +kernel
theorem dX9_isLetter_17 : decode cX9_isLetter 17 = .ok (.ireturn, 1) := by decide +kernel
theorem dX9_isFigure_0 : decode cX9_isFigure 0 = .ok (.iload_n 0, 1) := by decide +kernel
theorem dX9_isFigure_1 : decode cX9_isFigure 1 = .ok (.bipush 48, 2) := by decide +kernel
theorem dX9_isFigure_3 : decode cX9_isFigure 3 = .ok (.if_icmp .lt 13, 3) := by decide +kernel
theorem dX9_isFigure_6 : decode cX9_isFigure 6 = .ok (.iload_n 0, 1) := by decide +kernel
theorem dX9_isFigure_7 : decode cX9_isFigure 7 = .ok (.bipush 57, 2) := by decide +kernel
theorem dX9_isFigure_9 : decode cX9_isFigure 9 = .ok (.if_icmp .gt 7, 3) := by decide +kernel
theorem dX9_isFigure_12 : decode cX9_isFigure 12 = .ok (.iconst 1, 1) := by decide +kernel
theorem dX9_isFigure_13 : decode cX9_isFigure 13 = .ok (.goto 4, 3) := by decide +kernel
theorem dX9_isFigure_16 : decode cX9_isFigure 16 = .ok (.iconst 0, 1) := by decide +kernel
theorem dX9_isFigure_17 : decode cX9_isFigure 17 = .ok (.ireturn, 1) := by decide +kernel
theorem dX9_lookAtWord_0 : decode cX9_lookAtWord 0 = .ok (.lconst 0, 1) := by decide +kernel
theorem dX9_lookAtWord_1 : decode cX9_lookAtWord 1 = .ok (.lstore_n 1, 1) := by decide +kernel
theorem dX9_lookAtWord_2 : decode cX9_lookAtWord 2 = .ok (.aload_n 0, 1) := by decide +kernel
theorem dX9_lookAtWord_3 : decode cX9_lookAtWord 3 = .ok (.getfield 54, 3) := by decide +kernel
theorem dX9_lookAtWord_6 : decode cX9_lookAtWord 6 = .ok (.aload_n 0, 1) := by decide +kernel
theorem dX9_lookAtWord_7 : decode cX9_lookAtWord 7 = .ok (.getfield 51, 3) := by decide +kernel
theorem dX9_lookAtWord_10 : decode cX9_lookAtWord 10 = .ok (.if_icmp .ge 83, 3) := by decide +kernel
theorem dX9_lookAtWord_13 : decode cX9_lookAtWord 13 = .ok (.aload_n 0, 1) := by decide +kernel
theorem dX9_lookAtWord_14 : decode cX9_lookAtWord 14 = .ok (.getfield 11, 3) := by decide +kernel
theorem dX9_lookAtWord_17 : decode cX9_lookAtWord 17 = .ok (.aload_n 0, 1) := by decide +kernel
theorem dX9_lookAtWord_18 : decode cX9_lookAtWord 18 = .ok (.getfield 54, 3) := by decide +kernel
theorem dX9_lookAtWord_21 : decode cX9_lookAtWord 21 = .ok (.baload, 1) := by decide +kernel
theorem dX9_lookAtWord_22 : decode cX9_lookAtWord 22 = .ok (.bipush 97, 2) := by decide +kernel
theorem dX9_lookAtWord_24 : decode cX9_lookAtWord 24 = .ok (.if_icmp .lt 69, 3) := by decide +kernel
theorem dX9_lookAtWord_27 : decode cX9_lookAtWord 27 = .ok (.aload_n 0, 1) := by decide +kernel
theorem dX9_lookAtWord_28 : decode cX9_lookAtWord 28 = .ok (.getfield 11, 3) := by decide +kernel
theorem dX9_lookAtWord_31 : decode cX9_lookAtWord 31 = .ok (.aload_n 0, 1) := by decide +kernel
theorem dX9_lookAtWord_32 : decode cX9_lookAtWord 32 = .ok (.getfield 54, 3) := by decide +kernel
theorem dX9_lookAtWord_35 : decode cX9_lookAtWord 35 = .ok (.baload, 1) := by decide +kernel
theorem dX9_lookAtWord_36 : decode cX9_lookAtWord 36 = .ok (.bipush 122, 2) := by decide +kernel
theorem dX9_lookAtWord_38 : decode cX9_lookAtWord 38 = .ok (.if_icmp .gt 55, 3) := by decide +kernel
theorem dX9_lookAtWord_41 : decode cX9_lookAtWord 41 = .ok (.aload_n 0, 1) := by decide +kernel
theorem dX9_lookAtWord_42 : decode cX9_lookAtWord 42 = .ok (.getfield 54, 3) := by decide +kernel
theorem dX9_lookAtWord_45 : decode cX9_lookAtWord 45 = .ok (.aload_n 0, 1) := by decide +kernel
theorem dX9_lookAtWord_46 : decode cX9_lookAtWord 46 = .ok (.getfield 60, 3) := by decide +kernel
theorem dX9_lookAtWord_49 : decode cX9_lookAtWord 49 = .ok (.isub, 1) := by decide +kernel
theorem dX9_lookAtWord_50 : decode cX9_lookAtWord 50 = .ok (.bipush 8, 2) := by decide +kernel
theorem dX9_lookAtWord_52 : decode cX9_lookAtWord 52 = .ok (.if_icmp .ge 26, 3) := by decide +kernel
theorem dX9_lookAtWord_55 : decode cX9_lookAtWord 55 = .ok (.lload_n 1, 1) := by decide +kernel
theorem dX9_lookAtWord_56 : decode cX9_lookAtWord 56 = .ok (.ldc2_w 38, 3) := by decide +kernel
theorem dX9_lookAtWord_59 : decode cX9_lookAtWord 59 = .ok (.lmul, 1) := by decide +kernel
theorem dX9_lookAtWord_60 : decode cX9_lookAtWord 60 = .ok (.aload_n 0, 1) := by decide +kernel
theorem dX9_lookAtWord_61 : decode cX9_lookAtWord 61 = .ok (.getfield 11, 3) := by decide +kernel
theorem dX9_lookAtWord_64 : decode cX9_lookAtWord 64 = .ok (.aload_n 0, 1) := by decide +kernel
theorem dX9_lookAtWord_65 : decode cX9_lookAtWord 65 = .ok (.getfield 54, 3) := by decide +kernel
theorem dX9_lookAtWord_68 : decode cX9_lookAtWord 68 = .ok (.baload, 1) := by decide +kernel
theorem dX9_lookAtWord_69 : decode cX9_lookAtWord 69 = .ok (.i2l, 1) := by decide +kernel
theorem dX9_lookAtWord_70 : decode cX9_lookAtWord 70 = .ok (.ladd, 1) := by decide +kernel
theorem dX9_lookAtWord_71 : decode cX9_lookAtWord 71 = .ok (.ldc2_w 40, 3) := by decide +kernel
theorem dX9_lookAtWord_74 : decode cX9_lookAtWord 74 = .ok (.lsub, 1) := by decide +kernel
theorem dX9_lookAtWord_75 : decode cX9_lookAtWord 75 = .ok (.goto 4, 3) := by decide +kernel
theorem dX9_lookAtWord_78 : decode cX9_lookAtWord 78 = .ok (.lconst 0, 1) := by decide +kernel
theorem dX9_lookAtWord_79 : decode cX9_lookAtWord 79 = .ok (.lstore_n 1, 1) := by decide +kernel
theorem dX9_lookAtWord_80 : decode cX9_lookAtWord 80 = .ok (.aload_n 0, 1) := by decide +kernel
theorem dX9_lookAtWord_81 : decode cX9_lookAtWord 81 = .ok (.dup, 1) := by decide +kernel
theorem dX9_lookAtWord_82 : decode cX9_lookAtWord 82 = .ok (.getfield 54, 3) := by decide +kernel
theorem dX9_lookAtWord_85 : decode cX9_lookAtWord 85 = .ok (.iconst 1, 1) := by decide +kernel
theorem dX9_lookAtWord_86 : decode cX9_lookAtWord 86 = .ok (.iadd, 1) := by decide +kernel
theorem dX9_lookAtWord_87 : decode cX9_lookAtWord 87 = .ok (.putfield 54, 3) := by decide +kernel
theorem dX9_lookAtWord_90 : decode cX9_lookAtWord 90 = .ok (.goto (-88), 3) := by decide +kernel
theorem dX9_lookAtWord_93 : decode cX9_lookAtWord 93 = .ok (.aload_n 0, 1) := by decide +kernel
theorem dX9_lookAtWord_94 : decode cX9_lookAtWord 94 = .ok (.iconst 1, 1) := by decide +kernel
theorem dX9_lookAtWord_95 : decode cX9_lookAtWord 95 = .ok (.putfield 63, 3) := by decide +kernel
theorem dX9_lookAtWord_98 : decode cX9_lookAtWord 98 = .ok (.aload_n 0, 1) := by decide +kernel
theorem dX9_lookAtWord_99 : decode cX9_lookAtWord 99 = .ok (.lload_n 1, 1) := by decide +kernel
theorem dX9_lookAtWord_100 : decode cX9_lookAtWord 100 = .ok (.putfield 82, 3) := by decide +kernel
theorem dX9_lookAtWord_103 : decode cX9_lookAtWord 103 = .ok (.aload_n 0, 1) := by decide +kernel
theorem dX9_lookAtWord_104 : decode cX9_lookAtWord 104 = .ok (.iconst (-1), 1) := by decide +kernel
theorem dX9_lookAtWord_105 : decode cX9_lookAtWord 105 = .ok (.putfield 86, 3) := by decide +kernel
theorem dX9_lookAtWord_108 : decode cX9_lookAtWord 108 = .ok (.iconst 0, 1) := by decide +kernel
theorem dX9_lookAtWord_109 : decode cX9_lookAtWord 109 = .ok (.istore_n 3, 1) := by decide +kernel
theorem dX9_lookAtWord_110 : decode cX9_lookAtWord 110 = .ok (.iload_n 3, 1) := by decide +kernel
theorem dX9_lookAtWord_111 : decode cX9_lookAtWord 111 = .ok (.bipush 28, 2) := by decide +kernel
theorem dX9_lookAtWord_113 : decode cX9_lookAtWord 113 = .ok (.if_icmp .ge 25, 3) := by decide +kernel
theorem dX9_lookAtWord_116 : decode cX9_lookAtWord 116 = .ok (.aload_n 0, 1) := by decide +kernel
theorem dX9_lookAtWord_117 : decode cX9_lookAtWord 117 = .ok (.getfield 22, 3) := by decide +kernel
theorem dX9_lookAtWord_120 : decode cX9_lookAtWord 120 = .ok (.iload_n 3, 1) := by decide +kernel
theorem dX9_lookAtWord_121 : decode cX9_lookAtWord 121 = .ok (.laload, 1) := by decide +kernel
theorem dX9_lookAtWord_122 : decode cX9_lookAtWord 122 = .ok (.lload_n 1, 1) := by decide +kernel
theorem dX9_lookAtWord_123 : decode cX9_lookAtWord 123 = .ok (.lcmp, 1) := by decide +kernel
theorem dX9_lookAtWord_124 : decode cX9_lookAtWord 124 = .ok (.ifCond .ne 8, 3) := by decide +kernel
theorem dX9_lookAtWord_127 : decode cX9_lookAtWord 127 = .ok (.aload_n 0, 1) := by decide +kernel
theorem dX9_lookAtWord_128 : decode cX9_lookAtWord 128 = .ok (.iload_n 3, 1) := by decide +kernel
theorem dX9_lookAtWord_129 : decode cX9_lookAtWord 129 = .ok (.putfield 86, 3) := by decide +kernel
theorem dX9_lookAtWord_132 : decode cX9_lookAtWord 132 = .ok (.iinc 3 1, 3) := by decide +kernel
theorem dX9_lookAtWord_135 : decode cX9_lookAtWord 135 = .ok (.goto (-25), 3) := by decide +kernel
theorem dX9_lookAtWord_138 : decode cX9_lookAtWord 138 = .ok (.return_, 1) := by decide +kernel
theorem dX9_lookAtNumber_0 : decode cX9_lookAtNumber 0 = .ok (.aload_n 0, 1) := by decide +kernel
theorem dX9_lookAtNumber_1 : decode cX9_lookAtNumber 1 = .ok (.iconst 0, 1) := by decide +kernel
theorem dX9_lookAtNumber_2 : decode cX9_lookAtNumber 2 = .ok (.putfield 86, 3) := by decide +kernel
theorem dX9_lookAtNumber_5 : decode cX9_lookAtNumber 5 = .ok (.aload_n 0, 1) := by decide +kernel
theorem dX9_lookAtNumber_6 : decode cX9_lookAtNumber 6 = .ok (.getfield 54, 3) := by decide +kernel
theorem dX9_lookAtNumber_9 : decode cX9_lookAtNumber 9 = .ok (.aload_n 0, 1) := by decide +kernel
theorem dX9_lookAtNumber_10 : decode cX9_lookAtNumber 10 = .ok (.getfield 51, 3) := by decide +kernel
theorem dX9_lookAtNumber_13 : decode cX9_lookAtNumber 13 = .ok (.if_icmp .ge 88, 3) := by decide +kernel
theorem dX9_lookAtNumber_16 : decode cX9_lookAtNumber 16 = .ok (.aload_n 0, 1) := by decide +kernel
theorem dX9_lookAtNumber_17 : decode cX9_lookAtNumber 17 = .ok (.getfield 11, 3) := by decide +kernel
theorem dX9_lookAtNumber_20 : decode cX9_lookAtNumber 20 = .ok (.aload_n 0, 1) := by decide +kernel
theorem dX9_lookAtNumber_21 : decode cX9_lookAtNumber 21 = .ok (.getfield 54, 3) := by decide +kernel
theorem dX9_lookAtNumber_24 : decode cX9_lookAtNumber 24 = .ok (.baload, 1) := by decide +kernel
theorem dX9_lookAtNumber_25 : decode cX9_lookAtNumber 25 = .ok (.bipush 48, 2) := by decide +kernel
theorem dX9_lookAtNumber_27 : decode cX9_lookAtNumber 27 = .ok (.if_icmp .lt 74, 3) := by decide +kernel
theorem dX9_lookAtNumber_30 : decode cX9_lookAtNumber 30 = .ok (.aload_n 0, 1) := by decide +kernel
theorem dX9_lookAtNumber_31 : decode cX9_lookAtNumber 31 = .ok (.getfield 11, 3) := by decide +kernel
theorem dX9_lookAtNumber_34 : decode cX9_lookAtNumber 34 = .ok (.aload_n 0, 1) := by decide +kernel
theorem dX9_lookAtNumber_35 : decode cX9_lookAtNumber 35 = .ok (.getfield 54, 3) := by decide +kernel
theorem dX9_lookAtNumber_38 : decode cX9_lookAtNumber 38 = .ok (.baload, 1) := by decide +kernel
theorem dX9_lookAtNumber_39 : decode cX9_lookAtNumber 39 = .ok (.bipush 57, 2) := by decide +kernel
theorem dX9_lookAtNumber_41 : decode cX9_lookAtNumber 41 = .ok (.if_icmp .gt 60, 3) := by decide +kernel
theorem dX9_lookAtNumber_44 : decode cX9_lookAtNumber 44 = .ok (.aload_n 0, 1) := by decide +kernel
theorem dX9_lookAtNumber_45 : decode cX9_lookAtNumber 45 = .ok (.aload_n 0, 1) := by decide +kernel
theorem dX9_lookAtNumber_46 : decode cX9_lookAtNumber 46 = .ok (.getfield 54, 3) := by decide +kernel
theorem dX9_lookAtNumber_49 : decode cX9_lookAtNumber 49 = .ok (.aload_n 0, 1) := by decide +kernel
theorem dX9_lookAtNumber_50 : decode cX9_lookAtNumber 50 = .ok (.getfield 60, 3) := by decide +kernel
theorem dX9_lookAtNumber_53 : decode cX9_lookAtNumber 53 = .ok (.isub, 1) := by decide +kernel
theorem dX9_lookAtNumber_54 : decode cX9_lookAtNumber 54 = .ok (.iconst 4, 1) := by decide +kernel
theorem dX9_lookAtNumber_55 : decode cX9_lookAtNumber 55 = .ok (.if_icmp .ge 26, 3) := by decide +kernel
theorem dX9_lookAtNumber_58 : decode cX9_lookAtNumber 58 = .ok (.aload_n 0, 1) := by decide +kernel
theorem dX9_lookAtNumber_59 : decode cX9_lookAtNumber 59 = .ok (.getfield 86, 3) := by decide +kernel
theorem dX9_lookAtNumber_62 : decode cX9_lookAtNumber 62 = .ok (.bipush 10, 2) := by decide +kernel
theorem dX9_lookAtNumber_64 : decode cX9_lookAtNumber 64 = .ok (.imul, 1) := by decide +kernel
theorem dX9_lookAtNumber_65 : decode cX9_lookAtNumber 65 = .ok (.aload_n 0, 1) := by decide +kernel
theorem dX9_lookAtNumber_66 : decode cX9_lookAtNumber 66 = .ok (.getfield 11, 3) := by decide +kernel
theorem dX9_lookAtNumber_69 : decode cX9_lookAtNumber 69 = .ok (.aload_n 0, 1) := by decide +kernel
theorem dX9_lookAtNumber_70 : decode cX9_lookAtNumber 70 = .ok (.getfield 54, 3) := by decide +kernel
theorem dX9_lookAtNumber_73 : decode cX9_lookAtNumber 73 = .ok (.baload, 1) := by decide +kernel
theorem dX9_lookAtNumber_74 : decode cX9_lookAtNumber 74 = .ok (.bipush 48, 2) := by decide +kernel
theorem dX9_lookAtNumber_76 : decode cX9_lookAtNumber 76 = .ok (.isub, 1) := by decide +kernel
theorem dX9_lookAtNumber_77 : decode cX9_lookAtNumber 77 = .ok (.iadd, 1) := by decide +kernel
theorem dX9_lookAtNumber_78 : decode cX9_lookAtNumber 78 = .ok (.goto 7, 3) := by decide +kernel
theorem dX9_lookAtNumber_81 : decode cX9_lookAtNumber 81 = .ok (.aload_n 0, 1) := by decide +kernel
theorem dX9_lookAtNumber_82 : decode cX9_lookAtNumber 82 = .ok (.getfield 86, 3) := by decide +kernel
theorem dX9_lookAtNumber_85 : decode cX9_lookAtNumber 85 = .ok (.putfield 86, 3) := by decide +kernel
theorem dX9_lookAtNumber_88 : decode cX9_lookAtNumber 88 = .ok (.aload_n 0, 1) := by decide +kernel
theorem dX9_lookAtNumber_89 : decode cX9_lookAtNumber 89 = .ok (.dup, 1) := by decide +kernel
theorem dX9_lookAtNumber_90 : decode cX9_lookAtNumber 90 = .ok (.getfield 54, 3) := by decide +kernel
theorem dX9_lookAtNumber_93 : decode cX9_lookAtNumber 93 = .ok (.iconst 1, 1) := by decide +kernel
theorem dX9_lookAtNumber_94 : decode cX9_lookAtNumber 94 = .ok (.iadd, 1) := by decide +kernel
theorem dX9_lookAtNumber_95 : decode cX9_lookAtNumber 95 = .ok (.putfield 54, 3) := by decide +kernel
theorem dX9_lookAtNumber_98 : decode cX9_lookAtNumber 98 = .ok (.goto (-93), 3) := by decide +kernel
theorem dX9_lookAtNumber_101 : decode cX9_lookAtNumber 101 = .ok (.aload_n 0, 1) := by decide +kernel
theorem dX9_lookAtNumber_102 : decode cX9_lookAtNumber 102 = .ok (.aload_n 0, 1) := by decide +kernel
theorem dX9_lookAtNumber_103 : decode cX9_lookAtNumber 103 = .ok (.getfield 54, 3) := by decide +kernel
theorem dX9_lookAtNumber_106 : decode cX9_lookAtNumber 106 = .ok (.aload_n 0, 1) := by decide +kernel
theorem dX9_lookAtNumber_107 : decode cX9_lookAtNumber 107 = .ok (.getfield 60, 3) := by decide +kernel
theorem dX9_lookAtNumber_110 : decode cX9_lookAtNumber 110 = .ok (.isub, 1) := by decide +kernel
theorem dX9_lookAtNumber_111 : decode cX9_lookAtNumber 111 = .ok (.iconst 4, 1) := by decide +kernel
theorem dX9_lookAtNumber_112 : decode cX9_lookAtNumber 112 = .ok (.if_icmp .gt 7, 3) := by decide +kernel
theorem dX9_lookAtNumber_115 : decode cX9_lookAtNumber 115 = .ok (.iconst 2, 1) := by decide +kernel
theorem dX9_lookAtNumber_116 : decode cX9_lookAtNumber 116 = .ok (.goto 4, 3) := by decide +kernel
theorem dX9_lookAtNumber_119 : decode cX9_lookAtNumber 119 = .ok (.iconst 4, 1) := by decide +kernel
theorem dX9_lookAtNumber_120 : decode cX9_lookAtNumber 120 = .ok (.putfield 63, 3) := by decide +kernel
theorem dX9_lookAtNumber_123 : decode cX9_lookAtNumber 123 = .ok (.return_, 1) := by decide +kernel
theorem dX9_lookAtSign_0 : decode cX9_lookAtSign 0 = .ok (.aload_n 0, 1) := by decide +kernel
theorem dX9_lookAtSign_1 : decode cX9_lookAtSign 1 = .ok (.aload_n 0, 1) := by decide +kernel
theorem dX9_lookAtSign_2 : decode cX9_lookAtSign 2 = .ok (.getfield 11, 3) := by decide +kernel
theorem dX9_lookAtSign_5 : decode cX9_lookAtSign 5 = .ok (.aload_n 0, 1) := by decide +kernel
theorem dX9_lookAtSign_6 : decode cX9_lookAtSign 6 = .ok (.getfield 54, 3) := by decide +kernel
theorem dX9_lookAtSign_9 : decode cX9_lookAtSign 9 = .ok (.baload, 1) := by decide +kernel
theorem dX9_lookAtSign_10 : decode cX9_lookAtSign 10 = .ok (.putfield 86, 3) := by decide +kernel
theorem dX9_lookAtSign_13 : decode cX9_lookAtSign 13 = .ok (.aload_n 0, 1) := by decide +kernel
theorem dX9_lookAtSign_14 : decode cX9_lookAtSign 14 = .ok (.getfield 86, 3) := by decide +kernel
theorem dX9_lookAtSign_17 : decode cX9_lookAtSign 17 = .ok (.bipush 59, 2) := by decide +kernel
theorem dX9_lookAtSign_19 : decode cX9_lookAtSign 19 = .ok (.if_icmp .eq 30, 3) := by decide +kernel
theorem dX9_lookAtSign_22 : decode cX9_lookAtSign 22 = .ok (.aload_n 0, 1) := by decide +kernel
theorem dX9_lookAtSign_23 : decode cX9_lookAtSign 23 = .ok (.getfield 86, 3) := by decide +kernel
theorem dX9_lookAtSign_26 : decode cX9_lookAtSign 26 = .ok (.bipush 60, 2) := by decide +kernel
theorem dX9_lookAtSign_28 : decode cX9_lookAtSign 28 = .ok (.if_icmp .eq 21, 3) := by decide +kernel
theorem dX9_lookAtSign_31 : decode cX9_lookAtSign 31 = .ok (.aload_n 0, 1) := by decide +kernel
theorem dX9_lookAtSign_32 : decode cX9_lookAtSign 32 = .ok (.getfield 86, 3) := by decide +kernel
theorem dX9_lookAtSign_35 : decode cX9_lookAtSign 35 = .ok (.bipush 62, 2) := by decide +kernel
theorem dX9_lookAtSign_37 : decode cX9_lookAtSign 37 = .ok (.if_icmp .eq 12, 3) := by decide +kernel
theorem dX9_lookAtSign_40 : decode cX9_lookAtSign 40 = .ok (.aload_n 0, 1) := by decide +kernel
theorem dX9_lookAtSign_41 : decode cX9_lookAtSign 41 = .ok (.getfield 86, 3) := by decide +kernel
theorem dX9_lookAtSign_44 : decode cX9_lookAtSign 44 = .ok (.bipush 61, 2) := by decide +kernel
theorem dX9_lookAtSign_46 : decode cX9_lookAtSign 46 = .ok (.if_icmp .ne 7, 3) := by decide +kernel
theorem dX9_lookAtSign_49 : decode cX9_lookAtSign 49 = .ok (.iconst 1, 1) := by decide +kernel
theorem dX9_lookAtSign_50 : decode cX9_lookAtSign 50 = .ok (.goto 4, 3) := by decide +kernel
theorem dX9_lookAtSign_53 : decode cX9_lookAtSign 53 = .ok (.iconst 0, 1) := by decide +kernel
theorem dX9_lookAtSign_54 : decode cX9_lookAtSign 54 = .ok (.istore_n 1, 1) := by decide +kernel
theorem dX9_lookAtSign_55 : decode cX9_lookAtSign 55 = .ok (.aload_n 0, 1) := by decide +kernel
theorem dX9_lookAtSign_56 : decode cX9_lookAtSign 56 = .ok (.iload_n 1, 1) := by decide +kernel
theorem dX9_lookAtSign_57 : decode cX9_lookAtSign 57 = .ok (.ifCond .eq 7, 3) := by decide +kernel
theorem dX9_lookAtSign_60 : decode cX9_lookAtSign 60 = .ok (.iconst 3, 1) := by decide +kernel
theorem dX9_lookAtSign_61 : decode cX9_lookAtSign 61 = .ok (.goto 4, 3) := by decide +kernel
theorem dX9_lookAtSign_64 : decode cX9_lookAtSign 64 = .ok (.iconst 4, 1) := by decide +kernel
theorem dX9_lookAtSign_65 : decode cX9_lookAtSign 65 = .ok (.putfield 63, 3) := by decide +kernel
theorem dX9_lookAtSign_68 : decode cX9_lookAtSign 68 = .ok (.aload_n 0, 1) := by decide +kernel
theorem dX9_lookAtSign_69 : decode cX9_lookAtSign 69 = .ok (.dup, 1) := by decide +kernel
theorem dX9_lookAtSign_70 : decode cX9_lookAtSign 70 = .ok (.getfield 54, 3) := by decide +kernel
theorem dX9_lookAtSign_73 : decode cX9_lookAtSign 73 = .ok (.iconst 1, 1) := by decide +kernel
theorem dX9_lookAtSign_74 : decode cX9_lookAtSign 74 = .ok (.iadd, 1) := by decide +kernel
theorem dX9_lookAtSign_75 : decode cX9_lookAtSign 75 = .ok (.putfield 54, 3) := by decide +kernel
theorem dX9_lookAtSign_78 : decode cX9_lookAtSign 78 = .ok (.return_, 1) := by decide +kernel
theorem dX9_setWord_0 : decode cX9_setWord 0 = .ok (.aload_n 0, 1) := by decide +kernel
theorem dX9_setWord_1 : decode cX9_setWord 1 = .ok (.getfield 63, 3) := by decide +kernel
theorem dX9_setWord_4 : decode cX9_setWord 4 = .ok (.iconst 1, 1) := by decide +kernel
theorem dX9_setWord_5 : decode cX9_setWord 5 = .ok (.if_icmp .ne 10, 3) := by decide +kernel
theorem dX9_setWord_8 : decode cX9_setWord 8 = .ok (.aload_n 0, 1) := by decide +kernel
theorem dX9_setWord_9 : decode cX9_setWord 9 = .ok (.getfield 86, 3) := by decide +kernel
theorem dX9_setWord_12 : decode cX9_setWord 12 = .ok (.goto 4, 3) := by decide +kernel
theorem dX9_setWord_15 : decode cX9_setWord 15 = .ok (.iconst (-1), 1) := by decide +kernel
theorem dX9_setWord_16 : decode cX9_setWord 16 = .ok (.ireturn, 1) := by decide +kernel
theorem dX9_isName_0 : decode cX9_isName 0 = .ok (.aload_n 0, 1) := by decide +kernel
theorem dX9_isName_1 : decode cX9_isName 1 = .ok (.getfield 63, 3) := by decide +kernel
theorem dX9_isName_4 : decode cX9_isName 4 = .ok (.iconst 1, 1) := by decide +kernel
theorem dX9_isName_5 : decode cX9_isName 5 = .ok (.if_icmp .ne 24, 3) := by decide +kernel
theorem dX9_isName_8 : decode cX9_isName 8 = .ok (.aload_n 0, 1) := by decide +kernel
theorem dX9_isName_9 : decode cX9_isName 9 = .ok (.getfield 86, 3) := by decide +kernel
theorem dX9_isName_12 : decode cX9_isName 12 = .ok (.iconst (-1), 1) := by decide +kernel
theorem dX9_isName_13 : decode cX9_isName 13 = .ok (.if_icmp .ne 16, 3) := by decide +kernel
theorem dX9_isName_16 : decode cX9_isName 16 = .ok (.aload_n 0, 1) := by decide +kernel
theorem dX9_isName_17 : decode cX9_isName 17 = .ok (.getfield 82, 3) := by decide +kernel
theorem dX9_isName_20 : decode cX9_isName 20 = .ok (.lconst 0, 1) := by decide +kernel
theorem dX9_isName_21 : decode cX9_isName 21 = .ok (.lcmp, 1) := by decide +kernel
theorem dX9_isName_22 : decode cX9_isName 22 = .ok (.ifCond .eq 7, 3) := by decide +kernel
theorem dX9_isName_25 : decode cX9_isName 25 = .ok (.iconst 1, 1) := by decide +kernel
theorem dX9_isName_26 : decode cX9_isName 26 = .ok (.goto 4, 3) := by decide +kernel
theorem dX9_isName_29 : decode cX9_isName 29 = .ok (.iconst 0, 1) := by decide +kernel
theorem dX9_isName_30 : decode cX9_isName 30 = .ok (.ireturn, 1) := by decide +kernel
theorem dX9_refuseToken_0 : decode cX9_refuseToken 0 = .ok (.aload_n 0, 1) := by decide +kernel
theorem dX9_refuseToken_1 : decode cX9_refuseToken 1 = .ok (.iload_n 1, 1) := by decide +kernel
theorem dX9_refuseToken_2 : decode cX9_refuseToken 2 = .ok (.putfield 15, 3) := by decide +kernel
theorem dX9_refuseToken_5 : decode cX9_refuseToken 5 = .ok (.aload_n 0, 1) := by decide +kernel
theorem dX9_refuseToken_6 : decode cX9_refuseToken 6 = .ok (.aload_n 0, 1) := by decide +kernel
theorem dX9_refuseToken_7 : decode cX9_refuseToken 7 = .ok (.getfield 60, 3) := by decide +kernel
theorem dX9_refuseToken_10 : decode cX9_refuseToken 10 = .ok (.putfield 19, 3) := by decide +kernel
theorem dX9_refuseToken_13 : decode cX9_refuseToken 13 = .ok (.iconst 0, 1) := by decide +kernel
theorem dX9_refuseToken_14 : decode cX9_refuseToken 14 = .ok (.ireturn, 1) := by decide +kernel
theorem dX9_refuseUnfit_0 : decode cX9_refuseUnfit 0 = .ok (.aload_n 0, 1) := by decide +kernel
theorem dX9_refuseUnfit_1 : decode cX9_refuseUnfit 1 = .ok (.aload_n 0, 1) := by decide +kernel
theorem dX9_refuseUnfit_2 : decode cX9_refuseUnfit 2 = .ok (.getfield 63, 3) := by decide +kernel
theorem dX9_refuseUnfit_5 : decode cX9_refuseUnfit 5 = .ok (.iconst 4, 1) := by decide +kernel
theorem dX9_refuseUnfit_6 : decode cX9_refuseUnfit 6 = .ok (.if_icmp .ne 7, 3) := by decide +kernel
theorem dX9_refuseUnfit_9 : decode cX9_refuseUnfit 9 = .ok (.iconst 1, 1) := by decide +kernel
theorem dX9_refuseUnfit_10 : decode cX9_refuseUnfit 10 = .ok (.goto 4, 3) := by decide +kernel
theorem dX9_refuseUnfit_13 : decode cX9_refuseUnfit 13 = .ok (.iconst 2, 1) := by decide +kernel
theorem dX9_refuseUnfit_14 : decode cX9_refuseUnfit 14 = .ok (.invokevirtual 89, 3) := by decide +kernel
theorem dX9_refuseUnfit_17 : decode cX9_refuseUnfit 17 = .ok (.ireturn, 1) := by decide +kernel
theorem dX9_takeWord_0 : decode cX9_takeWord 0 = .ok (.aload_n 0, 1) := by decide +kernel
theorem dX9_takeWord_1 : decode cX9_takeWord 1 = .ok (.invokevirtual 92, 3) := by decide +kernel
theorem dX9_takeWord_4 : decode cX9_takeWord 4 = .ok (.iload_n 1, 1) := by decide +kernel
theorem dX9_takeWord_5 : decode cX9_takeWord 5 = .ok (.if_icmp .eq 8, 3) := by decide +kernel
theorem dX9_takeWord_8 : decode cX9_takeWord 8 = .ok (.aload_n 0, 1) := by decide +kernel
theorem dX9_takeWord_9 : decode cX9_takeWord 9 = .ok (.invokevirtual 95, 3) := by decide +kernel
theorem dX9_takeWord_12 : decode cX9_takeWord 12 = .ok (.ireturn, 1) := by decide +kernel
theorem dX9_takeWord_13 : decode cX9_takeWord 13 = .ok (.aload_n 0, 1) := by decide +kernel
theorem dX9_takeWord_14 : decode cX9_takeWord 14 = .ok (.invokevirtual 57, 3) := by decide +kernel
theorem dX9_takeWord_17 : decode cX9_takeWord 17 = .ok (.iconst 1, 1) := by decide +kernel
theorem dX9_takeWord_18 : decode cX9_takeWord 18 = .ok (.ireturn, 1) := by decide +kernel
theorem dX9_takeNumber_0 : decode cX9_takeNumber 0 = .ok (.aload_n 0, 1) := by decide +kernel
theorem dX9_takeNumber_1 : decode cX9_takeNumber 1 = .ok (.getfield 63, 3) := by decide +kernel
theorem dX9_takeNumber_4 : decode cX9_takeNumber 4 = .ok (.iconst 2, 1) := by decide +kernel
theorem dX9_takeNumber_5 : decode cX9_takeNumber 5 = .ok (.if_icmp .eq 8, 3) := by decide +kernel
theorem dX9_takeNumber_8 : decode cX9_takeNumber 8 = .ok (.aload_n 0, 1) := by decide +kernel
theorem dX9_takeNumber_9 : decode cX9_takeNumber 9 = .ok (.invokevirtual 95, 3) := by decide +kernel
theorem dX9_takeNumber_12 : decode cX9_takeNumber 12 = .ok (.ireturn, 1) := by decide +kernel
theorem dX9_takeNumber_13 : decode cX9_takeNumber 13 = .ok (.aload_n 0, 1) := by decide +kernel
theorem dX9_takeNumber_14 : decode cX9_takeNumber 14 = .ok (.getfield 86, 3) := by decide +kernel
theorem dX9_takeNumber_17 : decode cX9_takeNumber 17 = .ok (.iload_n 1, 1) := by decide +kernel
theorem dX9_takeNumber_18 : decode cX9_takeNumber 18 = .ok (.iload_n 2, 1) := by decide +kernel
theorem dX9_takeNumber_19 : decode cX9_takeNumber 19 = .ok (.invokestatic 99, 3) := by decide +kernel
theorem dX9_takeNumber_22 : decode cX9_takeNumber 22 = .ok (.ifCond .ne 9, 3) := by decide +kernel
theorem dX9_takeNumber_25 : decode cX9_takeNumber 25 = .ok (.aload_n 0, 1) := by decide +kernel
theorem dX9_takeNumber_26 : decode cX9_takeNumber 26 = .ok (.iconst 4, 1) := by decide +kernel
theorem dX9_takeNumber_27 : decode cX9_takeNumber 27 = .ok (.invokevirtual 89, 3) := by decide +kernel
theorem dX9_takeNumber_30 : decode cX9_takeNumber 30 = .ok (.ireturn, 1) := by decide +kernel
theorem dX9_takeNumber_31 : decode cX9_takeNumber 31 = .ok (.aload_n 0, 1) := by decide +kernel
theorem dX9_takeNumber_32 : decode cX9_takeNumber 32 = .ok (.aload_n 0, 1) := by decide +kernel
theorem dX9_takeNumber_33 : decode cX9_takeNumber 33 = .ok (.getfield 86, 3) := by decide +kernel
theorem dX9_takeNumber_36 : decode cX9_takeNumber 36 = .ok (.putfield 103, 3) := by decide +kernel
theorem dX9_takeNumber_39 : decode cX9_takeNumber 39 = .ok (.aload_n 0, 1) := by decide +kernel
theorem dX9_takeNumber_40 : decode cX9_takeNumber 40 = .ok (.invokevirtual 57, 3) := by decide +kernel
theorem dX9_takeNumber_43 : decode cX9_takeNumber 43 = .ok (.iconst 1, 1) := by decide +kernel
theorem dX9_takeNumber_44 : decode cX9_takeNumber 44 = .ok (.ireturn, 1) := by decide +kernel
theorem dX9_takeEndOfPart_0 : decode cX9_takeEndOfPart 0 = .ok (.aload_n 0, 1) := by decide +kernel
theorem dX9_takeEndOfPart_1 : decode cX9_takeEndOfPart 1 = .ok (.getfield 63, 3) := by decide +kernel
theorem dX9_takeEndOfPart_4 : decode cX9_takeEndOfPart 4 = .ok (.iconst 3, 1) := by decide +kernel
theorem dX9_takeEndOfPart_5 : decode cX9_takeEndOfPart 5 = .ok (.if_icmp .ne 12, 3) := by decide +kernel
theorem dX9_takeEndOfPart_8 : decode cX9_takeEndOfPart 8 = .ok (.aload_n 0, 1) := by decide +kernel
theorem dX9_takeEndOfPart_9 : decode cX9_takeEndOfPart 9 = .ok (.getfield 86, 3) := by decide +kernel
theorem dX9_takeEndOfPart_12 : decode cX9_takeEndOfPart 12 = .ok (.bipush 59, 2) := by decide +kernel
theorem dX9_takeEndOfPart_14 : decode cX9_takeEndOfPart 14 = .ok (.if_icmp .eq 8, 3) := by decide +kernel
theorem dX9_takeEndOfPart_17 : decode cX9_takeEndOfPart 17 = .ok (.aload_n 0, 1) := by decide +kernel
theorem dX9_takeEndOfPart_18 : decode cX9_takeEndOfPart 18 = .ok (.invokevirtual 95, 3) := by decide +kernel
theorem dX9_takeEndOfPart_21 : decode cX9_takeEndOfPart 21 = .ok (.ireturn, 1) := by decide +kernel
theorem dX9_takeEndOfPart_22 : decode cX9_takeEndOfPart 22 = .ok (.aload_n 0, 1) := by decide +kernel
theorem dX9_takeEndOfPart_23 : decode cX9_takeEndOfPart 23 = .ok (.invokevirtual 57, 3) := by decide +kernel
theorem dX9_takeEndOfPart_26 : decode cX9_takeEndOfPart 26 = .ok (.iconst 1, 1) := by decide +kernel
theorem dX9_takeEndOfPart_27 : decode cX9_takeEndOfPart 27 = .ok (.ireturn, 1) := by decide +kernel
theorem dX9_takeName_0 : decode cX9_takeName 0 = .ok (.aload_n 0, 1) := by decide +kernel
theorem dX9_takeName_1 : decode cX9_takeName 1 = .ok (.invokevirtual 106, 3) := by decide +kernel
theorem dX9_takeName_4 : decode cX9_takeName 4 = .ok (.ifCond .ne 8, 3) := by decide +kernel
theorem dX9_takeName_7 : decode cX9_takeName 7 = .ok (.aload_n 0, 1) := by decide +kernel
theorem dX9_takeName_8 : decode cX9_takeName 8 = .ok (.invokevirtual 95, 3) := by decide +kernel
theorem dX9_takeName_11 : decode cX9_takeName 11 = .ok (.ireturn, 1) := by decide +kernel
theorem dX9_takeName_12 : decode cX9_takeName 12 = .ok (.aload_n 1, 1) := by decide +kernel
theorem dX9_takeName_13 : decode cX9_takeName 13 = .ok (.aload_n 0, 1) := by decide +kernel
theorem dX9_takeName_14 : decode cX9_takeName 14 = .ok (.getfield 82, 3) := by decide +kernel
theorem dX9_takeName_17 : decode cX9_takeName 17 = .ok (.invokevirtual 109, 3) := by decide +kernel
theorem dX9_takeName_20 : decode cX9_takeName 20 = .ok (.istore_n 2, 1) := by decide +kernel
theorem dX9_takeName_21 : decode cX9_takeName 21 = .ok (.iload_n 2, 1) := by decide +kernel
theorem dX9_takeName_22 : decode cX9_takeName 22 = .ok (.iconst (-1), 1) := by decide +kernel
theorem dX9_takeName_23 : decode cX9_takeName 23 = .ok (.if_icmp .ne 9, 3) := by decide +kernel
theorem dX9_takeName_26 : decode cX9_takeName 26 = .ok (.aload_n 0, 1) := by decide +kernel
theorem dX9_takeName_27 : decode cX9_takeName 27 = .ok (.iconst 3, 1) := by decide +kernel
theorem dX9_takeName_28 : decode cX9_takeName 28 = .ok (.invokevirtual 89, 3) := by decide +kernel
theorem dX9_takeName_31 : decode cX9_takeName 31 = .ok (.ireturn, 1) := by decide +kernel
theorem dX9_takeName_32 : decode cX9_takeName 32 = .ok (.aload_n 0, 1) := by decide +kernel
theorem dX9_takeName_33 : decode cX9_takeName 33 = .ok (.iload_n 2, 1) := by decide +kernel
theorem dX9_takeName_34 : decode cX9_takeName 34 = .ok (.aload_n 1, 1) := by decide +kernel
theorem dX9_takeName_35 : decode cX9_takeName 35 = .ok (.getfield 115, 3) := by decide +kernel
theorem dX9_takeName_38 : decode cX9_takeName 38 = .ok (.imul, 1) := by decide +kernel
theorem dX9_takeName_39 : decode cX9_takeName 39 = .ok (.putfield 103, 3) := by decide +kernel
theorem dX9_takeName_42 : decode cX9_takeName 42 = .ok (.aload_n 0, 1) := by decide +kernel
theorem dX9_takeName_43 : decode cX9_takeName 43 = .ok (.invokevirtual 57, 3) := by decide +kernel
theorem dX9_takeName_46 : decode cX9_takeName 46 = .ok (.iconst 1, 1) := by decide +kernel
theorem dX9_takeName_47 : decode cX9_takeName 47 = .ok (.ireturn, 1) := by decide +kernel
theorem dX10_init_0 : decode cX10_init 0 = .ok (.aload_n 0, 1) := by decide +kernel
theorem dX10_init_1 : decode cX10_init 1 = .ok (.invokespecial 3, 3) := by decide +kernel
theorem dX10_init_4 : decode cX10_init 4 = .ok (.aload_n 0, 1) := by decide +kernel
theorem dX10_init_5 : decode cX10_init 5 = .ok (.iconst 4, 1) := by decide +kernel
theorem dX10_init_6 : decode cX10_init 6 = .ok (.bipush 60, 2) := by decide +kernel
theorem dX10_init_8 : decode cX10_init 8 = .ok (.multianewarray 11 2, 4) := by decide +kernel
theorem dX10_init_12 : decode cX10_init 12 = .ok (.putfield 13, 3) := by decide +kernel
theorem dX10_init_15 : decode cX10_init 15 = .ok (.aload_n 0, 1) := by decide +kernel
theorem dX10_init_16 : decode cX10_init 16 = .ok (.iconst 4, 1) := by decide +kernel
theorem dX10_init_17 : decode cX10_init 17 = .ok (.newarray .int, 2) := by decide +kernel
theorem dX10_init_19 : decode cX10_init 19 = .ok (.putfield 16, 3) := by decide +kernel
theorem dX10_init_22 : decode cX10_init 22 = .ok (.aload_n 0, 1) := by decide +kernel
theorem dX10_init_23 : decode cX10_init 23 = .ok (.iconst 4, 1) := by decide +kernel
theorem dX10_init_24 : decode cX10_init 24 = .ok (.newarray .int, 2) := by decide +kernel
theorem dX10_init_26 : decode cX10_init 26 = .ok (.putfield 20, 3) := by decide +kernel
theorem dX10_init_29 : decode cX10_init 29 = .ok (.aload_n 0, 1) := by decide +kernel
theorem dX10_init_30 : decode cX10_init 30 = .ok (.getfield 16, 3) := by decide +kernel
theorem dX10_init_33 : decode cX10_init 33 = .ok (.iconst (-1), 1) := by decide +kernel
theorem dX10_init_34 : decode cX10_init 34 = .ok (.invokestatic 23, 3) := by decide +kernel
theorem dX10_init_37 : decode cX10_init 37 = .ok (.return_, 1) := by decide +kernel
theorem dX10_isNumber_0 : decode cX10_isNumber 0 = .ok (.iload_n 1, 1) := by decide +kernel
theorem dX10_isNumber_1 : decode cX10_isNumber 1 = .ok (.iconst 0, 1) := by decide +kernel
theorem dX10_isNumber_2 : decode cX10_isNumber 2 = .ok (.iconst 3, 1) := by decide +kernel
theorem dX10_isNumber_3 : decode cX10_isNumber 3 = .ok (.invokestatic 29, 3) := by decide +kernel
theorem dX10_isNumber_6 : decode cX10_isNumber 6 = .ok (.ireturn, 1) := by decide +kernel
theorem dX10_isMissing_0 : decode cX10_isMissing 0 = .ok (.aload_n 0, 1) := by decide +kernel
theorem dX10_isMissing_1 : decode cX10_isMissing 1 = .ok (.getfield 16, 3) := by decide +kernel
theorem dX10_isMissing_4 : decode cX10_isMissing 4 = .ok (.iload_n 1, 1) := by decide +kernel
theorem dX10_isMissing_5 : decode cX10_isMissing 5 = .ok (.iaload, 1) := by decide +kernel
theorem dX10_isMissing_6 : decode cX10_isMissing 6 = .ok (.iconst (-1), 1) := by decide +kernel
theorem dX10_isMissing_7 : decode cX10_isMissing 7 = .ok (.if_icmp .ne 7, 3) := by decide +kernel
theorem dX10_isMissing_10 : decode cX10_isMissing 10 = .ok (.iconst 1, 1) := by decide +kernel
theorem dX10_isMissing_11 : decode cX10_isMissing 11 = .ok (.goto 4, 3) := by decide +kernel
theorem dX10_isMissing_14 : decode cX10_isMissing 14 = .ok (.iconst 0, 1) := by decide +kernel
theorem dX10_isMissing_15 : decode cX10_isMissing 15 = .ok (.ireturn, 1) := by decide +kernel
theorem dX10_make_0 : decode cX10_make 0 = .ok (.aload_n 0, 1) := by decide +kernel
theorem dX10_make_1 : decode cX10_make 1 = .ok (.getfield 20, 3) := by decide +kernel
theorem dX10_make_4 : decode cX10_make 4 = .ok (.iload_n 1, 1) := by decide +kernel
theorem dX10_make_5 : decode cX10_make 5 = .ok (.iload_n 2, 1) := by decide +kernel
theorem dX10_make_6 : decode cX10_make 6 = .ok (.iastore, 1) := by decide +kernel
theorem dX10_make_7 : decode cX10_make 7 = .ok (.aload_n 0, 1) := by decide +kernel
theorem dX10_make_8 : decode cX10_make 8 = .ok (.getfield 16, 3) := by decide +kernel
theorem dX10_make_11 : decode cX10_make 11 = .ok (.iload_n 1, 1) := by decide +kernel
theorem dX10_make_12 : decode cX10_make 12 = .ok (.iload_n 3, 1) := by decide +kernel
theorem dX10_make_13 : decode cX10_make 13 = .ok (.iastore, 1) := by decide +kernel
theorem dX10_make_14 : decode cX10_make 14 = .ok (.aload_n 0, 1) := by decide +kernel
theorem dX10_make_15 : decode cX10_make 15 = .ok (.getfield 13, 3) := by decide +kernel
theorem dX10_make_18 : decode cX10_make 18 = .ok (.iload_n 1, 1) := by decide +kernel
theorem dX10_make_19 : decode cX10_make 19 = .ok (.aaload, 1) := by decide +kernel
theorem dX10_make_20 : decode cX10_make 20 = .ok (.lconst 0, 1) := by decide +kernel
theorem dX10_make_21 : decode cX10_make 21 = .ok (.invokestatic 33, 3) := by decide +kernel
theorem dX10_make_24 : decode cX10_make 24 = .ok (.return_, 1) := by decide +kernel
theorem dX10_holds_0 : decode cX10_holds 0 = .ok (.iload_n 2, 1) := by decide +kernel
theorem dX10_holds_1 : decode cX10_holds 1 = .ok (.ifCond .lt 29, 3) := by decide +kernel
theorem dX10_holds_4 : decode cX10_holds 4 = .ok (.iload_n 2, 1) := by decide +kernel
theorem dX10_holds_5 : decode cX10_holds 5 = .ok (.aload_n 0, 1) := by decide +kernel
theorem dX10_holds_6 : decode cX10_holds 6 = .ok (.getfield 16, 3) := by decide +kernel
theorem dX10_holds_9 : decode cX10_holds 9 = .ok (.iload_n 1, 1) := by decide +kernel
theorem dX10_holds_10 : decode cX10_holds 10 = .ok (.iaload, 1) := by decide +kernel
theorem dX10_holds_11 : decode cX10_holds 11 = .ok (.if_icmp .gt 19, 3) := by decide +kernel
theorem dX10_holds_14 : decode cX10_holds 14 = .ok (.iload_n 3, 1) := by decide +kernel
theorem dX10_holds_15 : decode cX10_holds 15 = .ok (.aload_n 0, 1) := by decide +kernel
theorem dX10_holds_16 : decode cX10_holds 16 = .ok (.getfield 16, 3) := by decide +kernel
theorem dX10_holds_19 : decode cX10_holds 19 = .ok (.iload_n 1, 1) := by decide +kernel
theorem dX10_holds_20 : decode cX10_holds 20 = .ok (.iaload, 1) := by decide +kernel
theorem dX10_holds_21 : decode cX10_holds 21 = .ok (.iload_n 2, 1) := by decide +kernel
theorem dX10_holds_22 : decode cX10_holds 22 = .ok (.isub, 1) := by decide +kernel
theorem dX10_holds_23 : decode cX10_holds 23 = .ok (.if_icmp .gt 7, 3) := by decide +kernel
theorem dX10_holds_26 : decode cX10_holds 26 = .ok (.iconst 1, 1) := by decide +kernel
theorem dX10_holds_27 : decode cX10_holds 27 = .ok (.goto 4, 3) := by decide +kernel
theorem dX10_holds_30 : decode cX10_holds 30 = .ok (.iconst 0, 1) := by decide +kernel
theorem dX10_holds_31 : decode cX10_holds 31 = .ok (.ireturn, 1) := by decide +kernel
theorem dX10_lookAt_0 : decode cX10_lookAt 0 = .ok (.aload_n 0, 1) := by decide +kernel
theorem dX10_lookAt_1 : decode cX10_lookAt 1 = .ok (.iload_n 1, 1) := by decide +kernel
theorem dX10_lookAt_2 : decode cX10_lookAt 2 = .ok (.invokevirtual 36, 3) := by decide +kernel
theorem dX10_lookAt_5 : decode cX10_lookAt 5 = .ok (.ifCond .ne 5, 3) := by decide +kernel
theorem dX10_lookAt_8 : decode cX10_lookAt 8 = .ok (.iconst 1, 1) := by decide +kernel
theorem dX10_lookAt_9 : decode cX10_lookAt 9 = .ok (.ireturn, 1) := by decide +kernel
theorem dX10_lookAt_10 : decode cX10_lookAt 10 = .ok (.aload_n 0, 1) := by decide +kernel
theorem dX10_lookAt_11 : decode cX10_lookAt 11 = .ok (.iload_n 1, 1) := by decide +kernel
theorem dX10_lookAt_12 : decode cX10_lookAt 12 = .ok (.invokevirtual 40, 3) := by decide +kernel
theorem dX10_lookAt_15 : decode cX10_lookAt 15 = .ok (.ifCond .eq 5, 3) := by decide +kernel
theorem dX10_lookAt_18 : decode cX10_lookAt 18 = .ok (.iconst 3, 1) := by decide +kernel
theorem dX10_lookAt_19 : decode cX10_lookAt 19 = .ok (.ireturn, 1) := by decide +kernel
theorem dX10_lookAt_20 : decode cX10_lookAt 20 = .ok (.iload_n 2, 1) := by decide +kernel
theorem dX10_lookAt_21 : decode cX10_lookAt 21 = .ok (.iconst 0, 1) := by decide +kernel
theorem dX10_lookAt_22 : decode cX10_lookAt 22 = .ok (.aload_n 0, 1) := by decide +kernel
theorem dX10_lookAt_23 : decode cX10_lookAt 23 = .ok (.getfield 16, 3) := by decide +kernel
theorem dX10_lookAt_26 : decode cX10_lookAt 26 = .ok (.iload_n 1, 1) := by decide +kernel
theorem dX10_lookAt_27 : decode cX10_lookAt 27 = .ok (.iaload, 1) := by decide +kernel
theorem dX10_lookAt_28 : decode cX10_lookAt 28 = .ok (.iconst 1, 1) := by decide +kernel
theorem dX10_lookAt_29 : decode cX10_lookAt 29 = .ok (.isub, 1) := by decide +kernel
theorem dX10_lookAt_30 : decode cX10_lookAt 30 = .ok (.invokestatic 29, 3) := by decide +kernel
theorem dX10_lookAt_33 : decode cX10_lookAt 33 = .ok (.ifCond .eq 7, 3) := by decide +kernel
theorem dX10_lookAt_36 : decode cX10_lookAt 36 = .ok (.iconst 0, 1) := by decide +kernel
theorem dX10_lookAt_37 : decode cX10_lookAt 37 = .ok (.goto 4, 3) := by decide +kernel
theorem dX10_lookAt_40 : decode cX10_lookAt 40 = .ok (.iconst 4, 1) := by decide +kernel
theorem dX10_lookAt_41 : decode cX10_lookAt 41 = .ok (.ireturn, 1) := by decide +kernel
theorem dX10_put_0 : decode cX10_put 0 = .ok (.aload_n 0, 1) := by decide +kernel
theorem dX10_put_1 : decode cX10_put 1 = .ok (.getfield 13, 3) := by decide +kernel
theorem dX10_put_4 : decode cX10_put 4 = .ok (.iload_n 1, 1) := by decide +kernel
theorem dX10_put_5 : decode cX10_put 5 = .ok (.aaload, 1) := by decide +kernel
theorem dX10_put_6 : decode cX10_put 6 = .ok (.iload_n 2, 1) := by decide +kernel
theorem dX10_put_7 : decode cX10_put 7 = .ok (.lload_n 3, 1) := by decide +kernel
theorem dX10_put_8 : decode cX10_put 8 = .ok (.aload_n 0, 1) := by decide +kernel
theorem dX10_put_9 : decode cX10_put 9 = .ok (.getfield 20, 3) := by decide +kernel
theorem dX10_put_12 : decode cX10_put 12 = .ok (.iload_n 1, 1) := by decide +kernel
theorem dX10_put_13 : decode cX10_put 13 = .ok (.iaload, 1) := by decide +kernel
theorem dX10_put_14 : decode cX10_put 14 = .ok (.invokestatic 43, 3) := by decide +kernel
theorem dX10_put_17 : decode cX10_put 17 = .ok (.lastore, 1) := by decide +kernel
theorem dX10_put_18 : decode cX10_put 18 = .ok (.return_, 1) := by decide +kernel
theorem dX10_cut_0 : decode cX10_cut 0 = .ok (.iload_n 2, 1) := by decide +kernel
theorem dX10_cut_1 : decode cX10_cut 1 = .ok (.tableswitch 41 0 2 #[27, 32, 37], 27) := by decide +kernel
theorem dX10_cut_28 : decode cX10_cut 28 = .ok (.lload_n 0, 1) := by decide +kernel
theorem dX10_cut_29 : decode cX10_cut 29 = .ok (.l2i, 1) := by decide +kernel
theorem dX10_cut_30 : decode cX10_cut 30 = .ok (.i2b, 1) := by decide +kernel
theorem dX10_cut_31 : decode cX10_cut 31 = .ok (.i2l, 1) := by decide +kernel
theorem dX10_cut_32 : decode cX10_cut 32 = .ok (.lreturn, 1) := by decide +kernel
theorem dX10_cut_33 : decode cX10_cut 33 = .ok (.lload_n 0, 1) := by decide +kernel
theorem dX10_cut_34 : decode cX10_cut 34 = .ok (.l2i, 1) := by decide +kernel
theorem dX10_cut_35 : decode cX10_cut 35 = .ok (.i2s, 1) := by decide +kernel
theorem dX10_cut_36 : decode cX10_cut 36 = .ok (.i2l, 1) := by decide +kernel
theorem dX10_cut_37 : decode cX10_cut 37 = .ok (.lreturn, 1) := by decide +kernel
theorem dX10_cut_38 : decode cX10_cut 38 = .ok (.lload_n 0, 1) := by decide +kernel
theorem dX10_cut_39 : decode cX10_cut 39 = .ok (.l2i, 1) := by decide +kernel
theorem dX10_cut_40 : decode cX10_cut 40 = .ok (.i2l, 1) := by decide +kernel
theorem dX10_cut_41 : decode cX10_cut 41 = .ok (.lreturn, 1) := by decide +kernel
theorem dX10_cut_42 : decode cX10_cut 42 = .ok (.lload_n 0, 1) := by decide +kernel
theorem dX10_cut_43 : decode cX10_cut 43 = .ok (.lreturn, 1) := by decide +kernel
theorem dX11_init_0 : decode cX11_init 0 = .ok (.aload_n 0, 1) := by decide +kernel
theorem dX11_init_1 : decode cX11_init 1 = .ok (.invokespecial 1, 3) := by decide +kernel
theorem dX11_init_4 : decode cX11_init 4 = .ok (.aload_n 0, 1) := by decide +kernel
theorem dX11_init_5 : decode cX11_init 5 = .ok (.iconst 0, 1) := by decide +kernel
theorem dX11_init_6 : decode cX11_init 6 = .ok (.putfield 7, 3) := by decide +kernel
theorem dX11_init_9 : decode cX11_init 9 = .ok (.aload_n 0, 1) := by decide +kernel
theorem dX11_init_10 : decode cX11_init 10 = .ok (.lconst 0, 1) := by decide +kernel
theorem dX11_init_11 : decode cX11_init 11 = .ok (.putfield 13, 3) := by decide +kernel
theorem dX11_init_14 : decode cX11_init 14 = .ok (.aload_n 0, 1) := by decide +kernel
theorem dX11_init_15 : decode cX11_init 15 = .ok (.lconst 1, 1) := by decide +kernel
theorem dX11_init_16 : decode cX11_init 16 = .ok (.putfield 17, 3) := by decide +kernel
theorem dX11_init_19 : decode cX11_init 19 = .ok (.aload_n 0, 1) := by decide +kernel
theorem dX11_init_20 : decode cX11_init 20 = .ok (.iconst 0, 1) := by decide +kernel
theorem dX11_init_21 : decode cX11_init 21 = .ok (.putfield 20, 3) := by decide +kernel
theorem dX11_init_24 : decode cX11_init 24 = .ok (.aload_n 0, 1) := by decide +kernel
theorem dX11_init_25 : decode cX11_init 25 = .ok (.new 23, 3) := by decide +kernel
theorem dX11_init_28 : decode cX11_init 28 = .ok (.dup, 1) := by decide +kernel
theorem dX11_init_29 : decode cX11_init 29 = .ok (.invokespecial 25, 3) := by decide +kernel
theorem dX11_init_32 : decode cX11_init 32 = .ok (.putfield 26, 3) := by decide +kernel
theorem dX11_init_35 : decode cX11_init 35 = .ok (.aload_n 0, 1) := by decide +kernel
theorem dX11_init_36 : decode cX11_init 36 = .ok (.new 30, 3) := by decide +kernel
theorem dX11_init_39 : decode cX11_init 39 = .ok (.dup, 1) := by decide +kernel
theorem dX11_init_40 : decode cX11_init 40 = .ok (.invokespecial 32, 3) := by decide +kernel
theorem dX11_init_43 : decode cX11_init 43 = .ok (.putfield 33, 3) := by decide +kernel
theorem dX11_init_46 : decode cX11_init 46 = .ok (.aload_n 0, 1) := by decide +kernel
theorem dX11_init_47 : decode cX11_init 47 = .ok (.new 37, 3) := by decide +kernel
theorem dX11_init_50 : decode cX11_init 50 = .ok (.dup, 1) := by decide +kernel
theorem dX11_init_51 : decode cX11_init 51 = .ok (.aload_n 0, 1) := by decide +kernel
theorem dX11_init_52 : decode cX11_init 52 = .ok (.getfield 33, 3) := by decide +kernel
theorem dX11_init_55 : decode cX11_init 55 = .ok (.invokespecial 39, 3) := by decide +kernel
theorem dX11_init_58 : decode cX11_init 58 = .ok (.putfield 42, 3) := by decide +kernel
theorem dX11_init_61 : decode cX11_init 61 = .ok (.aload_n 0, 1) := by decide +kernel
theorem dX11_init_62 : decode cX11_init 62 = .ok (.new 46, 3) := by decide +kernel
theorem dX11_init_65 : decode cX11_init 65 = .ok (.dup, 1) := by decide +kernel
theorem dX11_init_66 : decode cX11_init 66 = .ok (.aload_n 0, 1) := by decide +kernel
theorem dX11_init_67 : decode cX11_init 67 = .ok (.getfield 33, 3) := by decide +kernel
theorem dX11_init_70 : decode cX11_init 70 = .ok (.invokespecial 48, 3) := by decide +kernel
theorem dX11_init_73 : decode cX11_init 73 = .ok (.putfield 49, 3) := by decide +kernel
theorem dX11_init_76 : decode cX11_init 76 = .ok (.aload_n 0, 1) := by decide +kernel
theorem dX11_init_77 : decode cX11_init 77 = .ok (.new 53, 3) := by decide +kernel
theorem dX11_init_80 : decode cX11_init 80 = .ok (.dup, 1) := by decide +kernel
theorem dX11_init_81 : decode cX11_init 81 = .ok (.invokespecial 55, 3) := by decide +kernel
theorem dX11_init_84 : decode cX11_init 84 = .ok (.putfield 56, 3) := by decide +kernel
theorem dX11_init_87 : decode cX11_init 87 = .ok (.aload_n 0, 1) := by decide +kernel
theorem dX11_init_88 : decode cX11_init 88 = .ok (.new 53, 3) := by decide +kernel
theorem dX11_init_91 : decode cX11_init 91 = .ok (.dup, 1) := by decide +kernel
theorem dX11_init_92 : decode cX11_init 92 = .ok (.invokespecial 55, 3) := by decide +kernel
theorem dX11_init_95 : decode cX11_init 95 = .ok (.putfield 60, 3) := by decide +kernel
theorem dX11_init_98 : decode cX11_init 98 = .ok (.aload_n 0, 1) := by decide +kernel
theorem dX11_init_99 : decode cX11_init 99 = .ok (.new 63, 3) := by decide +kernel
theorem dX11_init_102 : decode cX11_init 102 = .ok (.dup, 1) := by decide +kernel
theorem dX11_init_103 : decode cX11_init 103 = .ok (.invokespecial 65, 3) := by decide +kernel
theorem dX11_init_106 : decode cX11_init 106 = .ok (.putfield 66, 3) := by decide +kernel
theorem dX11_init_109 : decode cX11_init 109 = .ok (.aload_n 0, 1) := by decide +kernel
theorem dX11_init_110 : decode cX11_init 110 = .ok (.new 63, 3) := by decide +kernel
theorem dX11_init_113 : decode cX11_init 113 = .ok (.dup, 1) := by decide +kernel
theorem dX11_init_114 : decode cX11_init 114 = .ok (.invokespecial 65, 3) := by decide +kernel
theorem dX11_init_117 : decode cX11_init 117 = .ok (.putfield 70, 3) := by decide +kernel
theorem dX11_init_120 : decode cX11_init 120 = .ok (.aload_n 0, 1) := by decide +kernel
theorem dX11_init_121 : decode cX11_init 121 = .ok (.iconst 3, 1) := by decide +kernel
theorem dX11_init_122 : decode cX11_init 122 = .ok (.anewarray 53, 3) := by decide +kernel
theorem dX11_init_125 : decode cX11_init 125 = .ok (.putfield 73, 3) := by decide +kernel
theorem dX11_init_128 : decode cX11_init 128 = .ok (.aload_n 0, 1) := by decide +kernel
theorem dX11_init_129 : decode cX11_init 129 = .ok (.iconst 3, 1) := by decide +kernel
theorem dX11_init_130 : decode cX11_init 130 = .ok (.anewarray 63, 3) := by decide +kernel
theorem dX11_init_133 : decode cX11_init 133 = .ok (.putfield 77, 3) := by decide +kernel
theorem dX11_init_136 : decode cX11_init 136 = .ok (.iconst 0, 1) := by decide +kernel
theorem dX11_init_137 : decode cX11_init 137 = .ok (.istore_n 1, 1) := by decide +kernel
theorem dX11_init_138 : decode cX11_init 138 = .ok (.iload_n 1, 1) := by decide +kernel
theorem dX11_init_139 : decode cX11_init 139 = .ok (.iconst 3, 1) := by decide +kernel
theorem dX11_init_140 : decode cX11_init 140 = .ok (.if_icmp .ge 35, 3) := by decide +kernel
theorem dX11_init_143 : decode cX11_init 143 = .ok (.aload_n 0, 1) := by decide +kernel
theorem dX11_init_144 : decode cX11_init 144 = .ok (.getfield 73, 3) := by decide +kernel
theorem dX11_init_147 : decode cX11_init 147 = .ok (.iload_n 1, 1) := by decide +kernel
theorem dX11_init_148 : decode cX11_init 148 = .ok (.new 53, 3) := by decide +kernel
theorem dX11_init_151 : decode cX11_init 151 = .ok (.dup, 1) := by decide +kernel
theorem dX11_init_152 : decode cX11_init 152 = .ok (.invokespecial 55, 3) := by decide +kernel
theorem dX11_init_155 : decode cX11_init 155 = .ok (.aastore, 1) := by decide +kernel
theorem dX11_init_156 : decode cX11_init 156 = .ok (.aload_n 0, 1) := by decide +kernel
theorem dX11_init_157 : decode cX11_init 157 = .ok (.getfield 77, 3) := by decide +kernel
theorem dX11_init_160 : decode cX11_init 160 = .ok (.iload_n 1, 1) := by decide +kernel
theorem dX11_init_161 : decode cX11_init 161 = .ok (.new 63, 3) := by decide +kernel
theorem dX11_init_164 : decode cX11_init 164 = .ok (.dup, 1) := by decide +kernel
theorem dX11_init_165 : decode cX11_init 165 = .ok (.invokespecial 65, 3) := by decide +kernel
theorem dX11_init_168 : decode cX11_init 168 = .ok (.aastore, 1) := by decide +kernel
theorem dX11_init_169 : decode cX11_init 169 = .ok (.iinc 1 1, 3) := by decide +kernel
theorem dX11_init_172 : decode cX11_init 172 = .ok (.goto (-34), 3) := by decide +kernel
theorem dX11_init_175 : decode cX11_init 175 = .ok (.aload_n 0, 1) := by decide +kernel
theorem dX11_init_176 : decode cX11_init 176 = .ok (.new 81, 3) := by decide +kernel
theorem dX11_init_179 : decode cX11_init 179 = .ok (.dup, 1) := by decide +kernel
theorem dX11_init_180 : decode cX11_init 180 = .ok (.invokespecial 83, 3) := by decide +kernel
theorem dX11_init_183 : decode cX11_init 183 = .ok (.putfield 84, 3) := by decide +kernel
theorem dX11_init_186 : decode cX11_init 186 = .ok (.aload_n 0, 1) := by decide +kernel
theorem dX11_init_187 : decode cX11_init 187 = .ok (.new 88, 3) := by decide +kernel
theorem dX11_init_190 : decode cX11_init 190 = .ok (.dup, 1) := by decide +kernel
theorem dX11_init_191 : decode cX11_init 191 = .ok (.invokespecial 90, 3) := by decide +kernel
theorem dX11_init_194 : decode cX11_init 194 = .ok (.putfield 91, 3) := by decide +kernel
theorem dX11_init_197 : decode cX11_init 197 = .ok (.aload_n 0, 1) := by decide +kernel
theorem dX11_init_198 : decode cX11_init 198 = .ok (.new 95, 3) := by decide +kernel
theorem dX11_init_201 : decode cX11_init 201 = .ok (.dup, 1) := by decide +kernel
theorem dX11_init_202 : decode cX11_init 202 = .ok (.invokespecial 97, 3) := by decide +kernel
theorem dX11_init_205 : decode cX11_init 205 = .ok (.putfield 98, 3) := by decide +kernel
theorem dX11_init_208 : decode cX11_init 208 = .ok (.aload_n 0, 1) := by decide +kernel
theorem dX11_init_209 : decode cX11_init 209 = .ok (.new 95, 3) := by decide +kernel
theorem dX11_init_212 : decode cX11_init 212 = .ok (.dup, 1) := by decide +kernel
theorem dX11_init_213 : decode cX11_init 213 = .ok (.invokespecial 97, 3) := by decide +kernel
theorem dX11_init_216 : decode cX11_init 216 = .ok (.putfield 102, 3) := by decide +kernel
theorem dX11_init_219 : decode cX11_init 219 = .ok (.return_, 1) := by decide +kernel
theorem dX11_refuse_0 : decode cX11_refuse 0 = .ok (.aload_n 0, 1) := by decide +kernel
theorem dX11_refuse_1 : decode cX11_refuse 1 = .ok (.iload_n 1, 1) := by decide +kernel
theorem dX11_refuse_2 : decode cX11_refuse 2 = .ok (.putfield 7, 3) := by decide +kernel
theorem dX11_refuse_5 : decode cX11_refuse 5 = .ok (.iconst (-1), 1) := by decide +kernel
theorem dX11_refuse_6 : decode cX11_refuse 6 = .ok (.ireturn, 1) := by decide +kernel
theorem dX11_answer_0 : decode cX11_answer 0 = .ok (.aload_n 0, 1) := by decide +kernel
theorem dX11_answer_1 : decode cX11_answer 1 = .ok (.iconst 0, 1) := by decide +kernel
theorem dX11_answer_2 : decode cX11_answer 2 = .ok (.putfield 7, 3) := by decide +kernel
theorem dX11_answer_5 : decode cX11_answer 5 = .ok (.iload_n 1, 1) := by decide +kernel
theorem dX11_answer_6 : decode cX11_answer 6 = .ok (.ireturn, 1) := by decide +kernel
theorem dX11_verdict_0 : decode cX11_verdict 0 = .ok (.aload_n 0, 1) := by decide +kernel
theorem dX11_verdict_1 : decode cX11_verdict 1 = .ok (.iload_n 1, 1) := by decide +kernel
theorem dX11_verdict_2 : decode cX11_verdict 2 = .ok (.putfield 7, 3) := by decide +kernel
theorem dX11_verdict_5 : decode cX11_verdict 5 = .ok (.iload_n 1, 1) := by decide +kernel
theorem dX11_verdict_6 : decode cX11_verdict 6 = .ok (.ifCond .ne 7, 3) := by decide +kernel
theorem dX11_verdict_9 : decode cX11_verdict 9 = .ok (.iconst 1, 1) := by decide +kernel
theorem dX11_verdict_10 : decode cX11_verdict 10 = .ok (.goto 4, 3) := by decide +kernel
theorem dX11_verdict_13 : decode cX11_verdict 13 = .ok (.iconst 0, 1) := by decide +kernel
theorem dX11_verdict_14 : decode cX11_verdict 14 = .ok (.ireturn, 1) := by decide +kernel
theorem dX11_tellFraction_0 : decode cX11_tellFraction 0 = .ok (.lload_n 1, 1) := by decide +kernel
theorem dX11_tellFraction_1 : decode cX11_tellFraction 1 = .ok (.lload_n 3, 1) := by decide +kernel
theorem dX11_tellFraction_2 : decode cX11_tellFraction 2 = .ok (.invokestatic 105, 3) := by decide +kernel
theorem dX11_tellFraction_5 : decode cX11_tellFraction 5 = .ok (.lstore 5, 2) := by decide +kernel
theorem dX11_tellFraction_7 : decode cX11_tellFraction 7 = .ok (.lload 5, 2) := by decide +kernel
theorem dX11_tellFraction_9 : decode cX11_tellFraction 9 = .ok (.lconst 0, 1) := by decide +kernel
theorem dX11_tellFraction_10 : decode cX11_tellFraction 10 = .ok (.lcmp, 1) := by decide +kernel
theorem dX11_tellFraction_11 : decode cX11_tellFraction 11 = .ok (.ifCond .gt 10, 3) := by decide +kernel
theorem dX11_tellFraction_14 : decode cX11_tellFraction 14 = .ok (.aload_n 0, 1) := by decide +kernel
theorem dX11_tellFraction_15 : decode cX11_tellFraction 15 = .ok (.bipush 8, 2) := by decide +kernel
theorem dX11_tellFraction_17 : decode cX11_tellFraction 17 = .ok (.invokevirtual 109, 3) := by decide +kernel
theorem dX11_tellFraction_20 : decode cX11_tellFraction 20 = .ok (.ireturn, 1) := by decide +kernel
theorem dX11_tellFraction_21 : decode cX11_tellFraction 21 = .ok (.aload_n 0, 1) := by decide +kernel
theorem dX11_tellFraction_22 : decode cX11_tellFraction 22 = .ok (.lload_n 1, 1) := by decide +kernel
theorem dX11_tellFraction_23 : decode cX11_tellFraction 23 = .ok (.lload 5, 2) := by decide +kernel
theorem dX11_tellFraction_25 : decode cX11_tellFraction 25 = .ok (.ldiv, 1) := by decide +kernel
theorem dX11_tellFraction_26 : decode cX11_tellFraction 26 = .ok (.putfield 13, 3) := by decide +kernel
theorem dX11_tellFraction_29 : decode cX11_tellFraction 29 = .ok (.aload_n 0, 1) := by decide +kernel
theorem dX11_tellFraction_30 : decode cX11_tellFraction 30 = .ok (.lload_n 3, 1) := by decide +kernel
theorem dX11_tellFraction_31 : decode cX11_tellFraction 31 = .ok (.lload 5, 2) := by decide +kernel
theorem dX11_tellFraction_33 : decode cX11_tellFraction 33 = .ok (.ldiv, 1) := by decide +kernel
theorem dX11_tellFraction_34 : decode cX11_tellFraction 34 = .ok (.putfield 17, 3) := by decide +kernel
theorem dX11_tellFraction_37 : decode cX11_tellFraction 37 = .ok (.aload_n 0, 1) := by decide +kernel
theorem dX11_tellFraction_38 : decode cX11_tellFraction 38 = .ok (.iconst 0, 1) := by decide +kernel
theorem dX11_tellFraction_39 : decode cX11_tellFraction 39 = .ok (.invokevirtual 109, 3) := by decide +kernel
theorem dX11_tellFraction_42 : decode cX11_tellFraction 42 = .ok (.ireturn, 1) := by decide +kernel
theorem dX11_commonDivisor_0 : decode cX11_commonDivisor 0 = .ok (.lload_n 0, 1) := by decide +kernel
theorem dX11_commonDivisor_1 : decode cX11_commonDivisor 1 = .ok (.lstore 4, 2) := by decide +kernel
theorem dX11_commonDivisor_3 : decode cX11_commonDivisor 3 = .ok (.lload_n 2, 1) := by decide +kernel
theorem dX11_commonDivisor_4 : decode cX11_commonDivisor 4 = .ok (.lstore 6, 2) := by decide +kernel
theorem dX11_commonDivisor_6 : decode cX11_commonDivisor 6 = .ok (.iconst 0, 1) := by decide +kernel
theorem dX11_commonDivisor_7 : decode cX11_commonDivisor 7 = .ok (.istore 8, 2) := by decide +kernel
theorem dX11_commonDivisor_9 : decode cX11_commonDivisor 9 = .ok (.iload 8, 2) := by decide +kernel
theorem dX11_commonDivisor_11 : decode cX11_commonDivisor 11 = .ok (.sipush 200, 3) := by decide +kernel
theorem dX11_commonDivisor_14 : decode cX11_commonDivisor 14 = .ok (.if_icmp .ge 31, 3) := by decide +kernel
theorem dX11_commonDivisor_17 : decode cX11_commonDivisor 17 = .ok (.lload 6, 2) := by decide +kernel
theorem dX11_commonDivisor_19 : decode cX11_commonDivisor 19 = .ok (.lconst 0, 1) := by decide +kernel
theorem dX11_commonDivisor_20 : decode cX11_commonDivisor 20 = .ok (.lcmp, 1) := by decide +kernel
theorem dX11_commonDivisor_21 : decode cX11_commonDivisor 21 = .ok (.ifCond .eq 24, 3) := by decide +kernel
theorem dX11_commonDivisor_24 : decode cX11_commonDivisor 24 = .ok (.lload 4, 2) := by decide +kernel
theorem dX11_commonDivisor_26 : decode cX11_commonDivisor 26 = .ok (.lload 6, 2) := by decide +kernel
theorem dX11_commonDivisor_28 : decode cX11_commonDivisor 28 = .ok (.lrem, 1) := by decide +kernel
theorem dX11_commonDivisor_29 : decode cX11_commonDivisor 29 = .ok (.lstore 9, 2) := by decide +kernel
theorem dX11_commonDivisor_31 : decode cX11_commonDivisor 31 = .ok (.lload 6, 2) := by decide +kernel
theorem dX11_commonDivisor_33 : decode cX11_commonDivisor 33 = .ok (.lstore 4, 2) := by decide +kernel
theorem dX11_commonDivisor_35 : decode cX11_commonDivisor 35 = .ok (.lload 9, 2) := by decide +kernel
theorem dX11_commonDivisor_37 : decode cX11_commonDivisor 37 = .ok (.lstore 6, 2) := by decide +kernel
theorem dX11_commonDivisor_39 : decode cX11_commonDivisor 39 = .ok (.iinc 8 1, 3) := by decide +kernel
theorem dX11_commonDivisor_42 : decode cX11_commonDivisor 42 = .ok (.goto (-33), 3) := by decide +kernel
theorem dX11_commonDivisor_45 : decode cX11_commonDivisor 45 = .ok (.lload 4, 2) := by decide +kernel
theorem dX11_commonDivisor_47 : decode cX11_commonDivisor 47 = .ok (.lreturn, 1) := by decide +kernel
theorem dX11_within_0 : decode cX11_within 0 = .ok (.iload_n 0, 1) := by decide +kernel
theorem dX11_within_1 : decode cX11_within 1 = .ok (.iload_n 1, 1) := by decide +kernel
theorem dX11_within_2 : decode cX11_within 2 = .ok (.if_icmp .lt 12, 3) := by decide +kernel
theorem dX11_within_5 : decode cX11_within 5 = .ok (.iload_n 0, 1) := by decide +kernel
theorem dX11_within_6 : decode cX11_within 6 = .ok (.iload_n 2, 1) := by decide +kernel
theorem dX11_within_7 : decode cX11_within 7 = .ok (.if_icmp .gt 7, 3) := by decide +kernel
theorem dX11_within_10 : decode cX11_within 10 = .ok (.iconst 1, 1) := by decide +kernel
theorem dX11_within_11 : decode cX11_within 11 = .ok (.goto 4, 3) := by decide +kernel
theorem dX11_within_14 : decode cX11_within 14 = .ok (.iconst 0, 1) := by decide +kernel
theorem dX11_within_15 : decode cX11_within 15 = .ok (.ireturn, 1) := by decide +kernel
theorem dX11_status_0 : decode cX11_status 0 = .ok (.aload_n 0, 1) := by decide +kernel
theorem dX11_status_1 : decode cX11_status 1 = .ok (.getfield 7, 3) := by decide +kernel
theorem dX11_status_4 : decode cX11_status 4 = .ok (.ireturn, 1) := by decide +kernel
theorem dX11_top_0 : decode cX11_top 0 = .ok (.aload_n 0, 1) := by decide +kernel
theorem dX11_top_1 : decode cX11_top 1 = .ok (.getfield 13, 3) := by decide +kernel
theorem dX11_top_4 : decode cX11_top 4 = .ok (.lreturn, 1) := by decide +kernel
theorem dX11_bottom_0 : decode cX11_bottom 0 = .ok (.aload_n 0, 1) := by decide +kernel
theorem dX11_bottom_1 : decode cX11_bottom 1 = .ok (.getfield 17, 3) := by decide +kernel
theorem dX11_bottom_4 : decode cX11_bottom 4 = .ok (.lreturn, 1) := by decide +kernel
theorem dX11_tray_0 : decode cX11_tray 0 = .ok (.aload_n 0, 1) := by decide +kernel
theorem dX11_tray_1 : decode cX11_tray 1 = .ok (.getfield 26, 3) := by decide +kernel
theorem dX11_tray_4 : decode cX11_tray 4 = .ok (.iload_n 1, 1) := by decide +kernel
theorem dX11_tray_5 : decode cX11_tray 5 = .ok (.invokevirtual 113, 3) := by decide +kernel
theorem dX11_tray_8 : decode cX11_tray 8 = .ok (.ifCond .eq 12, 3) := by decide +kernel
theorem dX11_tray_11 : decode cX11_tray 11 = .ok (.iload_n 2, 1) := by decide +kernel
theorem dX11_tray_12 : decode cX11_tray 12 = .ok (.iconst 0, 1) := by decide +kernel
theorem dX11_tray_13 : decode cX11_tray 13 = .ok (.iconst 3, 1) := by decide +kernel
theorem dX11_tray_14 : decode cX11_tray 14 = .ok (.invokestatic 116, 3) := by decide +kernel
theorem dX11_tray_17 : decode cX11_tray 17 = .ok (.ifCond .ne 9, 3) := by decide +kernel
theorem dX11_tray_20 : decode cX11_tray 20 = .ok (.aload_n 0, 1) := by decide +kernel
theorem dX11_tray_21 : decode cX11_tray 21 = .ok (.iconst 1, 1) := by decide +kernel
theorem dX11_tray_22 : decode cX11_tray 22 = .ok (.invokevirtual 109, 3) := by decide +kernel
theorem dX11_tray_25 : decode cX11_tray 25 = .ok (.ireturn, 1) := by decide +kernel
theorem dX11_tray_26 : decode cX11_tray 26 = .ok (.iload_n 3, 1) := by decide +kernel
theorem dX11_tray_27 : decode cX11_tray 27 = .ok (.bipush 60, 2) := by decide +kernel
theorem dX11_tray_29 : decode cX11_tray 29 = .ok (.if_icmp .le 9, 3) := by decide +kernel
theorem dX11_tray_32 : decode cX11_tray 32 = .ok (.aload_n 0, 1) := by decide +kernel
theorem dX11_tray_33 : decode cX11_tray 33 = .ok (.iconst 5, 1) := by decide +kernel
theorem dX11_tray_34 : decode cX11_tray 34 = .ok (.invokevirtual 109, 3) := by decide +kernel
theorem dX11_tray_37 : decode cX11_tray 37 = .ok (.ireturn, 1) := by decide +kernel
theorem dX11_tray_38 : decode cX11_tray 38 = .ok (.iload_n 3, 1) := by decide +kernel
theorem dX11_tray_39 : decode cX11_tray 39 = .ok (.ifCond .ge 10, 3) := by decide +kernel
theorem dX11_tray_42 : decode cX11_tray 42 = .ok (.aload_n 0, 1) := by decide +kernel
theorem dX11_tray_43 : decode cX11_tray 43 = .ok (.bipush 6, 2) := by decide +kernel
theorem dX11_tray_45 : decode cX11_tray 45 = .ok (.invokevirtual 109, 3) := by decide +kernel
theorem dX11_tray_48 : decode cX11_tray 48 = .ok (.ireturn, 1) := by decide +kernel
theorem dX11_tray_49 : decode cX11_tray 49 = .ok (.aload_n 0, 1) := by decide +kernel
theorem dX11_tray_50 : decode cX11_tray 50 = .ok (.getfield 26, 3) := by decide +kernel
theorem dX11_tray_53 : decode cX11_tray 53 = .ok (.iload_n 1, 1) := by decide +kernel
theorem dX11_tray_54 : decode cX11_tray 54 = .ok (.iload_n 2, 1) := by decide +kernel
theorem dX11_tray_55 : decode cX11_tray 55 = .ok (.iload_n 3, 1) := by decide +kernel
theorem dX11_tray_56 : decode cX11_tray 56 = .ok (.invokevirtual 120, 3) := by decide +kernel
theorem dX11_tray_59 : decode cX11_tray 59 = .ok (.aload_n 0, 1) := by decide +kernel
theorem dX11_tray_60 : decode cX11_tray 60 = .ok (.iconst 0, 1) := by decide +kernel
theorem dX11_tray_61 : decode cX11_tray 61 = .ok (.invokevirtual 109, 3) := by decide +kernel
theorem dX11_tray_64 : decode cX11_tray 64 = .ok (.ireturn, 1) := by decide +kernel
theorem dX11_write_0 : decode cX11_write 0 = .ok (.aload_n 0, 1) := by decide +kernel
theorem dX11_write_1 : decode cX11_write 1 = .ok (.getfield 26, 3) := by decide +kernel
theorem dX11_write_4 : decode cX11_write 4 = .ok (.iload_n 1, 1) := by decide +kernel
theorem dX11_write_5 : decode cX11_write 5 = .ok (.iload_n 2, 1) := by decide +kernel
theorem dX11_write_6 : decode cX11_write 6 = .ok (.invokevirtual 124, 3) := by decide +kernel
theorem dX11_write_9 : decode cX11_write 9 = .ok (.istore 5, 2) := by decide +kernel
theorem dX11_write_11 : decode cX11_write 11 = .ok (.iload 5, 2) := by decide +kernel
theorem dX11_write_13 : decode cX11_write 13 = .ok (.ifCond .ne 13, 3) := by decide +kernel
theorem dX11_write_16 : decode cX11_write 16 = .ok (.aload_n 0, 1) := by decide +kernel
theorem dX11_write_17 : decode cX11_write 17 = .ok (.getfield 26, 3) := by decide +kernel
theorem dX11_write_20 : decode cX11_write 20 = .ok (.iload_n 1, 1) := by decide +kernel
theorem dX11_write_21 : decode cX11_write 21 = .ok (.iload_n 2, 1) := by decide +kernel
theorem dX11_write_22 : decode cX11_write 22 = .ok (.lload_n 3, 1) := by decide +kernel
theorem dX11_write_23 : decode cX11_write 23 = .ok (.invokevirtual 128, 3) := by decide +kernel
theorem dX11_write_26 : decode cX11_write 26 = .ok (.aload_n 0, 1) := by decide +kernel
theorem dX11_write_27 : decode cX11_write 27 = .ok (.iload 5, 2) := by decide +kernel
theorem dX11_write_29 : decode cX11_write 29 = .ok (.invokevirtual 109, 3) := by decide +kernel
theorem dX11_write_32 : decode cX11_write 32 = .ok (.ireturn, 1) := by decide +kernel
theorem dX11_read_0 : decode cX11_read 0 = .ok (.aload_n 0, 1) := by decide +kernel
theorem dX11_read_1 : decode cX11_read 1 = .ok (.getfield 26, 3) := by decide +kernel
theorem dX11_read_4 : decode cX11_read 4 = .ok (.iload_n 1, 1) := by decide +kernel
theorem dX11_read_5 : decode cX11_read 5 = .ok (.iload_n 2, 1) := by decide +kernel
theorem dX11_read_6 : decode cX11_read 6 = .ok (.invokevirtual 124, 3) := by decide +kernel
theorem dX11_read_9 : decode cX11_read 9 = .ok (.istore_n 3, 1) := by decide +kernel
theorem dX11_read_10 : decode cX11_read 10 = .ok (.aload_n 0, 1) := by decide +kernel
theorem dX11_read_11 : decode cX11_read 11 = .ok (.iload_n 3, 1) := by decide +kernel
theorem dX11_read_12 : decode cX11_read 12 = .ok (.putfield 7, 3) := by decide +kernel
theorem dX11_read_15 : decode cX11_read 15 = .ok (.iload_n 3, 1) := by decide +kernel
theorem dX11_read_16 : decode cX11_read 16 = .ok (.ifCond .ne 17, 3) := by decide +kernel
theorem dX11_read_19 : decode cX11_read 19 = .ok (.aload_n 0, 1) := by decide +kernel
theorem dX11_read_20 : decode cX11_read 20 = .ok (.getfield 26, 3) := by decide +kernel
theorem dX11_read_23 : decode cX11_read 23 = .ok (.getfield 132, 3) := by decide +kernel
theorem dX11_read_26 : decode cX11_read 26 = .ok (.iload_n 1, 1) := by decide +kernel
theorem dX11_read_27 : decode cX11_read 27 = .ok (.aaload, 1) := by decide +kernel
theorem dX11_read_28 : decode cX11_read 28 = .ok (.iload_n 2, 1) := by decide +kernel
theorem dX11_read_29 : decode cX11_read 29 = .ok (.laload, 1) := by decide +kernel
theorem dX11_read_30 : decode cX11_read 30 = .ok (.goto 6, 3) := by decide +kernel
theorem dX11_read_33 : decode cX11_read 33 = .ok (.ldc2_w 136, 3) := by decide +kernel
theorem dX11_read_36 : decode cX11_read 36 = .ok (.lreturn, 1) := by decide +kernel
theorem dX11_pour_0 : decode cX11_pour 0 = .ok (.aload_n 0, 1) := by decide +kernel
theorem dX11_pour_1 : decode cX11_pour 1 = .ok (.getfield 26, 3) := by decide +kernel
theorem dX11_pour_4 : decode cX11_pour 4 = .ok (.iload_n 1, 1) := by decide +kernel
theorem dX11_pour_5 : decode cX11_pour 5 = .ok (.invokevirtual 113, 3) := by decide +kernel
theorem dX11_pour_8 : decode cX11_pour 8 = .ok (.ifCond .eq 14, 3) := by decide +kernel
theorem dX11_pour_11 : decode cX11_pour 11 = .ok (.aload_n 0, 1) := by decide +kernel
theorem dX11_pour_12 : decode cX11_pour 12 = .ok (.getfield 26, 3) := by decide +kernel
theorem dX11_pour_15 : decode cX11_pour 15 = .ok (.iload_n 3, 1) := by decide +kernel
theorem dX11_pour_16 : decode cX11_pour 16 = .ok (.invokevirtual 113, 3) := by decide +kernel
theorem dX11_pour_19 : decode cX11_pour 19 = .ok (.ifCond .ne 9, 3) := by decide +kernel
theorem dX11_pour_22 : decode cX11_pour 22 = .ok (.aload_n 0, 1) := by decide +kernel
theorem dX11_pour_23 : decode cX11_pour 23 = .ok (.iconst 1, 1) := by decide +kernel
theorem dX11_pour_24 : decode cX11_pour 24 = .ok (.invokevirtual 109, 3) := by decide +kernel
theorem dX11_pour_27 : decode cX11_pour 27 = .ok (.ireturn, 1) := by decide +kernel
theorem dX11_pour_28 : decode cX11_pour 28 = .ok (.aload_n 0, 1) := by decide +kernel
theorem dX11_pour_29 : decode cX11_pour 29 = .ok (.getfield 26, 3) := by decide +kernel
theorem dX11_pour_32 : decode cX11_pour 32 = .ok (.iload_n 1, 1) := by decide +kernel
theorem dX11_pour_33 : decode cX11_pour 33 = .ok (.invokevirtual 138, 3) := by decide +kernel
theorem dX11_pour_36 : decode cX11_pour 36 = .ok (.ifCond .ne 14, 3) := by decide +kernel
theorem dX11_pour_39 : decode cX11_pour 39 = .ok (.aload_n 0, 1) := by decide +kernel
theorem dX11_pour_40 : decode cX11_pour 40 = .ok (.getfield 26, 3) := by decide +kernel
theorem dX11_pour_43 : decode cX11_pour 43 = .ok (.iload_n 3, 1) := by decide +kernel
theorem dX11_pour_44 : decode cX11_pour 44 = .ok (.invokevirtual 138, 3) := by decide +kernel
theorem dX11_pour_47 : decode cX11_pour 47 = .ok (.ifCond .eq 9, 3) := by decide +kernel
theorem dX11_pour_50 : decode cX11_pour 50 = .ok (.aload_n 0, 1) := by decide +kernel
theorem dX11_pour_51 : decode cX11_pour 51 = .ok (.iconst 3, 1) := by decide +kernel
theorem dX11_pour_52 : decode cX11_pour 52 = .ok (.invokevirtual 109, 3) := by decide +kernel
theorem dX11_pour_55 : decode cX11_pour 55 = .ok (.ireturn, 1) := by decide +kernel
theorem dX11_pour_56 : decode cX11_pour 56 = .ok (.aload_n 0, 1) := by decide +kernel
theorem dX11_pour_57 : decode cX11_pour 57 = .ok (.getfield 26, 3) := by decide +kernel
theorem dX11_pour_60 : decode cX11_pour 60 = .ok (.getfield 141, 3) := by decide +kernel
theorem dX11_pour_63 : decode cX11_pour 63 = .ok (.iload_n 1, 1) := by decide +kernel
theorem dX11_pour_64 : decode cX11_pour 64 = .ok (.iaload, 1) := by decide +kernel
theorem dX11_pour_65 : decode cX11_pour 65 = .ok (.aload_n 0, 1) := by decide +kernel
theorem dX11_pour_66 : decode cX11_pour 66 = .ok (.getfield 26, 3) := by decide +kernel
theorem dX11_pour_69 : decode cX11_pour 69 = .ok (.getfield 141, 3) := by decide +kernel
theorem dX11_pour_72 : decode cX11_pour 72 = .ok (.iload_n 3, 1) := by decide +kernel
theorem dX11_pour_73 : decode cX11_pour 73 = .ok (.iaload, 1) := by decide +kernel
theorem dX11_pour_74 : decode cX11_pour 74 = .ok (.if_icmp .eq 10, 3) := by decide +kernel
theorem dX11_pour_77 : decode cX11_pour 77 = .ok (.aload_n 0, 1) := by decide +kernel
theorem dX11_pour_78 : decode cX11_pour 78 = .ok (.bipush 11, 2) := by decide +kernel
theorem dX11_pour_80 : decode cX11_pour 80 = .ok (.invokevirtual 109, 3) := by decide +kernel
theorem dX11_pour_83 : decode cX11_pour 83 = .ok (.ireturn, 1) := by decide +kernel
theorem dX11_pour_84 : decode cX11_pour 84 = .ok (.iload 5, 2) := by decide +kernel
theorem dX11_pour_86 : decode cX11_pour 86 = .ok (.ifCond .ge 10, 3) := by decide +kernel
theorem dX11_pour_89 : decode cX11_pour 89 = .ok (.aload_n 0, 1) := by decide +kernel
theorem dX11_pour_90 : decode cX11_pour 90 = .ok (.bipush 6, 2) := by decide +kernel
theorem dX11_pour_92 : decode cX11_pour 92 = .ok (.invokevirtual 109, 3) := by decide +kernel
theorem dX11_pour_95 : decode cX11_pour 95 = .ok (.ireturn, 1) := by decide +kernel
theorem dX11_pour_96 : decode cX11_pour 96 = .ok (.aload_n 0, 1) := by decide +kernel
theorem dX11_pour_97 : decode cX11_pour 97 = .ok (.getfield 26, 3) := by decide +kernel
theorem dX11_pour_100 : decode cX11_pour 100 = .ok (.iload_n 1, 1) := by decide +kernel
theorem dX11_pour_101 : decode cX11_pour 101 = .ok (.iload_n 2, 1) := by decide +kernel
theorem dX11_pour_102 : decode cX11_pour 102 = .ok (.iload 5, 2) := by decide +kernel
theorem dX11_pour_104 : decode cX11_pour 104 = .ok (.invokevirtual 145, 3) := by decide +kernel
theorem dX11_pour_107 : decode cX11_pour 107 = .ok (.ifCond .eq 18, 3) := by decide +kernel
theorem dX11_pour_110 : decode cX11_pour 110 = .ok (.aload_n 0, 1) := by decide +kernel
theorem dX11_pour_111 : decode cX11_pour 111 = .ok (.getfield 26, 3) := by decide +kernel
theorem dX11_pour_114 : decode cX11_pour 114 = .ok (.iload_n 3, 1) := by decide +kernel
theorem dX11_pour_115 : decode cX11_pour 115 = .ok (.iload 4, 2) := by decide +kernel
theorem dX11_pour_117 : decode cX11_pour 117 = .ok (.iload 5, 2) := by decide +kernel
theorem dX11_pour_119 : decode cX11_pour 119 = .ok (.invokevirtual 145, 3) := by decide +kernel
theorem dX11_pour_122 : decode cX11_pour 122 = .ok (.ifCond .ne 9, 3) := by decide +kernel
theorem dX11_pour_125 : decode cX11_pour 125 = .ok (.aload_n 0, 1) := by decide +kernel
theorem dX11_pour_126 : decode cX11_pour 126 = .ok (.iconst 4, 1) := by decide +kernel
theorem dX11_pour_127 : decode cX11_pour 127 = .ok (.invokevirtual 109, 3) := by decide +kernel
theorem dX11_pour_130 : decode cX11_pour 130 = .ok (.ireturn, 1) := by decide +kernel
theorem dX11_pour_131 : decode cX11_pour 131 = .ok (.aload_n 0, 1) := by decide +kernel
theorem dX11_pour_132 : decode cX11_pour 132 = .ok (.getfield 26, 3) := by decide +kernel
theorem dX11_pour_135 : decode cX11_pour 135 = .ok (.getfield 132, 3) := by decide +kernel
theorem dX11_pour_138 : decode cX11_pour 138 = .ok (.iload_n 1, 1) := by decide +kernel
theorem dX11_pour_139 : decode cX11_pour 139 = .ok (.aaload, 1) := by decide +kernel
theorem dX11_pour_140 : decode cX11_pour 140 = .ok (.iload_n 2, 1) := by decide +kernel
theorem dX11_pour_141 : decode cX11_pour 141 = .ok (.aload_n 0, 1) := by decide +kernel
theorem dX11_pour_142 : decode cX11_pour 142 = .ok (.getfield 26, 3) := by decide +kernel
theorem dX11_pour_145 : decode cX11_pour 145 = .ok (.getfield 132, 3) := by decide +kernel
theorem dX11_pour_148 : decode cX11_pour 148 = .ok (.iload_n 3, 1) := by decide +kernel
theorem dX11_pour_149 : decode cX11_pour 149 = .ok (.aaload, 1) := by decide +kernel
theorem dX11_pour_150 : decode cX11_pour 150 = .ok (.iload 4, 2) := by decide +kernel
theorem dX11_pour_152 : decode cX11_pour 152 = .ok (.iload 5, 2) := by decide +kernel
theorem dX11_pour_154 : decode cX11_pour 154 = .ok (.invokestatic 148, 3) := by decide +kernel
theorem dX11_pour_157 : decode cX11_pour 157 = .ok (.aload_n 0, 1) := by decide +kernel
theorem dX11_pour_158 : decode cX11_pour 158 = .ok (.iconst 0, 1) := by decide +kernel
theorem dX11_pour_159 : decode cX11_pour 159 = .ok (.invokevirtual 109, 3) := by decide +kernel
theorem dX11_pour_162 : decode cX11_pour 162 = .ok (.ireturn, 1) := by decide +kernel
theorem dX11_feed_0 : decode cX11_feed 0 = .ok (.aload_n 0, 1) := by decide +kernel
theorem dX11_feed_1 : decode cX11_feed 1 = .ok (.getfield 33, 3) := by decide +kernel
theorem dX11_feed_4 : decode cX11_feed 4 = .ok (.getfield 154, 3) := by decide +kernel
theorem dX11_feed_7 : decode cX11_feed 7 = .ok (.bipush 20, 2) := by decide +kernel
theorem dX11_feed_9 : decode cX11_feed 9 = .ok (.iadd, 1) := by decide +kernel
theorem dX11_feed_10 : decode cX11_feed 10 = .ok (.sipush 900, 3) := by decide +kernel
theorem dX11_feed_13 : decode cX11_feed 13 = .ok (.if_icmp .le 5, 3) := by decide +kernel
theorem dX11_feed_16 : decode cX11_feed 16 = .ok (.iconst (-1), 1) := by decide +kernel
theorem dX11_feed_17 : decode cX11_feed 17 = .ok (.ireturn, 1) := by decide +kernel
theorem dX11_feed_18 : decode cX11_feed 18 = .ok (.aload_n 0, 1) := by decide +kernel
theorem dX11_feed_19 : decode cX11_feed 19 = .ok (.getfield 33, 3) := by decide +kernel
theorem dX11_feed_22 : decode cX11_feed 22 = .ok (.iload_n 1, 1) := by decide +kernel
theorem dX11_feed_23 : decode cX11_feed 23 = .ok (.invokevirtual 157, 3) := by decide +kernel
theorem dX11_feed_26 : decode cX11_feed 26 = .ok (.aload_n 0, 1) := by decide +kernel
theorem dX11_feed_27 : decode cX11_feed 27 = .ok (.getfield 33, 3) := by decide +kernel
theorem dX11_feed_30 : decode cX11_feed 30 = .ok (.iload_n 2, 1) := by decide +kernel
theorem dX11_feed_31 : decode cX11_feed 31 = .ok (.invokevirtual 157, 3) := by decide +kernel
theorem dX11_feed_34 : decode cX11_feed 34 = .ok (.aload_n 0, 1) := by decide +kernel
theorem dX11_feed_35 : decode cX11_feed 35 = .ok (.getfield 33, 3) := by decide +kernel
theorem dX11_feed_38 : decode cX11_feed 38 = .ok (.iload_n 3, 1) := by decide +kernel
theorem dX11_feed_39 : decode cX11_feed 39 = .ok (.invokevirtual 157, 3) := by decide +kernel
theorem dX11_feed_42 : decode cX11_feed 42 = .ok (.aload_n 0, 1) := by decide +kernel
theorem dX11_feed_43 : decode cX11_feed 43 = .ok (.getfield 33, 3) := by decide +kernel
theorem dX11_feed_46 : decode cX11_feed 46 = .ok (.iload 4, 2) := by decide +kernel
theorem dX11_feed_48 : decode cX11_feed 48 = .ok (.invokevirtual 157, 3) := by decide +kernel
theorem dX11_feed_51 : decode cX11_feed 51 = .ok (.aload_n 0, 1) := by decide +kernel
theorem dX11_feed_52 : decode cX11_feed 52 = .ok (.getfield 33, 3) := by decide +kernel
theorem dX11_feed_55 : decode cX11_feed 55 = .ok (.iload 5, 2) := by decide +kernel
theorem dX11_feed_57 : decode cX11_feed 57 = .ok (.invokevirtual 157, 3) := by decide +kernel
theorem dX11_feed_60 : decode cX11_feed 60 = .ok (.aload_n 0, 1) := by decide +kernel
theorem dX11_feed_61 : decode cX11_feed 61 = .ok (.getfield 33, 3) := by decide +kernel
theorem dX11_feed_64 : decode cX11_feed 64 = .ok (.getfield 154, 3) := by decide +kernel
theorem dX11_feed_67 : decode cX11_feed 67 = .ok (.ireturn, 1) := by decide +kernel
theorem dX11_book_0 : decode cX11_book 0 = .ok (.iload_n 1, 1) := by decide +kernel
theorem dX11_book_1 : decode cX11_book 1 = .ok (.ifCond .lt 14, 3) := by decide +kernel
theorem dX11_book_4 : decode cX11_book 4 = .ok (.iload_n 1, 1) := by decide +kernel
theorem dX11_book_5 : decode cX11_book 5 = .ok (.aload_n 0, 1) := by decide +kernel
theorem dX11_book_6 : decode cX11_book 6 = .ok (.getfield 33, 3) := by decide +kernel
theorem dX11_book_9 : decode cX11_book 9 = .ok (.getfield 154, 3) := by decide +kernel
theorem dX11_book_12 : decode cX11_book 12 = .ok (.if_icmp .le 9, 3) := by decide +kernel
