theorem dX0_init_0 : decode cX0_init 0 = .ok (.aload_n 0, 1) := by decide +kernel
theorem dX0_init_1 : decode cX0_init 1 = .ok (.invokespecial 3, 3) := by decide +kernel
theorem dX0_init_4 : decode cX0_init 4 = .ok (.aload_n 0, 1) := by decide +kernel
theorem dX0_init_5 : decode cX0_init 5 = .ok (.new 9, 3) := by decide +kernel
theorem dX0_init_8 : decode cX0_init 8 = .ok (.dup, 1) := by decide +kernel
theorem dX0_init_9 : decode cX0_init 9 = .ok (.invokespecial 11, 3) := by decide +kernel
theorem dX0_init_12 : decode cX0_init 12 = .ok (.putfield 12, 3) := by decide +kernel
theorem dX0_init_15 : decode cX0_init 15 = .ok (.aload_n 0, 1) := by decide +kernel
theorem dX0_init_16 : decode cX0_init 16 = .ok (.iconst 5, 1) := by decide +kernel
theorem dX0_init_17 : decode cX0_init 17 = .ok (.newarray .int, 2) := by decide +kernel
theorem dX0_init_19 : decode cX0_init 19 = .ok (.putfield 18, 3) := by decide +kernel
theorem dX0_init_22 : decode cX0_init 22 = .ok (.aload_n 0, 1) := by decide +kernel
theorem dX0_init_23 : decode cX0_init 23 = .ok (.iconst 5, 1) := by decide +kernel
theorem dX0_init_24 : decode cX0_init 24 = .ok (.newarray .long, 2) := by decide +kernel
theorem dX0_init_26 : decode cX0_init 26 = .ok (.putfield 22, 3) := by decide +kernel
theorem dX0_init_29 : decode cX0_init 29 = .ok (.aload_n 0, 1) := by decide +kernel
theorem dX0_init_30 : decode cX0_init 30 = .ok (.bipush 25, 2) := by decide +kernel
theorem dX0_init_32 : decode cX0_init 32 = .ok (.newarray .int, 2) := by decide +kernel
theorem dX0_init_34 : decode cX0_init 34 = .ok (.putfield 26, 3) := by decide +kernel
theorem dX0_init_37 : decode cX0_init 37 = .ok (.aload_n 0, 1) := by decide +kernel
theorem dX0_init_38 : decode cX0_init 38 = .ok (.bipush 25, 2) := by decide +kernel
theorem dX0_init_40 : decode cX0_init 40 = .ok (.newarray .int, 2) := by decide +kernel
theorem dX0_init_42 : decode cX0_init 42 = .ok (.putfield 29, 3) := by decide +kernel
theorem dX0_init_45 : decode cX0_init 45 = .ok (.aload_n 0, 1) := by decide +kernel
theorem dX0_init_46 : decode cX0_init 46 = .ok (.bipush 25, 2) := by decide +kernel
theorem dX0_init_48 : decode cX0_init 48 = .ok (.newarray .int, 2) := by decide +kernel
theorem dX0_init_50 : decode cX0_init 50 = .ok (.putfield 32, 3) := by decide +kernel
theorem dX0_init_53 : decode cX0_init 53 = .ok (.aload_n 0, 1) := by decide +kernel
theorem dX0_init_54 : decode cX0_init 54 = .ok (.bipush 25, 2) := by decide +kernel
theorem dX0_init_56 : decode cX0_init 56 = .ok (.newarray .int, 2) := by decide +kernel
theorem dX0_init_58 : decode cX0_init 58 = .ok (.putfield 35, 3) := by decide +kernel
theorem dX0_init_61 : decode cX0_init 61 = .ok (.aload_n 0, 1) := by decide +kernel
theorem dX0_init_62 : decode cX0_init 62 = .ok (.invokevirtual 38, 3) := by decide +kernel
theorem dX0_init_65 : decode cX0_init 65 = .ok (.return_, 1) := by decide +kernel
theorem dX0_setBare_0 : decode cX0_setBare 0 = .ok (.aload_n 0, 1) := by decide +kernel
theorem dX0_setBare_1 : decode cX0_setBare 1 = .ok (.iconst 3, 1) := by decide +kernel
theorem dX0_setBare_2 : decode cX0_setBare 2 = .ok (.putfield 41, 3) := by decide +kernel
theorem dX0_setBare_5 : decode cX0_setBare 5 = .ok (.aload_n 0, 1) := by decide +kernel
theorem dX0_setBare_6 : decode cX0_setBare 6 = .ok (.iconst 2, 1) := by decide +kernel
theorem dX0_setBare_7 : decode cX0_setBare 7 = .ok (.putfield 45, 3) := by decide +kernel
theorem dX0_setBare_10 : decode cX0_setBare 10 = .ok (.aload_n 0, 1) := by decide +kernel
theorem dX0_setBare_11 : decode cX0_setBare 11 = .ok (.iconst 2, 1) := by decide +kernel
theorem dX0_setBare_12 : decode cX0_setBare 12 = .ok (.putfield 48, 3) := by decide +kernel
theorem dX0_setBare_15 : decode cX0_setBare 15 = .ok (.aload_n 0, 1) := by decide +kernel
theorem dX0_setBare_16 : decode cX0_setBare 16 = .ok (.iconst 0, 1) := by decide +kernel
theorem dX0_setBare_17 : decode cX0_setBare 17 = .ok (.putfield 51, 3) := by decide +kernel
theorem dX0_setBare_20 : decode cX0_setBare 20 = .ok (.aload_n 0, 1) := by decide +kernel
theorem dX0_setBare_21 : decode cX0_setBare 21 = .ok (.iconst 0, 1) := by decide +kernel
theorem dX0_setBare_22 : decode cX0_setBare 22 = .ok (.putfield 54, 3) := by decide +kernel
theorem dX0_setBare_25 : decode cX0_setBare 25 = .ok (.aload_n 0, 1) := by decide +kernel
theorem dX0_setBare_26 : decode cX0_setBare 26 = .ok (.iconst 0, 1) := by decide +kernel
theorem dX0_setBare_27 : decode cX0_setBare 27 = .ok (.putfield 57, 3) := by decide +kernel
theorem dX0_setBare_30 : decode cX0_setBare 30 = .ok (.aload_n 0, 1) := by decide +kernel
theorem dX0_setBare_31 : decode cX0_setBare 31 = .ok (.iconst 0, 1) := by decide +kernel
theorem dX0_setBare_32 : decode cX0_setBare 32 = .ok (.putfield 60, 3) := by decide +kernel
theorem dX0_setBare_35 : decode cX0_setBare 35 = .ok (.aload_n 0, 1) := by decide +kernel
theorem dX0_setBare_36 : decode cX0_setBare 36 = .ok (.getfield 12, 3) := by decide +kernel
theorem dX0_setBare_39 : decode cX0_setBare 39 = .ok (.iconst 0, 1) := by decide +kernel
theorem dX0_setBare_40 : decode cX0_setBare 40 = .ok (.putfield 63, 3) := by decide +kernel
theorem dX0_setBare_43 : decode cX0_setBare 43 = .ok (.return_, 1) := by decide +kernel
theorem dX0_empty_0 : decode cX0_empty 0 = .ok (.aload_n 0, 1) := by decide +kernel
theorem dX0_empty_1 : decode cX0_empty 1 = .ok (.invokevirtual 38, 3) := by decide +kernel
theorem dX0_empty_4 : decode cX0_empty 4 = .ok (.aload_n 0, 1) := by decide +kernel
theorem dX0_empty_5 : decode cX0_empty 5 = .ok (.getfield 26, 3) := by decide +kernel
theorem dX0_empty_8 : decode cX0_empty 8 = .ok (.iconst 0, 1) := by decide +kernel
theorem dX0_empty_9 : decode cX0_empty 9 = .ok (.invokestatic 66, 3) := by decide +kernel
theorem dX0_empty_12 : decode cX0_empty 12 = .ok (.aload_n 0, 1) := by decide +kernel
theorem dX0_empty_13 : decode cX0_empty 13 = .ok (.getfield 29, 3) := by decide +kernel
theorem dX0_empty_16 : decode cX0_empty 16 = .ok (.iconst 0, 1) := by decide +kernel
theorem dX0_empty_17 : decode cX0_empty 17 = .ok (.invokestatic 66, 3) := by decide +kernel
theorem dX0_empty_20 : decode cX0_empty 20 = .ok (.aload_n 0, 1) := by decide +kernel
theorem dX0_empty_21 : decode cX0_empty 21 = .ok (.getfield 32, 3) := by decide +kernel
theorem dX0_empty_24 : decode cX0_empty 24 = .ok (.iconst 0, 1) := by decide +kernel
theorem dX0_empty_25 : decode cX0_empty 25 = .ok (.invokestatic 66, 3) := by decide +kernel
theorem dX0_empty_28 : decode cX0_empty 28 = .ok (.return_, 1) := by decide +kernel
theorem dX0_takeFrom_0 : decode cX0_takeFrom 0 = .ok (.aload_n 0, 1) := by decide +kernel
theorem dX0_takeFrom_1 : decode cX0_takeFrom 1 = .ok (.aload_n 1, 1) := by decide +kernel
theorem dX0_takeFrom_2 : decode cX0_takeFrom 2 = .ok (.getfield 41, 3) := by decide +kernel
theorem dX0_takeFrom_5 : decode cX0_takeFrom 5 = .ok (.putfield 41, 3) := by decide +kernel
theorem dX0_takeFrom_8 : decode cX0_takeFrom 8 = .ok (.aload_n 0, 1) := by decide +kernel
theorem dX0_takeFrom_9 : decode cX0_takeFrom 9 = .ok (.aload_n 1, 1) := by decide +kernel
theorem dX0_takeFrom_10 : decode cX0_takeFrom 10 = .ok (.getfield 45, 3) := by decide +kernel
theorem dX0_takeFrom_13 : decode cX0_takeFrom 13 = .ok (.putfield 45, 3) := by decide +kernel
theorem dX0_takeFrom_16 : decode cX0_takeFrom 16 = .ok (.aload_n 0, 1) := by decide +kernel
theorem dX0_takeFrom_17 : decode cX0_takeFrom 17 = .ok (.aload_n 1, 1) := by decide +kernel
theorem dX0_takeFrom_18 : decode cX0_takeFrom 18 = .ok (.getfield 48, 3) := by decide +kernel
theorem dX0_takeFrom_21 : decode cX0_takeFrom 21 = .ok (.putfield 48, 3) := by decide +kernel
theorem dX0_takeFrom_24 : decode cX0_takeFrom 24 = .ok (.aload_n 0, 1) := by decide +kernel
theorem dX0_takeFrom_25 : decode cX0_takeFrom 25 = .ok (.aload_n 1, 1) := by decide +kernel
theorem dX0_takeFrom_26 : decode cX0_takeFrom 26 = .ok (.getfield 51, 3) := by decide +kernel
theorem dX0_takeFrom_29 : decode cX0_takeFrom 29 = .ok (.putfield 51, 3) := by decide +kernel
theorem dX0_takeFrom_32 : decode cX0_takeFrom 32 = .ok (.aload_n 0, 1) := by decide +kernel
theorem dX0_takeFrom_33 : decode cX0_takeFrom 33 = .ok (.aload_n 1, 1) := by decide +kernel
theorem dX0_takeFrom_34 : decode cX0_takeFrom 34 = .ok (.getfield 54, 3) := by decide +kernel
theorem dX0_takeFrom_37 : decode cX0_takeFrom 37 = .ok (.putfield 54, 3) := by decide +kernel
theorem dX0_takeFrom_40 : decode cX0_takeFrom 40 = .ok (.aload_n 0, 1) := by decide +kernel
theorem dX0_takeFrom_41 : decode cX0_takeFrom 41 = .ok (.aload_n 1, 1) := by decide +kernel
theorem dX0_takeFrom_42 : decode cX0_takeFrom 42 = .ok (.getfield 57, 3) := by decide +kernel
theorem dX0_takeFrom_45 : decode cX0_takeFrom 45 = .ok (.putfield 57, 3) := by decide +kernel
theorem dX0_takeFrom_48 : decode cX0_takeFrom 48 = .ok (.aload_n 0, 1) := by decide +kernel
theorem dX0_takeFrom_49 : decode cX0_takeFrom 49 = .ok (.aload_n 1, 1) := by decide +kernel
theorem dX0_takeFrom_50 : decode cX0_takeFrom 50 = .ok (.getfield 60, 3) := by decide +kernel
theorem dX0_takeFrom_53 : decode cX0_takeFrom 53 = .ok (.putfield 60, 3) := by decide +kernel
theorem dX0_takeFrom_56 : decode cX0_takeFrom 56 = .ok (.aload_n 0, 1) := by decide +kernel
theorem dX0_takeFrom_57 : decode cX0_takeFrom 57 = .ok (.getfield 12, 3) := by decide +kernel
theorem dX0_takeFrom_60 : decode cX0_takeFrom 60 = .ok (.aload_n 1, 1) := by decide +kernel
theorem dX0_takeFrom_61 : decode cX0_takeFrom 61 = .ok (.getfield 12, 3) := by decide +kernel
theorem dX0_takeFrom_64 : decode cX0_takeFrom 64 = .ok (.invokevirtual 72, 3) := by decide +kernel
theorem dX0_takeFrom_67 : decode cX0_takeFrom 67 = .ok (.aload_n 1, 1) := by decide +kernel
theorem dX0_takeFrom_68 : decode cX0_takeFrom 68 = .ok (.getfield 18, 3) := by decide +kernel
theorem dX0_takeFrom_71 : decode cX0_takeFrom 71 = .ok (.iconst 0, 1) := by decide +kernel
theorem dX0_takeFrom_72 : decode cX0_takeFrom 72 = .ok (.aload_n 0, 1) := by decide +kernel
theorem dX0_takeFrom_73 : decode cX0_takeFrom 73 = .ok (.getfield 18, 3) := by decide +kernel
theorem dX0_takeFrom_76 : decode cX0_takeFrom 76 = .ok (.iconst 0, 1) := by decide +kernel
theorem dX0_takeFrom_77 : decode cX0_takeFrom 77 = .ok (.iconst 5, 1) := by decide +kernel
theorem dX0_takeFrom_78 : decode cX0_takeFrom 78 = .ok (.invokestatic 76, 3) := by decide +kernel
theorem dX0_takeFrom_81 : decode cX0_takeFrom 81 = .ok (.aload_n 1, 1) := by decide +kernel
theorem dX0_takeFrom_82 : decode cX0_takeFrom 82 = .ok (.getfield 22, 3) := by decide +kernel
theorem dX0_takeFrom_85 : decode cX0_takeFrom 85 = .ok (.iconst 0, 1) := by decide +kernel
theorem dX0_takeFrom_86 : decode cX0_takeFrom 86 = .ok (.aload_n 0, 1) := by decide +kernel
theorem dX0_takeFrom_87 : decode cX0_takeFrom 87 = .ok (.getfield 22, 3) := by decide +kernel
theorem dX0_takeFrom_90 : decode cX0_takeFrom 90 = .ok (.iconst 0, 1) := by decide +kernel
theorem dX0_takeFrom_91 : decode cX0_takeFrom 91 = .ok (.iconst 5, 1) := by decide +kernel
theorem dX0_takeFrom_92 : decode cX0_takeFrom 92 = .ok (.invokestatic 76, 3) := by decide +kernel
theorem dX0_takeFrom_95 : decode cX0_takeFrom 95 = .ok (.aload_n 1, 1) := by decide +kernel
theorem dX0_takeFrom_96 : decode cX0_takeFrom 96 = .ok (.getfield 26, 3) := by decide +kernel
theorem dX0_takeFrom_99 : decode cX0_takeFrom 99 = .ok (.iconst 0, 1) := by decide +kernel
theorem dX0_takeFrom_100 : decode cX0_takeFrom 100 = .ok (.aload_n 0, 1) := by decide +kernel
theorem dX0_takeFrom_101 : decode cX0_takeFrom 101 = .ok (.getfield 26, 3) := by decide +kernel
theorem dX0_takeFrom_104 : decode cX0_takeFrom 104 = .ok (.iconst 0, 1) := by decide +kernel
theorem dX0_takeFrom_105 : decode cX0_takeFrom 105 = .ok (.bipush 25, 2) := by decide +kernel
theorem dX0_takeFrom_107 : decode cX0_takeFrom 107 = .ok (.invokestatic 76, 3) := by decide +kernel
theorem dX0_takeFrom_110 : decode cX0_takeFrom 110 = .ok (.aload_n 1, 1) := by decide +kernel
theorem dX0_takeFrom_111 : decode cX0_takeFrom 111 = .ok (.getfield 29, 3) := by decide +kernel
theorem dX0_takeFrom_114 : decode cX0_takeFrom 114 = .ok (.iconst 0, 1) := by decide +kernel
theorem dX0_takeFrom_115 : decode cX0_takeFrom 115 = .ok (.aload_n 0, 1) := by decide +kernel
theorem dX0_takeFrom_116 : decode cX0_takeFrom 116 = .ok (.getfield 29, 3) := by decide +kernel
theorem dX0_takeFrom_119 : decode cX0_takeFrom 119 = .ok (.iconst 0, 1) := by decide +kernel
theorem dX0_takeFrom_120 : decode cX0_takeFrom 120 = .ok (.bipush 25, 2) := by decide +kernel
theorem dX0_takeFrom_122 : decode cX0_takeFrom 122 = .ok (.invokestatic 76, 3) := by decide +kernel
theorem dX0_takeFrom_125 : decode cX0_takeFrom 125 = .ok (.aload_n 1, 1) := by decide +kernel
theorem dX0_takeFrom_126 : decode cX0_takeFrom 126 = .ok (.getfield 32, 3) := by decide +kernel
theorem dX0_takeFrom_129 : decode cX0_takeFrom 129 = .ok (.iconst 0, 1) := by decide +kernel
theorem dX0_takeFrom_130 : decode cX0_takeFrom 130 = .ok (.aload_n 0, 1) := by decide +kernel
theorem dX0_takeFrom_131 : decode cX0_takeFrom 131 = .ok (.getfield 32, 3) := by decide +kernel
theorem dX0_takeFrom_134 : decode cX0_takeFrom 134 = .ok (.iconst 0, 1) := by decide +kernel
theorem dX0_takeFrom_135 : decode cX0_takeFrom 135 = .ok (.bipush 25, 2) := by decide +kernel
theorem dX0_takeFrom_137 : decode cX0_takeFrom 137 = .ok (.invokestatic 76, 3) := by decide +kernel
theorem dX0_takeFrom_140 : decode cX0_takeFrom 140 = .ok (.return_, 1) := by decide +kernel
theorem dX0_cells_0 : decode cX0_cells 0 = .ok (.aload_n 0, 1) := by decide +kernel
theorem dX0_cells_1 : decode cX0_cells 1 = .ok (.getfield 51, 3) := by decide +kernel
theorem dX0_cells_4 : decode cX0_cells 4 = .ok (.aload_n 0, 1) := by decide +kernel
theorem dX0_cells_5 : decode cX0_cells 5 = .ok (.getfield 41, 3) := by decide +kernel
theorem dX0_cells_8 : decode cX0_cells 8 = .ok (.imul, 1) := by decide +kernel
theorem dX0_cells_9 : decode cX0_cells 9 = .ok (.ireturn, 1) := by decide +kernel
theorem dX0_hasCell_0 : decode cX0_hasCell 0 = .ok (.iload_n 1, 1) := by decide +kernel
theorem dX0_hasCell_1 : decode cX0_hasCell 1 = .ok (.iconst 0, 1) := by decide +kernel
theorem dX0_hasCell_2 : decode cX0_hasCell 2 = .ok (.aload_n 0, 1) := by decide +kernel
theorem dX0_hasCell_3 : decode cX0_hasCell 3 = .ok (.invokevirtual 82, 3) := by decide +kernel
theorem dX0_hasCell_6 : decode cX0_hasCell 6 = .ok (.iconst 1, 1) := by decide +kernel
theorem dX0_hasCell_7 : decode cX0_hasCell 7 = .ok (.isub, 1) := by decide +kernel
theorem dX0_hasCell_8 : decode cX0_hasCell 8 = .ok (.invokestatic 86, 3) := by decide +kernel
theorem dX0_hasCell_11 : decode cX0_hasCell 11 = .ok (.ireturn, 1) := by decide +kernel
theorem dX0_hasAccount_0 : decode cX0_hasAccount 0 = .ok (.iload_n 1, 1) := by decide +kernel
theorem dX0_hasAccount_1 : decode cX0_hasAccount 1 = .ok (.iconst 0, 1) := by decide +kernel
theorem dX0_hasAccount_2 : decode cX0_hasAccount 2 = .ok (.aload_n 0, 1) := by decide +kernel
theorem dX0_hasAccount_3 : decode cX0_hasAccount 3 = .ok (.getfield 51, 3) := by decide +kernel
theorem dX0_hasAccount_6 : decode cX0_hasAccount 6 = .ok (.iconst 1, 1) := by decide +kernel
theorem dX0_hasAccount_7 : decode cX0_hasAccount 7 = .ok (.isub, 1) := by decide +kernel
theorem dX0_hasAccount_8 : decode cX0_hasAccount 8 = .ok (.invokestatic 86, 3) := by decide +kernel
theorem dX0_hasAccount_11 : decode cX0_hasAccount 11 = .ok (.ireturn, 1) := by decide +kernel
theorem dX0_accountNamed_0 : decode cX0_accountNamed 0 = .ok (.iconst 0, 1) := by decide +kernel
theorem dX0_accountNamed_1 : decode cX0_accountNamed 1 = .ok (.istore_n 3, 1) := by decide +kernel
theorem dX0_accountNamed_2 : decode cX0_accountNamed 2 = .ok (.iload_n 3, 1) := by decide +kernel
theorem dX0_accountNamed_3 : decode cX0_accountNamed 3 = .ok (.aload_n 0, 1) := by decide +kernel
theorem dX0_accountNamed_4 : decode cX0_accountNamed 4 = .ok (.getfield 51, 3) := by decide +kernel
theorem dX0_accountNamed_7 : decode cX0_accountNamed 7 = .ok (.if_icmp .ge 22, 3) := by decide +kernel
theorem dX0_accountNamed_10 : decode cX0_accountNamed 10 = .ok (.aload_n 0, 1) := by decide +kernel
theorem dX0_accountNamed_11 : decode cX0_accountNamed 11 = .ok (.getfield 22, 3) := by decide +kernel
theorem dX0_accountNamed_14 : decode cX0_accountNamed 14 = .ok (.iload_n 3, 1) := by decide +kernel
theorem dX0_accountNamed_15 : decode cX0_accountNamed 15 = .ok (.laload, 1) := by decide +kernel
theorem dX0_accountNamed_16 : decode cX0_accountNamed 16 = .ok (.lload_n 1, 1) := by decide +kernel
theorem dX0_accountNamed_17 : decode cX0_accountNamed 17 = .ok (.lcmp, 1) := by decide +kernel
theorem dX0_accountNamed_18 : decode cX0_accountNamed 18 = .ok (.ifCond .ne 5, 3) := by decide +kernel
theorem dX0_accountNamed_21 : decode cX0_accountNamed 21 = .ok (.iload_n 3, 1) := by decide +kernel
theorem dX0_accountNamed_22 : decode cX0_accountNamed 22 = .ok (.ireturn, 1) := by decide +kernel
theorem dX0_accountNamed_23 : decode cX0_accountNamed 23 = .ok (.iinc 3 1, 3) := by decide +kernel
theorem dX0_accountNamed_26 : decode cX0_accountNamed 26 = .ok (.goto (-24), 3) := by decide +kernel
theorem dX0_accountNamed_29 : decode cX0_accountNamed 29 = .ok (.iconst (-1), 1) := by decide +kernel
theorem dX0_accountNamed_30 : decode cX0_accountNamed 30 = .ok (.ireturn, 1) := by decide +kernel
theorem dX0_rowOf_0 : decode cX0_rowOf 0 = .ok (.aload_n 0, 1) := by decide +kernel
theorem dX0_rowOf_1 : decode cX0_rowOf 1 = .ok (.getfield 41, 3) := by decide +kernel
theorem dX0_rowOf_4 : decode cX0_rowOf 4 = .ok (.ifCond .le 12, 3) := by decide +kernel
theorem dX0_rowOf_7 : decode cX0_rowOf 7 = .ok (.iload_n 1, 1) := by decide +kernel
theorem dX0_rowOf_8 : decode cX0_rowOf 8 = .ok (.aload_n 0, 1) := by decide +kernel
theorem dX0_rowOf_9 : decode cX0_rowOf 9 = .ok (.getfield 41, 3) := by decide +kernel
theorem dX0_rowOf_12 : decode cX0_rowOf 12 = .ok (.idiv, 1) := by decide +kernel
theorem dX0_rowOf_13 : decode cX0_rowOf 13 = .ok (.goto 4, 3) := by decide +kernel
theorem dX0_rowOf_16 : decode cX0_rowOf 16 = .ok (.iconst 0, 1) := by decide +kernel
theorem dX0_rowOf_17 : decode cX0_rowOf 17 = .ok (.ireturn, 1) := by decide +kernel
theorem dX0_columnOf_0 : decode cX0_columnOf 0 = .ok (.aload_n 0, 1) := by decide +kernel
theorem dX0_columnOf_1 : decode cX0_columnOf 1 = .ok (.getfield 41, 3) := by decide +kernel
theorem dX0_columnOf_4 : decode cX0_columnOf 4 = .ok (.ifCond .le 12, 3) := by decide +kernel
theorem dX0_columnOf_7 : decode cX0_columnOf 7 = .ok (.iload_n 1, 1) := by decide +kernel
theorem dX0_columnOf_8 : decode cX0_columnOf 8 = .ok (.aload_n 0, 1) := by decide +kernel
theorem dX0_columnOf_9 : decode cX0_columnOf 9 = .ok (.getfield 41, 3) := by decide +kernel
theorem dX0_columnOf_12 : decode cX0_columnOf 12 = .ok (.irem, 1) := by decide +kernel
theorem dX0_columnOf_13 : decode cX0_columnOf 13 = .ok (.goto 4, 3) := by decide +kernel
theorem dX0_columnOf_16 : decode cX0_columnOf 16 = .ok (.iconst 0, 1) := by decide +kernel
theorem dX0_columnOf_17 : decode cX0_columnOf 17 = .ok (.ireturn, 1) := by decide +kernel
theorem dX0_gone_0 : decode cX0_gone 0 = .ok (.aload_n 0, 1) := by decide +kernel
theorem dX0_gone_1 : decode cX0_gone 1 = .ok (.getfield 51, 3) := by decide +kernel
theorem dX0_gone_4 : decode cX0_gone 4 = .ok (.aload_n 0, 1) := by decide +kernel
theorem dX0_gone_5 : decode cX0_gone 5 = .ok (.getfield 41, 3) := by decide +kernel
theorem dX0_gone_8 : decode cX0_gone 8 = .ok (.imul, 1) := by decide +kernel
theorem dX0_gone_9 : decode cX0_gone 9 = .ok (.istore_n 3, 1) := by decide +kernel
theorem dX0_gone_10 : decode cX0_gone 10 = .ok (.iload_n 1, 1) := by decide +kernel
theorem dX0_gone_11 : decode cX0_gone 11 = .ok (.ifCond .lt 15, 3) := by decide +kernel
theorem dX0_gone_14 : decode cX0_gone 14 = .ok (.iload_n 1, 1) := by decide +kernel
theorem dX0_gone_15 : decode cX0_gone 15 = .ok (.iload_n 3, 1) := by decide +kernel
theorem dX0_gone_16 : decode cX0_gone 16 = .ok (.if_icmp .ge 10, 3) := by decide +kernel
theorem dX0_gone_19 : decode cX0_gone 19 = .ok (.aload_n 0, 1) := by decide +kernel
theorem dX0_gone_20 : decode cX0_gone 20 = .ok (.getfield 41, 3) := by decide +kernel
theorem dX0_gone_23 : decode cX0_gone 23 = .ok (.ifCond .gt 5, 3) := by decide +kernel
theorem dX0_gone_26 : decode cX0_gone 26 = .ok (.iconst (-1), 1) := by decide +kernel
theorem dX0_gone_27 : decode cX0_gone 27 = .ok (.ireturn, 1) := by decide +kernel
theorem dX0_gone_28 : decode cX0_gone 28 = .ok (.iload_n 1, 1) := by decide +kernel
theorem dX0_gone_29 : decode cX0_gone 29 = .ok (.aload_n 0, 1) := by decide +kernel
theorem dX0_gone_30 : decode cX0_gone 30 = .ok (.getfield 41, 3) := by decide +kernel
theorem dX0_gone_33 : decode cX0_gone 33 = .ok (.irem, 1) := by decide +kernel
theorem dX0_gone_34 : decode cX0_gone 34 = .ok (.istore 4, 2) := by decide +kernel
theorem dX0_gone_36 : decode cX0_gone 36 = .ok (.iload_n 2, 1) := by decide +kernel
theorem dX0_gone_37 : decode cX0_gone 37 = .ok (.tableswitch 109 0 4 #[35, 54, 75, 88, 107], 35) := by decide +kernel
theorem dX0_gone_72 : decode cX0_gone 72 = .ok (.iload_n 1, 1) := by decide +kernel
theorem dX0_gone_73 : decode cX0_gone 73 = .ok (.aload_n 0, 1) := by decide +kernel
theorem dX0_gone_74 : decode cX0_gone 74 = .ok (.getfield 41, 3) := by decide +kernel
theorem dX0_gone_77 : decode cX0_gone 77 = .ok (.if_icmp .lt 12, 3) := by decide +kernel
theorem dX0_gone_80 : decode cX0_gone 80 = .ok (.iload_n 1, 1) := by decide +kernel
theorem dX0_gone_81 : decode cX0_gone 81 = .ok (.aload_n 0, 1) := by decide +kernel
theorem dX0_gone_82 : decode cX0_gone 82 = .ok (.getfield 41, 3) := by decide +kernel
theorem dX0_gone_85 : decode cX0_gone 85 = .ok (.isub, 1) := by decide +kernel
theorem dX0_gone_86 : decode cX0_gone 86 = .ok (.goto 4, 3) := by decide +kernel
theorem dX0_gone_89 : decode cX0_gone 89 = .ok (.iconst (-1), 1) := by decide +kernel
theorem dX0_gone_90 : decode cX0_gone 90 = .ok (.ireturn, 1) := by decide +kernel
theorem dX0_gone_91 : decode cX0_gone 91 = .ok (.iload_n 1, 1) := by decide +kernel
theorem dX0_gone_92 : decode cX0_gone 92 = .ok (.aload_n 0, 1) := by decide +kernel
theorem dX0_gone_93 : decode cX0_gone 93 = .ok (.getfield 41, 3) := by decide +kernel
theorem dX0_gone_96 : decode cX0_gone 96 = .ok (.iadd, 1) := by decide +kernel
theorem dX0_gone_97 : decode cX0_gone 97 = .ok (.iload_n 3, 1) := by decide +kernel
theorem dX0_gone_98 : decode cX0_gone 98 = .ok (.if_icmp .ge 12, 3) := by decide +kernel
theorem dX0_gone_101 : decode cX0_gone 101 = .ok (.iload_n 1, 1) := by decide +kernel
theorem dX0_gone_102 : decode cX0_gone 102 = .ok (.aload_n 0, 1) := by decide +kernel
theorem dX0_gone_103 : decode cX0_gone 103 = .ok (.getfield 41, 3) := by decide +kernel
theorem dX0_gone_106 : decode cX0_gone 106 = .ok (.iadd, 1) := by decide +kernel
theorem dX0_gone_107 : decode cX0_gone 107 = .ok (.goto 4, 3) := by decide +kernel
theorem dX0_gone_110 : decode cX0_gone 110 = .ok (.iconst (-1), 1) := by decide +kernel
theorem dX0_gone_111 : decode cX0_gone 111 = .ok (.ireturn, 1) := by decide +kernel
theorem dX0_gone_112 : decode cX0_gone 112 = .ok (.iload 4, 2) := by decide +kernel
theorem dX0_gone_114 : decode cX0_gone 114 = .ok (.ifCond .le 9, 3) := by decide +kernel
theorem dX0_gone_117 : decode cX0_gone 117 = .ok (.iload_n 1, 1) := by decide +kernel
theorem dX0_gone_118 : decode cX0_gone 118 = .ok (.iconst 1, 1) := by decide +kernel
theorem dX0_gone_119 : decode cX0_gone 119 = .ok (.isub, 1) := by decide +kernel
theorem dX0_gone_120 : decode cX0_gone 120 = .ok (.goto 4, 3) := by decide +kernel
theorem dX0_gone_123 : decode cX0_gone 123 = .ok (.iconst (-1), 1) := by decide +kernel
theorem dX0_gone_124 : decode cX0_gone 124 = .ok (.ireturn, 1) := by decide +kernel
theorem dX0_gone_125 : decode cX0_gone 125 = .ok (.iload 4, 2) := by decide +kernel
theorem dX0_gone_127 : decode cX0_gone 127 = .ok (.aload_n 0, 1) := by decide +kernel
theorem dX0_gone_128 : decode cX0_gone 128 = .ok (.getfield 41, 3) := by decide +kernel
theorem dX0_gone_131 : decode cX0_gone 131 = .ok (.iconst 1, 1) := by decide +kernel
theorem dX0_gone_132 : decode cX0_gone 132 = .ok (.isub, 1) := by decide +kernel
theorem dX0_gone_133 : decode cX0_gone 133 = .ok (.if_icmp .ge 9, 3) := by decide +kernel
theorem dX0_gone_136 : decode cX0_gone 136 = .ok (.iload_n 1, 1) := by decide +kernel
theorem dX0_gone_137 : decode cX0_gone 137 = .ok (.iconst 1, 1) := by decide +kernel
theorem dX0_gone_138 : decode cX0_gone 138 = .ok (.iadd, 1) := by decide +kernel
theorem dX0_gone_139 : decode cX0_gone 139 = .ok (.goto 4, 3) := by decide +kernel
theorem dX0_gone_142 : decode cX0_gone 142 = .ok (.iconst (-1), 1) := by decide +kernel
theorem dX0_gone_143 : decode cX0_gone 143 = .ok (.ireturn, 1) := by decide +kernel
theorem dX0_gone_144 : decode cX0_gone 144 = .ok (.iload_n 1, 1) := by decide +kernel
theorem dX0_gone_145 : decode cX0_gone 145 = .ok (.ireturn, 1) := by decide +kernel
theorem dX0_gone_146 : decode cX0_gone 146 = .ok (.iconst (-1), 1) := by decide +kernel
theorem dX0_gone_147 : decode cX0_gone 147 = .ok (.ireturn, 1) := by decide +kernel
theorem dX0_stepsBetween_0 : decode cX0_stepsBetween 0 = .ok (.aload_n 0, 1) := by decide +kernel
theorem dX0_stepsBetween_1 : decode cX0_stepsBetween 1 = .ok (.iload_n 1, 1) := by decide +kernel
theorem dX0_stepsBetween_2 : decode cX0_stepsBetween 2 = .ok (.invokevirtual 90, 3) := by decide +kernel
theorem dX0_stepsBetween_5 : decode cX0_stepsBetween 5 = .ok (.aload_n 0, 1) := by decide +kernel
theorem dX0_stepsBetween_6 : decode cX0_stepsBetween 6 = .ok (.iload_n 2, 1) := by decide +kernel
theorem dX0_stepsBetween_7 : decode cX0_stepsBetween 7 = .ok (.invokevirtual 90, 3) := by decide +kernel
theorem dX0_stepsBetween_10 : decode cX0_stepsBetween 10 = .ok (.isub, 1) := by decide +kernel
theorem dX0_stepsBetween_11 : decode cX0_stepsBetween 11 = .ok (.invokestatic 94, 3) := by decide +kernel
theorem dX0_stepsBetween_14 : decode cX0_stepsBetween 14 = .ok (.aload_n 0, 1) := by decide +kernel
theorem dX0_stepsBetween_15 : decode cX0_stepsBetween 15 = .ok (.iload_n 1, 1) := by decide +kernel
theorem dX0_stepsBetween_16 : decode cX0_stepsBetween 16 = .ok (.invokevirtual 99, 3) := by decide +kernel
theorem dX0_stepsBetween_19 : decode cX0_stepsBetween 19 = .ok (.aload_n 0, 1) := by decide +kernel
theorem dX0_stepsBetween_20 : decode cX0_stepsBetween 20 = .ok (.iload_n 2, 1) := by decide +kernel
theorem dX0_stepsBetween_21 : decode cX0_stepsBetween 21 = .ok (.invokevirtual 99, 3) := by decide +kernel
theorem dX0_stepsBetween_24 : decode cX0_stepsBetween 24 = .ok (.isub, 1) := by decide +kernel
theorem dX0_stepsBetween_25 : decode cX0_stepsBetween 25 = .ok (.invokestatic 94, 3) := by decide +kernel
theorem dX0_stepsBetween_28 : decode cX0_stepsBetween 28 = .ok (.iadd, 1) := by decide +kernel
theorem dX0_stepsBetween_29 : decode cX0_stepsBetween 29 = .ok (.ireturn, 1) := by decide +kernel
theorem dX0_bearing_0 : decode cX0_bearing 0 = .ok (.iconst 0, 1) := by decide +kernel
theorem dX0_bearing_1 : decode cX0_bearing 1 = .ok (.istore_n 3, 1) := by decide +kernel
theorem dX0_bearing_2 : decode cX0_bearing 2 = .ok (.iload_n 3, 1) := by decide +kernel
theorem dX0_bearing_3 : decode cX0_bearing 3 = .ok (.aload_n 0, 1) := by decide +kernel
theorem dX0_bearing_4 : decode cX0_bearing 4 = .ok (.getfield 12, 3) := by decide +kernel
theorem dX0_bearing_7 : decode cX0_bearing 7 = .ok (.getfield 63, 3) := by decide +kernel
theorem dX0_bearing_10 : decode cX0_bearing 10 = .ok (.if_icmp .ge 77, 3) := by decide +kernel
theorem dX0_bearing_13 : decode cX0_bearing 13 = .ok (.aload_n 0, 1) := by decide +kernel
theorem dX0_bearing_14 : decode cX0_bearing 14 = .ok (.getfield 12, 3) := by decide +kernel
theorem dX0_bearing_17 : decode cX0_bearing 17 = .ok (.getfield 102, 3) := by decide +kernel
theorem dX0_bearing_20 : decode cX0_bearing 20 = .ok (.iload_n 3, 1) := by decide +kernel
theorem dX0_bearing_21 : decode cX0_bearing 21 = .ok (.iaload, 1) := by decide +kernel
theorem dX0_bearing_22 : decode cX0_bearing 22 = .ok (.aload_n 1, 1) := by decide +kernel
theorem dX0_bearing_23 : decode cX0_bearing 23 = .ok (.iload_n 2, 1) := by decide +kernel
theorem dX0_bearing_24 : decode cX0_bearing 24 = .ok (.iaload, 1) := by decide +kernel
theorem dX0_bearing_25 : decode cX0_bearing 25 = .ok (.if_icmp .ne 56, 3) := by decide +kernel
theorem dX0_bearing_28 : decode cX0_bearing 28 = .ok (.aload_n 0, 1) := by decide +kernel
theorem dX0_bearing_29 : decode cX0_bearing 29 = .ok (.getfield 12, 3) := by decide +kernel
theorem dX0_bearing_32 : decode cX0_bearing 32 = .ok (.getfield 105, 3) := by decide +kernel
theorem dX0_bearing_35 : decode cX0_bearing 35 = .ok (.iload_n 3, 1) := by decide +kernel
theorem dX0_bearing_36 : decode cX0_bearing 36 = .ok (.iaload, 1) := by decide +kernel
theorem dX0_bearing_37 : decode cX0_bearing 37 = .ok (.istore 4, 2) := by decide +kernel
theorem dX0_bearing_39 : decode cX0_bearing 39 = .ok (.aload_n 0, 1) := by decide +kernel
theorem dX0_bearing_40 : decode cX0_bearing 40 = .ok (.iload_n 2, 1) := by decide +kernel
theorem dX0_bearing_41 : decode cX0_bearing 41 = .ok (.getstatic 108, 3) := by decide +kernel
theorem dX0_bearing_44 : decode cX0_bearing 44 = .ok (.iload 4, 2) := by decide +kernel
theorem dX0_bearing_46 : decode cX0_bearing 46 = .ok (.iaload, 1) := by decide +kernel
theorem dX0_bearing_47 : decode cX0_bearing 47 = .ok (.invokevirtual 111, 3) := by decide +kernel
theorem dX0_bearing_50 : decode cX0_bearing 50 = .ok (.istore 5, 2) := by decide +kernel
theorem dX0_bearing_52 : decode cX0_bearing 52 = .ok (.iload 4, 2) := by decide +kernel
theorem dX0_bearing_54 : decode cX0_bearing 54 = .ok (.ifCond .eq 25, 3) := by decide +kernel
theorem dX0_bearing_57 : decode cX0_bearing 57 = .ok (.iload 5, 2) := by decide +kernel
theorem dX0_bearing_59 : decode cX0_bearing 59 = .ok (.iconst (-1), 1) := by decide +kernel
theorem dX0_bearing_60 : decode cX0_bearing 60 = .ok (.if_icmp .eq 21, 3) := by decide +kernel
theorem dX0_bearing_63 : decode cX0_bearing 63 = .ok (.aload_n 1, 1) := by decide +kernel
theorem dX0_bearing_64 : decode cX0_bearing 64 = .ok (.iload 5, 2) := by decide +kernel
theorem dX0_bearing_66 : decode cX0_bearing 66 = .ok (.iaload, 1) := by decide +kernel
theorem dX0_bearing_67 : decode cX0_bearing 67 = .ok (.aload_n 0, 1) := by decide +kernel
theorem dX0_bearing_68 : decode cX0_bearing 68 = .ok (.getfield 12, 3) := by decide +kernel
theorem dX0_bearing_71 : decode cX0_bearing 71 = .ok (.getfield 115, 3) := by decide +kernel
theorem dX0_bearing_74 : decode cX0_bearing 74 = .ok (.iload_n 3, 1) := by decide +kernel
theorem dX0_bearing_75 : decode cX0_bearing 75 = .ok (.iaload, 1) := by decide +kernel
theorem dX0_bearing_76 : decode cX0_bearing 76 = .ok (.if_icmp .ne 5, 3) := by decide +kernel
theorem dX0_bearing_79 : decode cX0_bearing 79 = .ok (.iload_n 3, 1) := by decide +kernel
theorem dX0_bearing_80 : decode cX0_bearing 80 = .ok (.ireturn, 1) := by decide +kernel
theorem dX0_bearing_81 : decode cX0_bearing 81 = .ok (.iinc 3 1, 3) := by decide +kernel
theorem dX0_bearing_84 : decode cX0_bearing 84 = .ok (.goto (-82), 3) := by decide +kernel
theorem dX0_bearing_87 : decode cX0_bearing 87 = .ok (.iconst (-1), 1) := by decide +kernel
theorem dX0_bearing_88 : decode cX0_bearing 88 = .ok (.ireturn, 1) := by decide +kernel
theorem dX0_drifted_0 : decode cX0_drifted 0 = .ok (.aload_n 0, 1) := by decide +kernel
theorem dX0_drifted_1 : decode cX0_drifted 1 = .ok (.aload_n 1, 1) := by decide +kernel
theorem dX0_drifted_2 : decode cX0_drifted 2 = .ok (.iload_n 2, 1) := by decide +kernel
theorem dX0_drifted_3 : decode cX0_drifted 3 = .ok (.invokevirtual 118, 3) := by decide +kernel
theorem dX0_drifted_6 : decode cX0_drifted 6 = .ok (.istore_n 3, 1) := by decide +kernel
theorem dX0_drifted_7 : decode cX0_drifted 7 = .ok (.iload_n 3, 1) := by decide +kernel
theorem dX0_drifted_8 : decode cX0_drifted 8 = .ok (.iconst (-1), 1) := by decide +kernel
theorem dX0_drifted_9 : decode cX0_drifted 9 = .ok (.if_icmp .ne 9, 3) := by decide +kernel
theorem dX0_drifted_12 : decode cX0_drifted 12 = .ok (.aload_n 1, 1) := by decide +kernel
theorem dX0_drifted_13 : decode cX0_drifted 13 = .ok (.iload_n 2, 1) := by decide +kernel
theorem dX0_drifted_14 : decode cX0_drifted 14 = .ok (.iaload, 1) := by decide +kernel
theorem dX0_drifted_15 : decode cX0_drifted 15 = .ok (.goto 12, 3) := by decide +kernel
theorem dX0_drifted_18 : decode cX0_drifted 18 = .ok (.aload_n 0, 1) := by decide +kernel
theorem dX0_drifted_19 : decode cX0_drifted 19 = .ok (.getfield 12, 3) := by decide +kernel
theorem dX0_drifted_22 : decode cX0_drifted 22 = .ok (.getfield 122, 3) := by decide +kernel
theorem dX0_drifted_25 : decode cX0_drifted 25 = .ok (.iload_n 3, 1) := by decide +kernel
theorem dX0_drifted_26 : decode cX0_drifted 26 = .ok (.iaload, 1) := by decide +kernel
theorem dX0_drifted_27 : decode cX0_drifted 27 = .ok (.ireturn, 1) := by decide +kernel
theorem dX0_drift_0 : decode cX0_drift 0 = .ok (.aload_n 0, 1) := by decide +kernel
theorem dX0_drift_1 : decode cX0_drift 1 = .ok (.getfield 12, 3) := by decide +kernel
theorem dX0_drift_4 : decode cX0_drift 4 = .ok (.invokevirtual 125, 3) := by decide +kernel
theorem dX0_drift_7 : decode cX0_drift 7 = .ok (.istore 4, 2) := by decide +kernel
theorem dX0_drift_9 : decode cX0_drift 9 = .ok (.iconst 0, 1) := by decide +kernel
theorem dX0_drift_10 : decode cX0_drift 10 = .ok (.istore 5, 2) := by decide +kernel
theorem dX0_drift_12 : decode cX0_drift 12 = .ok (.iconst 0, 1) := by decide +kernel
theorem dX0_drift_13 : decode cX0_drift 13 = .ok (.istore 6, 2) := by decide +kernel
theorem dX0_drift_15 : decode cX0_drift 15 = .ok (.iload 6, 2) := by decide +kernel
theorem dX0_drift_17 : decode cX0_drift 17 = .ok (.aload_n 0, 1) := by decide +kernel
theorem dX0_drift_18 : decode cX0_drift 18 = .ok (.invokevirtual 82, 3) := by decide +kernel
theorem dX0_drift_21 : decode cX0_drift 21 = .ok (.if_icmp .ge 103, 3) := by decide +kernel
theorem dX0_drift_24 : decode cX0_drift 24 = .ok (.aload_n 2, 1) := by decide +kernel
theorem dX0_drift_25 : decode cX0_drift 25 = .ok (.iload 6, 2) := by decide +kernel
theorem dX0_drift_27 : decode cX0_drift 27 = .ok (.iaload, 1) := by decide +kernel
theorem dX0_drift_28 : decode cX0_drift 28 = .ok (.ifCond .gt 15, 3) := by decide +kernel
theorem dX0_drift_31 : decode cX0_drift 31 = .ok (.iload 4, 2) := by decide +kernel
theorem dX0_drift_33 : decode cX0_drift 33 = .ok (.aload_n 1, 1) := by decide +kernel
theorem dX0_drift_34 : decode cX0_drift 34 = .ok (.iload 6, 2) := by decide +kernel
theorem dX0_drift_36 : decode cX0_drift 36 = .ok (.iaload, 1) := by decide +kernel
theorem dX0_drift_37 : decode cX0_drift 37 = .ok (.ishr, 1) := by decide +kernel
theorem dX0_drift_38 : decode cX0_drift 38 = .ok (.iconst 1, 1) := by decide +kernel
theorem dX0_drift_39 : decode cX0_drift 39 = .ok (.iand, 1) := by decide +kernel
theorem dX0_drift_40 : decode cX0_drift 40 = .ok (.ifCond .ne 7, 3) := by decide +kernel
theorem dX0_drift_43 : decode cX0_drift 43 = .ok (.iconst 1, 1) := by decide +kernel
theorem dX0_drift_44 : decode cX0_drift 44 = .ok (.goto 4, 3) := by decide +kernel
theorem dX0_drift_47 : decode cX0_drift 47 = .ok (.iconst 0, 1) := by decide +kernel
theorem dX0_drift_48 : decode cX0_drift 48 = .ok (.istore 7, 2) := by decide +kernel
theorem dX0_drift_50 : decode cX0_drift 50 = .ok (.iload 7, 2) := by decide +kernel
theorem dX0_drift_52 : decode cX0_drift 52 = .ok (.ifCond .eq 7, 3) := by decide +kernel
theorem dX0_drift_55 : decode cX0_drift 55 = .ok (.iconst (-1), 1) := by decide +kernel
theorem dX0_drift_56 : decode cX0_drift 56 = .ok (.goto 10, 3) := by decide +kernel
theorem dX0_drift_59 : decode cX0_drift 59 = .ok (.aload_n 0, 1) := by decide +kernel
theorem dX0_drift_60 : decode cX0_drift 60 = .ok (.aload_n 1, 1) := by decide +kernel
theorem dX0_drift_61 : decode cX0_drift 61 = .ok (.iload 6, 2) := by decide +kernel
theorem dX0_drift_63 : decode cX0_drift 63 = .ok (.invokevirtual 118, 3) := by decide +kernel
theorem dX0_drift_66 : decode cX0_drift 66 = .ok (.istore 8, 2) := by decide +kernel
theorem dX0_drift_68 : decode cX0_drift 68 = .ok (.aload_n 3, 1) := by decide +kernel
theorem dX0_drift_69 : decode cX0_drift 69 = .ok (.iload 6, 2) := by decide +kernel
theorem dX0_drift_71 : decode cX0_drift 71 = .ok (.iload 8, 2) := by decide +kernel
theorem dX0_drift_73 : decode cX0_drift 73 = .ok (.iconst (-1), 1) := by decide +kernel
theorem dX0_drift_74 : decode cX0_drift 74 = .ok (.if_icmp .ne 10, 3) := by decide +kernel
theorem dX0_drift_77 : decode cX0_drift 77 = .ok (.aload_n 1, 1) := by decide +kernel
theorem dX0_drift_78 : decode cX0_drift 78 = .ok (.iload 6, 2) := by decide +kernel
theorem dX0_drift_80 : decode cX0_drift 80 = .ok (.iaload, 1) := by decide +kernel
theorem dX0_drift_81 : decode cX0_drift 81 = .ok (.goto 13, 3) := by decide +kernel
theorem dX0_drift_84 : decode cX0_drift 84 = .ok (.aload_n 0, 1) := by decide +kernel
theorem dX0_drift_85 : decode cX0_drift 85 = .ok (.getfield 12, 3) := by decide +kernel
theorem dX0_drift_88 : decode cX0_drift 88 = .ok (.getfield 122, 3) := by decide +kernel
theorem dX0_drift_91 : decode cX0_drift 91 = .ok (.iload 8, 2) := by decide +kernel
theorem dX0_drift_93 : decode cX0_drift 93 = .ok (.iaload, 1) := by decide +kernel
theorem dX0_drift_94 : decode cX0_drift 94 = .ok (.iastore, 1) := by decide +kernel
theorem dX0_drift_95 : decode cX0_drift 95 = .ok (.iload 5, 2) := by decide +kernel
theorem dX0_drift_97 : decode cX0_drift 97 = .ok (.ifCond .ne 14, 3) := by decide +kernel
theorem dX0_drift_100 : decode cX0_drift 100 = .ok (.aload_n 3, 1) := by decide +kernel
theorem dX0_drift_101 : decode cX0_drift 101 = .ok (.iload 6, 2) := by decide +kernel
theorem dX0_drift_103 : decode cX0_drift 103 = .ok (.iaload, 1) := by decide +kernel
theorem dX0_drift_104 : decode cX0_drift 104 = .ok (.aload_n 1, 1) := by decide +kernel
theorem dX0_drift_105 : decode cX0_drift 105 = .ok (.iload 6, 2) := by decide +kernel
theorem dX0_drift_107 : decode cX0_drift 107 = .ok (.iaload, 1) := by decide +kernel
theorem dX0_drift_108 : decode cX0_drift 108 = .ok (.if_icmp .eq 7, 3) := by decide +kernel
theorem dX0_drift_111 : decode cX0_drift 111 = .ok (.iconst 1, 1) := by decide +kernel
theorem dX0_drift_112 : decode cX0_drift 112 = .ok (.goto 4, 3) := by decide +kernel
theorem dX0_drift_115 : decode cX0_drift 115 = .ok (.iconst 0, 1) := by decide +kernel
theorem dX0_drift_116 : decode cX0_drift 116 = .ok (.istore 5, 2) := by decide +kernel
theorem dX0_drift_118 : decode cX0_drift 118 = .ok (.iinc 6 1, 3) := by decide +kernel
theorem dX0_drift_121 : decode cX0_drift 121 = .ok (.goto (-106), 3) := by decide +kernel
theorem dX0_drift_124 : decode cX0_drift 124 = .ok (.iload 5, 2) := by decide +kernel
theorem dX0_drift_126 : decode cX0_drift 126 = .ok (.ireturn, 1) := by decide +kernel
theorem dX0_passHours_0 : decode cX0_passHours 0 = .ok (.iconst 0, 1) := by decide +kernel
theorem dX0_passHours_1 : decode cX0_passHours 1 = .ok (.istore_n 2, 1) := by decide +kernel
theorem dX0_passHours_2 : decode cX0_passHours 2 = .ok (.iconst 1, 1) := by decide +kernel
theorem dX0_passHours_3 : decode cX0_passHours 3 = .ok (.istore_n 3, 1) := by decide +kernel
theorem dX0_passHours_4 : decode cX0_passHours 4 = .ok (.iconst 0, 1) := by decide +kernel
theorem dX0_passHours_5 : decode cX0_passHours 5 = .ok (.istore 4, 2) := by decide +kernel
theorem dX0_passHours_7 : decode cX0_passHours 7 = .ok (.iload 4, 2) := by decide +kernel
theorem dX0_passHours_9 : decode cX0_passHours 9 = .ok (.iload_n 1, 1) := by decide +kernel
theorem dX0_passHours_10 : decode cX0_passHours 10 = .ok (.if_icmp .ge 85, 3) := by decide +kernel
theorem dX0_passHours_13 : decode cX0_passHours 13 = .ok (.iload_n 3, 1) := by decide +kernel
theorem dX0_passHours_14 : decode cX0_passHours 14 = .ok (.ifCond .eq 81, 3) := by decide +kernel
theorem dX0_passHours_17 : decode cX0_passHours 17 = .ok (.aload_n 0, 1) := by decide +kernel
theorem dX0_passHours_18 : decode cX0_passHours 18 = .ok (.aload_n 0, 1) := by decide +kernel
theorem dX0_passHours_19 : decode cX0_passHours 19 = .ok (.getfield 26, 3) := by decide +kernel
theorem dX0_passHours_22 : decode cX0_passHours 22 = .ok (.aload_n 0, 1) := by decide +kernel
theorem dX0_passHours_23 : decode cX0_passHours 23 = .ok (.getfield 32, 3) := by decide +kernel
theorem dX0_passHours_26 : decode cX0_passHours 26 = .ok (.aload_n 0, 1) := by decide +kernel
theorem dX0_passHours_27 : decode cX0_passHours 27 = .ok (.getfield 35, 3) := by decide +kernel
theorem dX0_passHours_30 : decode cX0_passHours 30 = .ok (.invokevirtual 128, 3) := by decide +kernel
theorem dX0_passHours_33 : decode cX0_passHours 33 = .ok (.istore 5, 2) := by decide +kernel
theorem dX0_passHours_35 : decode cX0_passHours 35 = .ok (.aload_n 0, 1) := by decide +kernel
theorem dX0_passHours_36 : decode cX0_passHours 36 = .ok (.getfield 35, 3) := by decide +kernel
theorem dX0_passHours_39 : decode cX0_passHours 39 = .ok (.iconst 0, 1) := by decide +kernel
theorem dX0_passHours_40 : decode cX0_passHours 40 = .ok (.aload_n 0, 1) := by decide +kernel
theorem dX0_passHours_41 : decode cX0_passHours 41 = .ok (.getfield 26, 3) := by decide +kernel
theorem dX0_passHours_44 : decode cX0_passHours 44 = .ok (.iconst 0, 1) := by decide +kernel
theorem dX0_passHours_45 : decode cX0_passHours 45 = .ok (.aload_n 0, 1) := by decide +kernel
theorem dX0_passHours_46 : decode cX0_passHours 46 = .ok (.invokevirtual 82, 3) := by decide +kernel
theorem dX0_passHours_49 : decode cX0_passHours 49 = .ok (.invokestatic 76, 3) := by decide +kernel
theorem dX0_passHours_52 : decode cX0_passHours 52 = .ok (.iload_n 2, 1) := by decide +kernel
theorem dX0_passHours_53 : decode cX0_passHours 53 = .ok (.ifCond .ne 8, 3) := by decide +kernel
theorem dX0_passHours_56 : decode cX0_passHours 56 = .ok (.iload 5, 2) := by decide +kernel
theorem dX0_passHours_58 : decode cX0_passHours 58 = .ok (.ifCond .eq 7, 3) := by decide +kernel
theorem dX0_passHours_61 : decode cX0_passHours 61 = .ok (.iconst 1, 1) := by decide +kernel
theorem dX0_passHours_62 : decode cX0_passHours 62 = .ok (.goto 4, 3) := by decide +kernel
theorem dX0_passHours_65 : decode cX0_passHours 65 = .ok (.iconst 0, 1) := by decide +kernel
theorem dX0_passHours_66 : decode cX0_passHours 66 = .ok (.istore_n 2, 1) := by decide +kernel
theorem dX0_passHours_67 : decode cX0_passHours 67 = .ok (.iload 5, 2) := by decide +kernel
theorem dX0_passHours_69 : decode cX0_passHours 69 = .ok (.ifCond .ne 10, 3) := by decide +kernel
theorem dX0_passHours_72 : decode cX0_passHours 72 = .ok (.aload_n 0, 1) := by decide +kernel
theorem dX0_passHours_73 : decode cX0_passHours 73 = .ok (.invokevirtual 132, 3) := by decide +kernel
theorem dX0_passHours_76 : decode cX0_passHours 76 = .ok (.ifCond .eq 7, 3) := by decide +kernel
theorem dX0_passHours_79 : decode cX0_passHours 79 = .ok (.iconst 1, 1) := by decide +kernel
theorem dX0_passHours_80 : decode cX0_passHours 80 = .ok (.goto 4, 3) := by decide +kernel
theorem dX0_passHours_83 : decode cX0_passHours 83 = .ok (.iconst 0, 1) := by decide +kernel
theorem dX0_passHours_84 : decode cX0_passHours 84 = .ok (.istore_n 3, 1) := by decide +kernel
theorem dX0_passHours_85 : decode cX0_passHours 85 = .ok (.aload_n 0, 1) := by decide +kernel
theorem dX0_passHours_86 : decode cX0_passHours 86 = .ok (.invokevirtual 135, 3) := by decide +kernel
theorem dX0_passHours_89 : decode cX0_passHours 89 = .ok (.iinc 4 1, 3) := by decide +kernel
theorem dX0_passHours_92 : decode cX0_passHours 92 = .ok (.goto (-85), 3) := by decide +kernel
theorem dX0_passHours_95 : decode cX0_passHours 95 = .ok (.aload_n 0, 1) := by decide +kernel
theorem dX0_passHours_96 : decode cX0_passHours 96 = .ok (.dup, 1) := by decide +kernel
theorem dX0_passHours_97 : decode cX0_passHours 97 = .ok (.getfield 57, 3) := by decide +kernel
theorem dX0_passHours_100 : decode cX0_passHours 100 = .ok (.iload_n 1, 1) := by decide +kernel
theorem dX0_passHours_101 : decode cX0_passHours 101 = .ok (.iadd, 1) := by decide +kernel
theorem dX0_passHours_102 : decode cX0_passHours 102 = .ok (.putfield 57, 3) := by decide +kernel
theorem dX0_passHours_105 : decode cX0_passHours 105 = .ok (.iload_n 2, 1) := by decide +kernel
theorem dX0_passHours_106 : decode cX0_passHours 106 = .ok (.ireturn, 1) := by decide +kernel
theorem dX0_lessenTaps_0 : decode cX0_lessenTaps 0 = .ok (.iconst 0, 1) := by decide +kernel
theorem dX0_lessenTaps_1 : decode cX0_lessenTaps 1 = .ok (.istore_n 1, 1) := by decide +kernel
theorem dX0_lessenTaps_2 : decode cX0_lessenTaps 2 = .ok (.iload_n 1, 1) := by decide +kernel
theorem dX0_lessenTaps_3 : decode cX0_lessenTaps 3 = .ok (.aload_n 0, 1) := by decide +kernel
theorem dX0_lessenTaps_4 : decode cX0_lessenTaps 4 = .ok (.invokevirtual 82, 3) := by decide +kernel
theorem dX0_lessenTaps_7 : decode cX0_lessenTaps 7 = .ok (.if_icmp .ge 27, 3) := by decide +kernel
theorem dX0_lessenTaps_10 : decode cX0_lessenTaps 10 = .ok (.aload_n 0, 1) := by decide +kernel
theorem dX0_lessenTaps_11 : decode cX0_lessenTaps 11 = .ok (.getfield 32, 3) := by decide +kernel
theorem dX0_lessenTaps_14 : decode cX0_lessenTaps 14 = .ok (.iload_n 1, 1) := by decide +kernel
theorem dX0_lessenTaps_15 : decode cX0_lessenTaps 15 = .ok (.aload_n 0, 1) := by decide +kernel
theorem dX0_lessenTaps_16 : decode cX0_lessenTaps 16 = .ok (.getfield 32, 3) := by decide +kernel
theorem dX0_lessenTaps_19 : decode cX0_lessenTaps 19 = .ok (.iload_n 1, 1) := by decide +kernel
theorem dX0_lessenTaps_20 : decode cX0_lessenTaps 20 = .ok (.iaload, 1) := by decide +kernel
theorem dX0_lessenTaps_21 : decode cX0_lessenTaps 21 = .ok (.iconst 1, 1) := by decide +kernel
theorem dX0_lessenTaps_22 : decode cX0_lessenTaps 22 = .ok (.isub, 1) := by decide +kernel
theorem dX0_lessenTaps_23 : decode cX0_lessenTaps 23 = .ok (.iconst 0, 1) := by decide +kernel
theorem dX0_lessenTaps_24 : decode cX0_lessenTaps 24 = .ok (.invokestatic 138, 3) := by decide +kernel
theorem dX0_lessenTaps_27 : decode cX0_lessenTaps 27 = .ok (.iastore, 1) := by decide +kernel
theorem dX0_lessenTaps_28 : decode cX0_lessenTaps 28 = .ok (.iinc 1 1, 3) := by decide +kernel
theorem dX0_lessenTaps_31 : decode cX0_lessenTaps 31 = .ok (.goto (-29), 3) := by decide +kernel
theorem dX0_lessenTaps_34 : decode cX0_lessenTaps 34 = .ok (.return_, 1) := by decide +kernel
theorem dX0_standAndTap_0 : decode cX0_standAndTap 0 = .ok (.aload_n 0, 1) := by decide +kernel
theorem dX0_standAndTap_1 : decode cX0_standAndTap 1 = .ok (.iload_n 1, 1) := by decide +kernel
theorem dX0_standAndTap_2 : decode cX0_standAndTap 2 = .ok (.invokevirtual 141, 3) := by decide +kernel
theorem dX0_standAndTap_5 : decode cX0_standAndTap 5 = .ok (.ifCond .eq 18, 3) := by decide +kernel
theorem dX0_standAndTap_8 : decode cX0_standAndTap 8 = .ok (.aload_n 0, 1) := by decide +kernel
theorem dX0_standAndTap_9 : decode cX0_standAndTap 9 = .ok (.iload_n 1, 1) := by decide +kernel
theorem dX0_standAndTap_10 : decode cX0_standAndTap 10 = .ok (.putfield 54, 3) := by decide +kernel
theorem dX0_standAndTap_13 : decode cX0_standAndTap 13 = .ok (.aload_n 0, 1) := by decide +kernel
theorem dX0_standAndTap_14 : decode cX0_standAndTap 14 = .ok (.getfield 32, 3) := by decide +kernel
theorem dX0_standAndTap_17 : decode cX0_standAndTap 17 = .ok (.iload_n 1, 1) := by decide +kernel
theorem dX0_standAndTap_18 : decode cX0_standAndTap 18 = .ok (.aload_n 0, 1) := by decide +kernel
theorem dX0_standAndTap_19 : decode cX0_standAndTap 19 = .ok (.getfield 45, 3) := by decide +kernel
theorem dX0_standAndTap_22 : decode cX0_standAndTap 22 = .ok (.iastore, 1) := by decide +kernel
theorem dX0_standAndTap_23 : decode cX0_standAndTap 23 = .ok (.return_, 1) := by decide +kernel
theorem dX0_putDigit_0 : decode cX0_putDigit 0 = .ok (.aload_n 0, 1) := by decide +kernel
theorem dX0_putDigit_1 : decode cX0_putDigit 1 = .ok (.getfield 26, 3) := by decide +kernel
theorem dX0_putDigit_4 : decode cX0_putDigit 4 = .ok (.iload_n 1, 1) := by decide +kernel
theorem dX0_putDigit_5 : decode cX0_putDigit 5 = .ok (.iaload, 1) := by decide +kernel
theorem dX0_putDigit_6 : decode cX0_putDigit 6 = .ok (.istore_n 3, 1) := by decide +kernel
theorem dX0_putDigit_7 : decode cX0_putDigit 7 = .ok (.aload_n 0, 1) := by decide +kernel
theorem dX0_putDigit_8 : decode cX0_putDigit 8 = .ok (.getfield 26, 3) := by decide +kernel
theorem dX0_putDigit_11 : decode cX0_putDigit 11 = .ok (.iload_n 1, 1) := by decide +kernel
theorem dX0_putDigit_12 : decode cX0_putDigit 12 = .ok (.iload_n 2, 1) := by decide +kernel
theorem dX0_putDigit_13 : decode cX0_putDigit 13 = .ok (.iastore, 1) := by decide +kernel
theorem dX0_putDigit_14 : decode cX0_putDigit 14 = .ok (.iload_n 3, 1) := by decide +kernel
theorem dX0_putDigit_15 : decode cX0_putDigit 15 = .ok (.ireturn, 1) := by decide +kernel
theorem dX0_takeAway_0 : decode cX0_takeAway 0 = .ok (.aload_n 0, 1) := by decide +kernel
theorem dX0_takeAway_1 : decode cX0_takeAway 1 = .ok (.iload_n 1, 1) := by decide +kernel
theorem dX0_takeAway_2 : decode cX0_takeAway 2 = .ok (.iconst 0, 1) := by decide +kernel
theorem dX0_takeAway_3 : decode cX0_takeAway 3 = .ok (.invokevirtual 145, 3) := by decide +kernel
theorem dX0_takeAway_6 : decode cX0_takeAway 6 = .ok (.istore_n 2, 1) := by decide +kernel
theorem dX0_takeAway_7 : decode cX0_takeAway 7 = .ok (.aload_n 0, 1) := by decide +kernel
theorem dX0_takeAway_8 : decode cX0_takeAway 8 = .ok (.dup, 1) := by decide +kernel
theorem dX0_takeAway_9 : decode cX0_takeAway 9 = .ok (.getfield 60, 3) := by decide +kernel
theorem dX0_takeAway_12 : decode cX0_takeAway 12 = .ok (.iload_n 2, 1) := by decide +kernel
theorem dX0_takeAway_13 : decode cX0_takeAway 13 = .ok (.iadd, 1) := by decide +kernel
theorem dX0_takeAway_14 : decode cX0_takeAway 14 = .ok (.putfield 60, 3) := by decide +kernel
theorem dX0_takeAway_17 : decode cX0_takeAway 17 = .ok (.iload_n 2, 1) := by decide +kernel
theorem dX0_takeAway_18 : decode cX0_takeAway 18 = .ok (.ireturn, 1) := by decide +kernel
theorem dX0_isWrong_0 : decode cX0_isWrong 0 = .ok (.aload_n 0, 1) := by decide +kernel
theorem dX0_isWrong_1 : decode cX0_isWrong 1 = .ok (.getfield 26, 3) := by decide +kernel
theorem dX0_isWrong_4 : decode cX0_isWrong 4 = .ok (.iload_n 1, 1) := by decide +kernel
theorem dX0_isWrong_5 : decode cX0_isWrong 5 = .ok (.iaload, 1) := by decide +kernel
theorem dX0_isWrong_6 : decode cX0_isWrong 6 = .ok (.aload_n 0, 1) := by decide +kernel
theorem dX0_isWrong_7 : decode cX0_isWrong 7 = .ok (.getfield 29, 3) := by decide +kernel
theorem dX0_isWrong_10 : decode cX0_isWrong 10 = .ok (.iload_n 1, 1) := by decide +kernel
theorem dX0_isWrong_11 : decode cX0_isWrong 11 = .ok (.iaload, 1) := by decide +kernel
theorem dX0_isWrong_12 : decode cX0_isWrong 12 = .ok (.if_icmp .eq 7, 3) := by decide +kernel
theorem dX0_isWrong_15 : decode cX0_isWrong 15 = .ok (.iconst 1, 1) := by decide +kernel
theorem dX0_isWrong_16 : decode cX0_isWrong 16 = .ok (.goto 4, 3) := by decide +kernel
theorem dX0_isWrong_19 : decode cX0_isWrong 19 = .ok (.iconst 0, 1) := by decide +kernel
theorem dX0_isWrong_20 : decode cX0_isWrong 20 = .ok (.ireturn, 1) := by decide +kernel
theorem dX0_wrongs_0 : decode cX0_wrongs 0 = .ok (.iconst 0, 1) := by decide +kernel
theorem dX0_wrongs_1 : decode cX0_wrongs 1 = .ok (.istore_n 1, 1) := by decide +kernel
theorem dX0_wrongs_2 : decode cX0_wrongs 2 = .ok (.iconst 0, 1) := by decide +kernel
theorem dX0_wrongs_3 : decode cX0_wrongs 3 = .ok (.istore_n 2, 1) := by decide +kernel
theorem dX0_wrongs_4 : decode cX0_wrongs 4 = .ok (.iload_n 2, 1) := by decide +kernel
theorem dX0_wrongs_5 : decode cX0_wrongs 5 = .ok (.aload_n 0, 1) := by decide +kernel
theorem dX0_wrongs_6 : decode cX0_wrongs 6 = .ok (.invokevirtual 82, 3) := by decide +kernel
theorem dX0_wrongs_9 : decode cX0_wrongs 9 = .ok (.if_icmp .ge 25, 3) := by decide +kernel
theorem dX0_wrongs_12 : decode cX0_wrongs 12 = .ok (.iload_n 1, 1) := by decide +kernel
theorem dX0_wrongs_13 : decode cX0_wrongs 13 = .ok (.aload_n 0, 1) := by decide +kernel
theorem dX0_wrongs_14 : decode cX0_wrongs 14 = .ok (.iload_n 2, 1) := by decide +kernel
theorem dX0_wrongs_15 : decode cX0_wrongs 15 = .ok (.invokevirtual 148, 3) := by decide +kernel
theorem dX0_wrongs_18 : decode cX0_wrongs 18 = .ok (.ifCond .eq 7, 3) := by decide +kernel
theorem dX0_wrongs_21 : decode cX0_wrongs 21 = .ok (.iconst 1, 1) := by decide +kernel
theorem dX0_wrongs_22 : decode cX0_wrongs 22 = .ok (.goto 4, 3) := by decide +kernel
theorem dX0_wrongs_25 : decode cX0_wrongs 25 = .ok (.iconst 0, 1) := by decide +kernel
theorem dX0_wrongs_26 : decode cX0_wrongs 26 = .ok (.iadd, 1) := by decide +kernel
theorem dX0_wrongs_27 : decode cX0_wrongs 27 = .ok (.istore_n 1, 1) := by decide +kernel
theorem dX0_wrongs_28 : decode cX0_wrongs 28 = .ok (.iinc 2 1, 3) := by decide +kernel
theorem dX0_wrongs_31 : decode cX0_wrongs 31 = .ok (.goto (-27), 3) := by decide +kernel
theorem dX0_wrongs_34 : decode cX0_wrongs 34 = .ok (.iload_n 1, 1) := by decide +kernel
theorem dX0_wrongs_35 : decode cX0_wrongs 35 = .ok (.ireturn, 1) := by decide +kernel
theorem dX0_tappedSet_0 : decode cX0_tappedSet 0 = .ok (.iconst 0, 1) := by decide +kernel
theorem dX0_tappedSet_1 : decode cX0_tappedSet 1 = .ok (.istore_n 1, 1) := by decide +kernel
theorem dX0_tappedSet_2 : decode cX0_tappedSet 2 = .ok (.iconst 0, 1) := by decide +kernel
theorem dX0_tappedSet_3 : decode cX0_tappedSet 3 = .ok (.istore_n 2, 1) := by decide +kernel
theorem dX0_tappedSet_4 : decode cX0_tappedSet 4 = .ok (.iload_n 2, 1) := by decide +kernel
theorem dX0_tappedSet_5 : decode cX0_tappedSet 5 = .ok (.aload_n 0, 1) := by decide +kernel
theorem dX0_tappedSet_6 : decode cX0_tappedSet 6 = .ok (.invokevirtual 82, 3) := by decide +kernel
theorem dX0_tappedSet_9 : decode cX0_tappedSet 9 = .ok (.if_icmp .ge 28, 3) := by decide +kernel
theorem dX0_tappedSet_12 : decode cX0_tappedSet 12 = .ok (.iload_n 1, 1) := by decide +kernel
theorem dX0_tappedSet_13 : decode cX0_tappedSet 13 = .ok (.aload_n 0, 1) := by decide +kernel
theorem dX0_tappedSet_14 : decode cX0_tappedSet 14 = .ok (.getfield 32, 3) := by decide +kernel
theorem dX0_tappedSet_17 : decode cX0_tappedSet 17 = .ok (.iload_n 2, 1) := by decide +kernel
theorem dX0_tappedSet_18 : decode cX0_tappedSet 18 = .ok (.iaload, 1) := by decide +kernel
theorem dX0_tappedSet_19 : decode cX0_tappedSet 19 = .ok (.ifCond .le 9, 3) := by decide +kernel
theorem dX0_tappedSet_22 : decode cX0_tappedSet 22 = .ok (.iconst 1, 1) := by decide +kernel
theorem dX0_tappedSet_23 : decode cX0_tappedSet 23 = .ok (.iload_n 2, 1) := by decide +kernel
theorem dX0_tappedSet_24 : decode cX0_tappedSet 24 = .ok (.ishl, 1) := by decide +kernel
theorem dX0_tappedSet_25 : decode cX0_tappedSet 25 = .ok (.goto 4, 3) := by decide +kernel
theorem dX0_tappedSet_28 : decode cX0_tappedSet 28 = .ok (.iconst 0, 1) := by decide +kernel
theorem dX0_tappedSet_29 : decode cX0_tappedSet 29 = .ok (.ior, 1) := by decide +kernel
theorem dX0_tappedSet_30 : decode cX0_tappedSet 30 = .ok (.istore_n 1, 1) := by decide +kernel
theorem dX0_tappedSet_31 : decode cX0_tappedSet 31 = .ok (.iinc 2 1, 3) := by decide +kernel
theorem dX0_tappedSet_34 : decode cX0_tappedSet 34 = .ok (.goto (-30), 3) := by decide +kernel
theorem dX0_tappedSet_37 : decode cX0_tappedSet 37 = .ok (.iload_n 1, 1) := by decide +kernel
theorem dX0_tappedSet_38 : decode cX0_tappedSet 38 = .ok (.ireturn, 1) := by decide +kernel
theorem dX0_sumOf_0 : decode cX0_sumOf 0 = .ok (.iconst 0, 1) := by decide +kernel
theorem dX0_sumOf_1 : decode cX0_sumOf 1 = .ok (.istore_n 3, 1) := by decide +kernel
theorem dX0_sumOf_2 : decode cX0_sumOf 2 = .ok (.iconst 0, 1) := by decide +kernel
theorem dX0_sumOf_3 : decode cX0_sumOf 3 = .ok (.istore 4, 2) := by decide +kernel
theorem dX0_sumOf_5 : decode cX0_sumOf 5 = .ok (.iload 4, 2) := by decide +kernel
theorem dX0_sumOf_7 : decode cX0_sumOf 7 = .ok (.aload_n 0, 1) := by decide +kernel
theorem dX0_sumOf_8 : decode cX0_sumOf 8 = .ok (.getfield 41, 3) := by decide +kernel
theorem dX0_sumOf_11 : decode cX0_sumOf 11 = .ok (.if_icmp .ge 26, 3) := by decide +kernel
theorem dX0_sumOf_14 : decode cX0_sumOf 14 = .ok (.iload_n 3, 1) := by decide +kernel
theorem dX0_sumOf_15 : decode cX0_sumOf 15 = .ok (.bipush 10, 2) := by decide +kernel
theorem dX0_sumOf_17 : decode cX0_sumOf 17 = .ok (.imul, 1) := by decide +kernel
theorem dX0_sumOf_18 : decode cX0_sumOf 18 = .ok (.aload_n 1, 1) := by decide +kernel
theorem dX0_sumOf_19 : decode cX0_sumOf 19 = .ok (.iload_n 2, 1) := by decide +kernel
theorem dX0_sumOf_20 : decode cX0_sumOf 20 = .ok (.aload_n 0, 1) := by decide +kernel
theorem dX0_sumOf_21 : decode cX0_sumOf 21 = .ok (.getfield 41, 3) := by decide +kernel
theorem dX0_sumOf_24 : decode cX0_sumOf 24 = .ok (.imul, 1) := by decide +kernel
theorem dX0_sumOf_25 : decode cX0_sumOf 25 = .ok (.iload 4, 2) := by decide +kernel
theorem dX0_sumOf_27 : decode cX0_sumOf 27 = .ok (.iadd, 1) := by decide +kernel
theorem dX0_sumOf_28 : decode cX0_sumOf 28 = .ok (.iaload, 1) := by decide +kernel
theorem dX0_sumOf_29 : decode cX0_sumOf 29 = .ok (.iadd, 1) := by decide +kernel
theorem dX0_sumOf_30 : decode cX0_sumOf 30 = .ok (.istore_n 3, 1) := by decide +kernel
theorem dX0_sumOf_31 : decode cX0_sumOf 31 = .ok (.iinc 4 1, 3) := by decide +kernel
theorem dX0_sumOf_34 : decode cX0_sumOf 34 = .ok (.goto (-29), 3) := by decide +kernel
theorem dX0_sumOf_37 : decode cX0_sumOf 37 = .ok (.iload_n 3, 1) := by decide +kernel
theorem dX0_sumOf_38 : decode cX0_sumOf 38 = .ok (.ireturn, 1) := by decide +kernel
theorem dX0_surplus_0 : decode cX0_surplus 0 = .ok (.iconst 0, 1) := by decide +kernel
theorem dX0_surplus_1 : decode cX0_surplus 1 = .ok (.istore_n 1, 1) := by decide +kernel
theorem dX0_surplus_2 : decode cX0_surplus 2 = .ok (.iconst 0, 1) := by decide +kernel
theorem dX0_surplus_3 : decode cX0_surplus 3 = .ok (.istore_n 2, 1) := by decide +kernel
theorem dX0_surplus_4 : decode cX0_surplus 4 = .ok (.iload_n 2, 1) := by decide +kernel
theorem dX0_surplus_5 : decode cX0_surplus 5 = .ok (.aload_n 0, 1) := by decide +kernel
theorem dX0_surplus_6 : decode cX0_surplus 6 = .ok (.getfield 51, 3) := by decide +kernel
theorem dX0_surplus_9 : decode cX0_surplus 9 = .ok (.if_icmp .ge 37, 3) := by decide +kernel
theorem dX0_surplus_12 : decode cX0_surplus 12 = .ok (.aload_n 0, 1) := by decide +kernel
theorem dX0_surplus_13 : decode cX0_surplus 13 = .ok (.aload_n 0, 1) := by decide +kernel
theorem dX0_surplus_14 : decode cX0_surplus 14 = .ok (.getfield 26, 3) := by decide +kernel
theorem dX0_surplus_17 : decode cX0_surplus 17 = .ok (.iload_n 2, 1) := by decide +kernel
theorem dX0_surplus_18 : decode cX0_surplus 18 = .ok (.invokevirtual 151, 3) := by decide +kernel
theorem dX0_surplus_21 : decode cX0_surplus 21 = .ok (.istore_n 3, 1) := by decide +kernel
theorem dX0_surplus_22 : decode cX0_surplus 22 = .ok (.iload_n 1, 1) := by decide +kernel
theorem dX0_surplus_23 : decode cX0_surplus 23 = .ok (.aload_n 0, 1) := by decide +kernel
theorem dX0_surplus_24 : decode cX0_surplus 24 = .ok (.getfield 18, 3) := by decide +kernel
theorem dX0_surplus_27 : decode cX0_surplus 27 = .ok (.iload_n 2, 1) := by decide +kernel
theorem dX0_surplus_28 : decode cX0_surplus 28 = .ok (.iaload, 1) := by decide +kernel
theorem dX0_surplus_29 : decode cX0_surplus 29 = .ok (.ifCond .ne 7, 3) := by decide +kernel
theorem dX0_surplus_32 : decode cX0_surplus 32 = .ok (.iload_n 3, 1) := by decide +kernel
theorem dX0_surplus_33 : decode cX0_surplus 33 = .ok (.goto 5, 3) := by decide +kernel
theorem dX0_surplus_36 : decode cX0_surplus 36 = .ok (.iload_n 3, 1) := by decide +kernel
theorem dX0_surplus_37 : decode cX0_surplus 37 = .ok (.ineg, 1) := by decide +kernel
theorem dX0_surplus_38 : decode cX0_surplus 38 = .ok (.iadd, 1) := by decide +kernel
theorem dX0_surplus_39 : decode cX0_surplus 39 = .ok (.istore_n 1, 1) := by decide +kernel
theorem dX0_surplus_40 : decode cX0_surplus 40 = .ok (.iinc 2 1, 3) := by decide +kernel
theorem dX0_surplus_43 : decode cX0_surplus 43 = .ok (.goto (-39), 3) := by decide +kernel
theorem dX0_surplus_46 : decode cX0_surplus 46 = .ok (.iload_n 1, 1) := by decide +kernel
theorem dX0_surplus_47 : decode cX0_surplus 47 = .ok (.ireturn, 1) := by decide +kernel
theorem dX0_weightOf_0 : decode cX0_weightOf 0 = .ok (.getstatic 154, 3) := by decide +kernel
theorem dX0_weightOf_3 : decode cX0_weightOf 3 = .ok (.aload_n 0, 1) := by decide +kernel
theorem dX0_weightOf_4 : decode cX0_weightOf 4 = .ok (.getfield 41, 3) := by decide +kernel
theorem dX0_weightOf_7 : decode cX0_weightOf 7 = .ok (.iconst 1, 1) := by decide +kernel
theorem dX0_weightOf_8 : decode cX0_weightOf 8 = .ok (.isub, 1) := by decide +kernel
theorem dX0_weightOf_9 : decode cX0_weightOf 9 = .ok (.aload_n 0, 1) := by decide +kernel
theorem dX0_weightOf_10 : decode cX0_weightOf 10 = .ok (.iload_n 1, 1) := by decide +kernel
theorem dX0_weightOf_11 : decode cX0_weightOf 11 = .ok (.invokevirtual 99, 3) := by decide +kernel
theorem dX0_weightOf_14 : decode cX0_weightOf 14 = .ok (.isub, 1) := by decide +kernel
theorem dX0_weightOf_15 : decode cX0_weightOf 15 = .ok (.iaload, 1) := by decide +kernel
theorem dX0_weightOf_16 : decode cX0_weightOf 16 = .ok (.istore_n 2, 1) := by decide +kernel
theorem dX0_weightOf_17 : decode cX0_weightOf 17 = .ok (.aload_n 0, 1) := by decide +kernel
theorem dX0_weightOf_18 : decode cX0_weightOf 18 = .ok (.getfield 18, 3) := by decide +kernel
theorem dX0_weightOf_21 : decode cX0_weightOf 21 = .ok (.aload_n 0, 1) := by decide +kernel
theorem dX0_weightOf_22 : decode cX0_weightOf 22 = .ok (.iload_n 1, 1) := by decide +kernel
theorem dX0_weightOf_23 : decode cX0_weightOf 23 = .ok (.invokevirtual 90, 3) := by decide +kernel
theorem dX0_weightOf_26 : decode cX0_weightOf 26 = .ok (.iaload, 1) := by decide +kernel
theorem dX0_weightOf_27 : decode cX0_weightOf 27 = .ok (.ifCond .ne 7, 3) := by decide +kernel
theorem dX0_weightOf_30 : decode cX0_weightOf 30 = .ok (.iload_n 2, 1) := by decide +kernel
theorem dX0_weightOf_31 : decode cX0_weightOf 31 = .ok (.goto 5, 3) := by decide +kernel
theorem dX0_weightOf_34 : decode cX0_weightOf 34 = .ok (.iload_n 2, 1) := by decide +kernel
theorem dX0_weightOf_35 : decode cX0_weightOf 35 = .ok (.ineg, 1) := by decide +kernel
theorem dX0_weightOf_36 : decode cX0_weightOf 36 = .ok (.ireturn, 1) := by decide +kernel
theorem dX0_leastRubbed_0 : decode cX0_leastRubbed 0 = .ok (.aload_n 0, 1) := by decide +kernel
theorem dX0_leastRubbed_1 : decode cX0_leastRubbed 1 = .ok (.invokevirtual 157, 3) := by decide +kernel
theorem dX0_leastRubbed_4 : decode cX0_leastRubbed 4 = .ok (.istore_n 1, 1) := by decide +kernel
theorem dX0_leastRubbed_5 : decode cX0_leastRubbed 5 = .ok (.iload_n 1, 1) := by decide +kernel
theorem dX0_leastRubbed_6 : decode cX0_leastRubbed 6 = .ok (.ifCond .ne 5, 3) := by decide +kernel
theorem dX0_leastRubbed_9 : decode cX0_leastRubbed 9 = .ok (.iconst 0, 1) := by decide +kernel
theorem dX0_leastRubbed_10 : decode cX0_leastRubbed 10 = .ok (.ireturn, 1) := by decide +kernel
theorem dX0_leastRubbed_11 : decode cX0_leastRubbed 11 = .ok (.iconst 0, 1) := by decide +kernel
theorem dX0_leastRubbed_12 : decode cX0_leastRubbed 12 = .ok (.istore_n 2, 1) := by decide +kernel
theorem dX0_leastRubbed_13 : decode cX0_leastRubbed 13 = .ok (.iload_n 2, 1) := by decide +kernel
theorem dX0_leastRubbed_14 : decode cX0_leastRubbed 14 = .ok (.aload_n 0, 1) := by decide +kernel
theorem dX0_leastRubbed_15 : decode cX0_leastRubbed 15 = .ok (.invokevirtual 82, 3) := by decide +kernel
theorem dX0_leastRubbed_18 : decode cX0_leastRubbed 18 = .ok (.if_icmp .ge 22, 3) := by decide +kernel
theorem dX0_leastRubbed_21 : decode cX0_leastRubbed 21 = .ok (.aload_n 0, 1) := by decide +kernel
theorem dX0_leastRubbed_22 : decode cX0_leastRubbed 22 = .ok (.iload_n 2, 1) := by decide +kernel
theorem dX0_leastRubbed_23 : decode cX0_leastRubbed 23 = .ok (.iload_n 1, 1) := by decide +kernel
theorem dX0_leastRubbed_24 : decode cX0_leastRubbed 24 = .ok (.invokevirtual 160, 3) := by decide +kernel
theorem dX0_leastRubbed_27 : decode cX0_leastRubbed 27 = .ok (.ifCond .eq 7, 3) := by decide +kernel
theorem dX0_leastRubbed_30 : decode cX0_leastRubbed 30 = .ok (.iconst 1, 1) := by decide +kernel
theorem dX0_leastRubbed_31 : decode cX0_leastRubbed 31 = .ok (.iload_n 2, 1) := by decide +kernel
theorem dX0_leastRubbed_32 : decode cX0_leastRubbed 32 = .ok (.ishl, 1) := by decide +kernel
theorem dX0_leastRubbed_33 : decode cX0_leastRubbed 33 = .ok (.ireturn, 1) := by decide +kernel
theorem dX0_leastRubbed_34 : decode cX0_leastRubbed 34 = .ok (.iinc 2 1, 3) := by decide +kernel
theorem dX0_leastRubbed_37 : decode cX0_leastRubbed 37 = .ok (.goto (-24), 3) := by decide +kernel
theorem dX0_leastRubbed_40 : decode cX0_leastRubbed 40 = .ok (.iconst 1, 1) := by decide +kernel
theorem dX0_leastRubbed_41 : decode cX0_leastRubbed 41 = .ok (.istore_n 2, 1) := by decide +kernel
theorem dX0_leastRubbed_42 : decode cX0_leastRubbed 42 = .ok (.iload_n 2, 1) := by decide +kernel
theorem dX0_leastRubbed_43 : decode cX0_leastRubbed 43 = .ok (.aload_n 0, 1) := by decide +kernel
theorem dX0_leastRubbed_44 : decode cX0_leastRubbed 44 = .ok (.invokevirtual 82, 3) := by decide +kernel
theorem dX0_leastRubbed_47 : decode cX0_leastRubbed 47 = .ok (.if_icmp .ge 40, 3) := by decide +kernel
theorem dX0_leastRubbed_50 : decode cX0_leastRubbed 50 = .ok (.iconst 0, 1) := by decide +kernel
theorem dX0_leastRubbed_51 : decode cX0_leastRubbed 51 = .ok (.istore_n 3, 1) := by decide +kernel
theorem dX0_leastRubbed_52 : decode cX0_leastRubbed 52 = .ok (.iload_n 3, 1) := by decide +kernel
theorem dX0_leastRubbed_53 : decode cX0_leastRubbed 53 = .ok (.iload_n 2, 1) := by decide +kernel
theorem dX0_leastRubbed_54 : decode cX0_leastRubbed 54 = .ok (.if_icmp .ge 27, 3) := by decide +kernel
theorem dX0_leastRubbed_57 : decode cX0_leastRubbed 57 = .ok (.aload_n 0, 1) := by decide +kernel
theorem dX0_leastRubbed_58 : decode cX0_leastRubbed 58 = .ok (.iload_n 3, 1) := by decide +kernel
theorem dX0_leastRubbed_59 : decode cX0_leastRubbed 59 = .ok (.iload_n 2, 1) := by decide +kernel
theorem dX0_leastRubbed_60 : decode cX0_leastRubbed 60 = .ok (.iload_n 1, 1) := by decide +kernel
theorem dX0_leastRubbed_61 : decode cX0_leastRubbed 61 = .ok (.invokevirtual 164, 3) := by decide +kernel
theorem dX0_leastRubbed_64 : decode cX0_leastRubbed 64 = .ok (.ifCond .eq 11, 3) := by decide +kernel
theorem dX0_leastRubbed_67 : decode cX0_leastRubbed 67 = .ok (.iconst 1, 1) := by decide +kernel
theorem dX0_leastRubbed_68 : decode cX0_leastRubbed 68 = .ok (.iload_n 3, 1) := by decide +kernel
theorem dX0_leastRubbed_69 : decode cX0_leastRubbed 69 = .ok (.ishl, 1) := by decide +kernel
theorem dX0_leastRubbed_70 : decode cX0_leastRubbed 70 = .ok (.iconst 1, 1) := by decide +kernel
theorem dX0_leastRubbed_71 : decode cX0_leastRubbed 71 = .ok (.iload_n 2, 1) := by decide +kernel
theorem dX0_leastRubbed_72 : decode cX0_leastRubbed 72 = .ok (.ishl, 1) := by decide +kernel
theorem dX0_leastRubbed_73 : decode cX0_leastRubbed 73 = .ok (.ior, 1) := by decide +kernel
theorem dX0_leastRubbed_74 : decode cX0_leastRubbed 74 = .ok (.ireturn, 1) := by decide +kernel
theorem dX0_leastRubbed_75 : decode cX0_leastRubbed 75 = .ok (.iinc 3 1, 3) := by decide +kernel
theorem dX0_leastRubbed_78 : decode cX0_leastRubbed 78 = .ok (.goto (-26), 3) := by decide +kernel
theorem dX0_leastRubbed_81 : decode cX0_leastRubbed 81 = .ok (.iinc 2 1, 3) := by decide +kernel
theorem dX0_leastRubbed_84 : decode cX0_leastRubbed 84 = .ok (.goto (-42), 3) := by decide +kernel
theorem dX0_leastRubbed_87 : decode cX0_leastRubbed 87 = .ok (.iconst (-1), 1) := by decide +kernel
theorem dX0_leastRubbed_88 : decode cX0_leastRubbed 88 = .ok (.ireturn, 1) := by decide +kernel
theorem dX0_evensOut_0 : decode cX0_evensOut 0 = .ok (.aload_n 0, 1) := by decide +kernel
theorem dX0_evensOut_1 : decode cX0_evensOut 1 = .ok (.iload_n 1, 1) := by decide +kernel
theorem dX0_evensOut_2 : decode cX0_evensOut 2 = .ok (.invokevirtual 167, 3) := by decide +kernel
theorem dX0_evensOut_5 : decode cX0_evensOut 5 = .ok (.istore_n 3, 1) := by decide +kernel
theorem dX0_evensOut_6 : decode cX0_evensOut 6 = .ok (.iconst 0, 1) := by decide +kernel
theorem dX0_evensOut_7 : decode cX0_evensOut 7 = .ok (.istore 4, 2) := by decide +kernel
theorem dX0_evensOut_9 : decode cX0_evensOut 9 = .ok (.iload 4, 2) := by decide +kernel
theorem dX0_evensOut_11 : decode cX0_evensOut 11 = .ok (.bipush 9, 2) := by decide +kernel
theorem dX0_evensOut_13 : decode cX0_evensOut 13 = .ok (.if_icmp .gt 36, 3) := by decide +kernel
theorem dX0_evensOut_16 : decode cX0_evensOut 16 = .ok (.iload 4, 2) := by decide +kernel
theorem dX0_evensOut_18 : decode cX0_evensOut 18 = .ok (.aload_n 0, 1) := by decide +kernel
theorem dX0_evensOut_19 : decode cX0_evensOut 19 = .ok (.getfield 26, 3) := by decide +kernel
theorem dX0_evensOut_22 : decode cX0_evensOut 22 = .ok (.iload_n 1, 1) := by decide +kernel
theorem dX0_evensOut_23 : decode cX0_evensOut 23 = .ok (.iaload, 1) := by decide +kernel
theorem dX0_evensOut_24 : decode cX0_evensOut 24 = .ok (.isub, 1) := by decide +kernel
theorem dX0_evensOut_25 : decode cX0_evensOut 25 = .ok (.istore 5, 2) := by decide +kernel
theorem dX0_evensOut_27 : decode cX0_evensOut 27 = .ok (.iload 5, 2) := by decide +kernel
theorem dX0_evensOut_29 : decode cX0_evensOut 29 = .ok (.ifCond .eq 14, 3) := by decide +kernel
theorem dX0_evensOut_32 : decode cX0_evensOut 32 = .ok (.iload_n 2, 1) := by decide +kernel
theorem dX0_evensOut_33 : decode cX0_evensOut 33 = .ok (.iload 5, 2) := by decide +kernel
theorem dX0_evensOut_35 : decode cX0_evensOut 35 = .ok (.iload_n 3, 1) := by decide +kernel
theorem dX0_evensOut_36 : decode cX0_evensOut 36 = .ok (.imul, 1) := by decide +kernel
theorem dX0_evensOut_37 : decode cX0_evensOut 37 = .ok (.iadd, 1) := by decide +kernel
theorem dX0_evensOut_38 : decode cX0_evensOut 38 = .ok (.ifCond .ne 5, 3) := by decide +kernel
theorem dX0_evensOut_41 : decode cX0_evensOut 41 = .ok (.iconst 1, 1) := by decide +kernel
theorem dX0_evensOut_42 : decode cX0_evensOut 42 = .ok (.ireturn, 1) := by decide +kernel
theorem dX0_evensOut_43 : decode cX0_evensOut 43 = .ok (.iinc 4 1, 3) := by decide +kernel
theorem dX0_evensOut_46 : decode cX0_evensOut 46 = .ok (.goto (-37), 3) := by decide +kernel
theorem dX0_evensOut_49 : decode cX0_evensOut 49 = .ok (.iconst 0, 1) := by decide +kernel
theorem dX0_evensOut_50 : decode cX0_evensOut 50 = .ok (.ireturn, 1) := by decide +kernel
theorem dX0_evenOut_0 : decode cX0_evenOut 0 = .ok (.aload_n 0, 1) := by decide +kernel
theorem dX0_evenOut_1 : decode cX0_evenOut 1 = .ok (.iload_n 2, 1) := by decide +kernel
theorem dX0_evenOut_2 : decode cX0_evenOut 2 = .ok (.invokevirtual 167, 3) := by decide +kernel
theorem dX0_evenOut_5 : decode cX0_evenOut 5 = .ok (.istore 4, 2) := by decide +kernel
theorem dX0_evenOut_7 : decode cX0_evenOut 7 = .ok (.iconst 0, 1) := by decide +kernel
theorem dX0_evenOut_8 : decode cX0_evenOut 8 = .ok (.istore 5, 2) := by decide +kernel
theorem dX0_evenOut_10 : decode cX0_evenOut 10 = .ok (.iload 5, 2) := by decide +kernel
theorem dX0_evenOut_12 : decode cX0_evenOut 12 = .ok (.bipush 9, 2) := by decide +kernel
theorem dX0_evenOut_14 : decode cX0_evenOut 14 = .ok (.if_icmp .gt 42, 3) := by decide +kernel
theorem dX0_evenOut_17 : decode cX0_evenOut 17 = .ok (.iload 5, 2) := by decide +kernel
theorem dX0_evenOut_19 : decode cX0_evenOut 19 = .ok (.aload_n 0, 1) := by decide +kernel
theorem dX0_evenOut_20 : decode cX0_evenOut 20 = .ok (.getfield 26, 3) := by decide +kernel
theorem dX0_evenOut_23 : decode cX0_evenOut 23 = .ok (.iload_n 2, 1) := by decide +kernel
theorem dX0_evenOut_24 : decode cX0_evenOut 24 = .ok (.iaload, 1) := by decide +kernel
theorem dX0_evenOut_25 : decode cX0_evenOut 25 = .ok (.isub, 1) := by decide +kernel
theorem dX0_evenOut_26 : decode cX0_evenOut 26 = .ok (.istore 6, 2) := by decide +kernel
theorem dX0_evenOut_28 : decode cX0_evenOut 28 = .ok (.iload 6, 2) := by decide +kernel
theorem dX0_evenOut_30 : decode cX0_evenOut 30 = .ok (.ifCond .eq 20, 3) := by decide +kernel
theorem dX0_evenOut_33 : decode cX0_evenOut 33 = .ok (.aload_n 0, 1) := by decide +kernel
theorem dX0_evenOut_34 : decode cX0_evenOut 34 = .ok (.iload_n 1, 1) := by decide +kernel
theorem dX0_evenOut_35 : decode cX0_evenOut 35 = .ok (.iload_n 3, 1) := by decide +kernel
theorem dX0_evenOut_36 : decode cX0_evenOut 36 = .ok (.iload 6, 2) := by decide +kernel
theorem dX0_evenOut_38 : decode cX0_evenOut 38 = .ok (.iload 4, 2) := by decide +kernel
theorem dX0_evenOut_40 : decode cX0_evenOut 40 = .ok (.imul, 1) := by decide +kernel
theorem dX0_evenOut_41 : decode cX0_evenOut 41 = .ok (.iadd, 1) := by decide +kernel
theorem dX0_evenOut_42 : decode cX0_evenOut 42 = .ok (.invokevirtual 160, 3) := by decide +kernel
theorem dX0_evenOut_45 : decode cX0_evenOut 45 = .ok (.ifCond .eq 5, 3) := by decide +kernel
theorem dX0_evenOut_48 : decode cX0_evenOut 48 = .ok (.iconst 1, 1) := by decide +kernel
theorem dX0_evenOut_49 : decode cX0_evenOut 49 = .ok (.ireturn, 1) := by decide +kernel
theorem dX0_evenOut_50 : decode cX0_evenOut 50 = .ok (.iinc 5 1, 3) := by decide +kernel
theorem dX0_evenOut_53 : decode cX0_evenOut 53 = .ok (.goto (-43), 3) := by decide +kernel
theorem dX0_evenOut_56 : decode cX0_evenOut 56 = .ok (.iconst 0, 1) := by decide +kernel
theorem dX0_evenOut_57 : decode cX0_evenOut 57 = .ok (.ireturn, 1) := by decide +kernel
theorem dX0_togetherInRow_0 : decode cX0_togetherInRow 0 = .ok (.iconst 0, 1) := by decide +kernel
theorem dX0_togetherInRow_1 : decode cX0_togetherInRow 1 = .ok (.istore_n 3, 1) := by decide +kernel
theorem dX0_togetherInRow_2 : decode cX0_togetherInRow 2 = .ok (.iconst 0, 1) := by decide +kernel
theorem dX0_togetherInRow_3 : decode cX0_togetherInRow 3 = .ok (.istore 4, 2) := by decide +kernel
theorem dX0_togetherInRow_5 : decode cX0_togetherInRow 5 = .ok (.iload 4, 2) := by decide +kernel
theorem dX0_togetherInRow_7 : decode cX0_togetherInRow 7 = .ok (.aload_n 0, 1) := by decide +kernel
theorem dX0_togetherInRow_8 : decode cX0_togetherInRow 8 = .ok (.getfield 41, 3) := by decide +kernel
theorem dX0_togetherInRow_11 : decode cX0_togetherInRow 11 = .ok (.if_icmp .ge 23, 3) := by decide +kernel
theorem dX0_togetherInRow_14 : decode cX0_togetherInRow 14 = .ok (.iload_n 3, 1) := by decide +kernel
theorem dX0_togetherInRow_15 : decode cX0_togetherInRow 15 = .ok (.aload_n 1, 1) := by decide +kernel
theorem dX0_togetherInRow_16 : decode cX0_togetherInRow 16 = .ok (.iload_n 2, 1) := by decide +kernel
theorem dX0_togetherInRow_17 : decode cX0_togetherInRow 17 = .ok (.aload_n 0, 1) := by decide +kernel
theorem dX0_togetherInRow_18 : decode cX0_togetherInRow 18 = .ok (.getfield 41, 3) := by decide +kernel
theorem dX0_togetherInRow_21 : decode cX0_togetherInRow 21 = .ok (.imul, 1) := by decide +kernel
theorem dX0_togetherInRow_22 : decode cX0_togetherInRow 22 = .ok (.iload 4, 2) := by decide +kernel
theorem dX0_togetherInRow_24 : decode cX0_togetherInRow 24 = .ok (.iadd, 1) := by decide +kernel
theorem dX0_togetherInRow_25 : decode cX0_togetherInRow 25 = .ok (.iaload, 1) := by decide +kernel
theorem dX0_togetherInRow_26 : decode cX0_togetherInRow 26 = .ok (.iadd, 1) := by decide +kernel
theorem dX0_togetherInRow_27 : decode cX0_togetherInRow 27 = .ok (.istore_n 3, 1) := by decide +kernel
theorem dX0_togetherInRow_28 : decode cX0_togetherInRow 28 = .ok (.iinc 4 1, 3) := by decide +kernel
theorem dX0_togetherInRow_31 : decode cX0_togetherInRow 31 = .ok (.goto (-26), 3) := by decide +kernel
theorem dX0_togetherInRow_34 : decode cX0_togetherInRow 34 = .ok (.iload_n 3, 1) := by decide +kernel
theorem dX0_togetherInRow_35 : decode cX0_togetherInRow 35 = .ok (.ireturn, 1) := by decide +kernel
theorem dX0_togetherInColumn_0 : decode cX0_togetherInColumn 0 = .ok (.iconst 0, 1) := by decide +kernel
theorem dX0_togetherInColumn_1 : decode cX0_togetherInColumn 1 = .ok (.istore_n 3, 1) := by decide +kernel
theorem dX0_togetherInColumn_2 : decode cX0_togetherInColumn 2 = .ok (.iconst 0, 1) := by decide +kernel
theorem dX0_togetherInColumn_3 : decode cX0_togetherInColumn 3 = .ok (.istore 4, 2) := by decide +kernel
theorem dX0_togetherInColumn_5 : decode cX0_togetherInColumn 5 = .ok (.iload 4, 2) := by decide +kernel
theorem dX0_togetherInColumn_7 : decode cX0_togetherInColumn 7 = .ok (.aload_n 0, 1) := by decide +kernel
theorem dX0_togetherInColumn_8 : decode cX0_togetherInColumn 8 = .ok (.getfield 51, 3) := by decide +kernel
theorem dX0_togetherInColumn_11 : decode cX0_togetherInColumn 11 = .ok (.if_icmp .ge 23, 3) := by decide +kernel
theorem dX0_togetherInColumn_14 : decode cX0_togetherInColumn 14 = .ok (.iload_n 3, 1) := by decide +kernel
theorem dX0_togetherInColumn_15 : decode cX0_togetherInColumn 15 = .ok (.aload_n 1, 1) := by decide +kernel
theorem dX0_togetherInColumn_16 : decode cX0_togetherInColumn 16 = .ok (.iload 4, 2) := by decide +kernel
theorem dX0_togetherInColumn_18 : decode cX0_togetherInColumn 18 = .ok (.aload_n 0, 1) := by decide +kernel
theorem dX0_togetherInColumn_19 : decode cX0_togetherInColumn 19 = .ok (.getfield 41, 3) := by decide +kernel
theorem dX0_togetherInColumn_22 : decode cX0_togetherInColumn 22 = .ok (.imul, 1) := by decide +kernel
theorem dX0_togetherInColumn_23 : decode cX0_togetherInColumn 23 = .ok (.iload_n 2, 1) := by decide +kernel
theorem dX0_togetherInColumn_24 : decode cX0_togetherInColumn 24 = .ok (.iadd, 1) := by decide +kernel
theorem dX0_togetherInColumn_25 : decode cX0_togetherInColumn 25 = .ok (.iaload, 1) := by decide +kernel
theorem dX0_togetherInColumn_26 : decode cX0_togetherInColumn 26 = .ok (.iadd, 1) := by decide +kernel
theorem dX0_togetherInColumn_27 : decode cX0_togetherInColumn 27 = .ok (.istore_n 3, 1) := by decide +kernel
theorem dX0_togetherInColumn_28 : decode cX0_togetherInColumn 28 = .ok (.iinc 4 1, 3) := by decide +kernel
theorem dX0_togetherInColumn_31 : decode cX0_togetherInColumn 31 = .ok (.goto (-26), 3) := by decide +kernel
theorem dX0_togetherInColumn_34 : decode cX0_togetherInColumn 34 = .ok (.iload_n 3, 1) := by decide +kernel
theorem dX0_togetherInColumn_35 : decode cX0_togetherInColumn 35 = .ok (.ireturn, 1) := by decide +kernel
theorem dX0_cellBySums_0 : decode cX0_cellBySums 0 = .ok (.iconst (-1), 1) := by decide +kernel
theorem dX0_cellBySums_1 : decode cX0_cellBySums 1 = .ok (.istore_n 1, 1) := by decide +kernel
theorem dX0_cellBySums_2 : decode cX0_cellBySums 2 = .ok (.iconst 0, 1) := by decide +kernel
theorem dX0_cellBySums_3 : decode cX0_cellBySums 3 = .ok (.istore_n 2, 1) := by decide +kernel
theorem dX0_cellBySums_4 : decode cX0_cellBySums 4 = .ok (.iconst 0, 1) := by decide +kernel
theorem dX0_cellBySums_5 : decode cX0_cellBySums 5 = .ok (.istore_n 3, 1) := by decide +kernel
theorem dX0_cellBySums_6 : decode cX0_cellBySums 6 = .ok (.iload_n 3, 1) := by decide +kernel
theorem dX0_cellBySums_7 : decode cX0_cellBySums 7 = .ok (.aload_n 0, 1) := by decide +kernel
theorem dX0_cellBySums_8 : decode cX0_cellBySums 8 = .ok (.getfield 51, 3) := by decide +kernel
theorem dX0_cellBySums_11 : decode cX0_cellBySums 11 = .ok (.if_icmp .ge 35, 3) := by decide +kernel
theorem dX0_cellBySums_14 : decode cX0_cellBySums 14 = .ok (.aload_n 0, 1) := by decide +kernel
theorem dX0_cellBySums_15 : decode cX0_cellBySums 15 = .ok (.aload_n 0, 1) := by decide +kernel
theorem dX0_cellBySums_16 : decode cX0_cellBySums 16 = .ok (.getfield 26, 3) := by decide +kernel
theorem dX0_cellBySums_19 : decode cX0_cellBySums 19 = .ok (.iload_n 3, 1) := by decide +kernel
theorem dX0_cellBySums_20 : decode cX0_cellBySums 20 = .ok (.invokevirtual 170, 3) := by decide +kernel
theorem dX0_cellBySums_23 : decode cX0_cellBySums 23 = .ok (.aload_n 0, 1) := by decide +kernel
theorem dX0_cellBySums_24 : decode cX0_cellBySums 24 = .ok (.aload_n 0, 1) := by decide +kernel
theorem dX0_cellBySums_25 : decode cX0_cellBySums 25 = .ok (.getfield 29, 3) := by decide +kernel
theorem dX0_cellBySums_28 : decode cX0_cellBySums 28 = .ok (.iload_n 3, 1) := by decide +kernel
theorem dX0_cellBySums_29 : decode cX0_cellBySums 29 = .ok (.invokevirtual 170, 3) := by decide +kernel
theorem dX0_cellBySums_32 : decode cX0_cellBySums 32 = .ok (.if_icmp .eq 8, 3) := by decide +kernel
theorem dX0_cellBySums_35 : decode cX0_cellBySums 35 = .ok (.iinc 2 1, 3) := by decide +kernel
theorem dX0_cellBySums_38 : decode cX0_cellBySums 38 = .ok (.iload_n 3, 1) := by decide +kernel
theorem dX0_cellBySums_39 : decode cX0_cellBySums 39 = .ok (.istore_n 1, 1) := by decide +kernel
theorem dX0_cellBySums_40 : decode cX0_cellBySums 40 = .ok (.iinc 3 1, 3) := by decide +kernel
theorem dX0_cellBySums_43 : decode cX0_cellBySums 43 = .ok (.goto (-37), 3) := by decide +kernel
theorem dX0_cellBySums_46 : decode cX0_cellBySums 46 = .ok (.iconst (-1), 1) := by decide +kernel
theorem dX0_cellBySums_47 : decode cX0_cellBySums 47 = .ok (.istore_n 3, 1) := by decide +kernel
theorem dX0_cellBySums_48 : decode cX0_cellBySums 48 = .ok (.iconst 0, 1) := by decide +kernel
theorem dX0_cellBySums_49 : decode cX0_cellBySums 49 = .ok (.istore 4, 2) := by decide +kernel
theorem dX0_cellBySums_51 : decode cX0_cellBySums 51 = .ok (.iconst 0, 1) := by decide +kernel
theorem dX0_cellBySums_52 : decode cX0_cellBySums 52 = .ok (.istore 5, 2) := by decide +kernel
theorem dX0_cellBySums_54 : decode cX0_cellBySums 54 = .ok (.iload 5, 2) := by decide +kernel
theorem dX0_cellBySums_56 : decode cX0_cellBySums 56 = .ok (.aload_n 0, 1) := by decide +kernel
theorem dX0_cellBySums_57 : decode cX0_cellBySums 57 = .ok (.getfield 41, 3) := by decide +kernel
theorem dX0_cellBySums_60 : decode cX0_cellBySums 60 = .ok (.if_icmp .ge 38, 3) := by decide +kernel
theorem dX0_cellBySums_63 : decode cX0_cellBySums 63 = .ok (.aload_n 0, 1) := by decide +kernel
theorem dX0_cellBySums_64 : decode cX0_cellBySums 64 = .ok (.aload_n 0, 1) := by decide +kernel
theorem dX0_cellBySums_65 : decode cX0_cellBySums 65 = .ok (.getfield 26, 3) := by decide +kernel
theorem dX0_cellBySums_68 : decode cX0_cellBySums 68 = .ok (.iload 5, 2) := by decide +kernel
theorem dX0_cellBySums_70 : decode cX0_cellBySums 70 = .ok (.invokevirtual 173, 3) := by decide +kernel
theorem dX0_cellBySums_73 : decode cX0_cellBySums 73 = .ok (.aload_n 0, 1) := by decide +kernel
theorem dX0_cellBySums_74 : decode cX0_cellBySums 74 = .ok (.aload_n 0, 1) := by decide +kernel
theorem dX0_cellBySums_75 : decode cX0_cellBySums 75 = .ok (.getfield 29, 3) := by decide +kernel
theorem dX0_cellBySums_78 : decode cX0_cellBySums 78 = .ok (.iload 5, 2) := by decide +kernel
theorem dX0_cellBySums_80 : decode cX0_cellBySums 80 = .ok (.invokevirtual 173, 3) := by decide +kernel
theorem dX0_cellBySums_83 : decode cX0_cellBySums 83 = .ok (.if_icmp .eq 9, 3) := by decide +kernel
theorem dX0_cellBySums_86 : decode cX0_cellBySums 86 = .ok (.iinc 4 1, 3) := by decide +kernel
theorem dX0_cellBySums_89 : decode cX0_cellBySums 89 = .ok (.iload 5, 2) := by decide +kernel
theorem dX0_cellBySums_91 : decode cX0_cellBySums 91 = .ok (.istore_n 3, 1) := by decide +kernel
theorem dX0_cellBySums_92 : decode cX0_cellBySums 92 = .ok (.iinc 5 1, 3) := by decide +kernel
theorem dX0_cellBySums_95 : decode cX0_cellBySums 95 = .ok (.goto (-41), 3) := by decide +kernel
theorem dX0_cellBySums_98 : decode cX0_cellBySums 98 = .ok (.iload_n 2, 1) := by decide +kernel
theorem dX0_cellBySums_99 : decode cX0_cellBySums 99 = .ok (.iconst 1, 1) := by decide +kernel
theorem dX0_cellBySums_100 : decode cX0_cellBySums 100 = .ok (.if_icmp .ne 9, 3) := by decide +kernel
theorem dX0_cellBySums_103 : decode cX0_cellBySums 103 = .ok (.iload 4, 2) := by decide +kernel
theorem dX0_cellBySums_105 : decode cX0_cellBySums 105 = .ok (.iconst 1, 1) := by decide +kernel
theorem dX0_cellBySums_106 : decode cX0_cellBySums 106 = .ok (.if_icmp .eq 5, 3) := by decide +kernel
theorem dX0_cellBySums_109 : decode cX0_cellBySums 109 = .ok (.iconst (-1), 1) := by decide +kernel
theorem dX0_cellBySums_110 : decode cX0_cellBySums 110 = .ok (.ireturn, 1) := by decide +kernel
theorem dX0_cellBySums_111 : decode cX0_cellBySums 111 = .ok (.aload_n 0, 1) := by decide +kernel
theorem dX0_cellBySums_112 : decode cX0_cellBySums 112 = .ok (.aload_n 0, 1) := by decide +kernel
theorem dX0_cellBySums_113 : decode cX0_cellBySums 113 = .ok (.getfield 26, 3) := by decide +kernel
theorem dX0_cellBySums_116 : decode cX0_cellBySums 116 = .ok (.iload_n 1, 1) := by decide +kernel
theorem dX0_cellBySums_117 : decode cX0_cellBySums 117 = .ok (.invokevirtual 170, 3) := by decide +kernel
theorem dX0_cellBySums_120 : decode cX0_cellBySums 120 = .ok (.aload_n 0, 1) := by decide +kernel
theorem dX0_cellBySums_121 : decode cX0_cellBySums 121 = .ok (.aload_n 0, 1) := by decide +kernel
theorem dX0_cellBySums_122 : decode cX0_cellBySums 122 = .ok (.getfield 29, 3) := by decide +kernel
theorem dX0_cellBySums_125 : decode cX0_cellBySums 125 = .ok (.iload_n 1, 1) := by decide +kernel
theorem dX0_cellBySums_126 : decode cX0_cellBySums 126 = .ok (.invokevirtual 170, 3) := by decide +kernel
theorem dX0_cellBySums_129 : decode cX0_cellBySums 129 = .ok (.isub, 1) := by decide +kernel
theorem dX0_cellBySums_130 : decode cX0_cellBySums 130 = .ok (.istore 5, 2) := by decide +kernel
theorem dX0_cellBySums_132 : decode cX0_cellBySums 132 = .ok (.aload_n 0, 1) := by decide +kernel
theorem dX0_cellBySums_133 : decode cX0_cellBySums 133 = .ok (.aload_n 0, 1) := by decide +kernel
theorem dX0_cellBySums_134 : decode cX0_cellBySums 134 = .ok (.getfield 26, 3) := by decide +kernel
theorem dX0_cellBySums_137 : decode cX0_cellBySums 137 = .ok (.iload_n 3, 1) := by decide +kernel
theorem dX0_cellBySums_138 : decode cX0_cellBySums 138 = .ok (.invokevirtual 173, 3) := by decide +kernel
theorem dX0_cellBySums_141 : decode cX0_cellBySums 141 = .ok (.aload_n 0, 1) := by decide +kernel
theorem dX0_cellBySums_142 : decode cX0_cellBySums 142 = .ok (.aload_n 0, 1) := by decide +kernel
theorem dX0_cellBySums_143 : decode cX0_cellBySums 143 = .ok (.getfield 29, 3) := by decide +kernel
theorem dX0_cellBySums_146 : decode cX0_cellBySums 146 = .ok (.iload_n 3, 1) := by decide +kernel
theorem dX0_cellBySums_147 : decode cX0_cellBySums 147 = .ok (.invokevirtual 173, 3) := by decide +kernel
theorem dX0_cellBySums_150 : decode cX0_cellBySums 150 = .ok (.isub, 1) := by decide +kernel
theorem dX0_cellBySums_151 : decode cX0_cellBySums 151 = .ok (.istore 6, 2) := by decide +kernel
theorem dX0_cellBySums_153 : decode cX0_cellBySums 153 = .ok (.iload 5, 2) := by decide +kernel
theorem dX0_cellBySums_155 : decode cX0_cellBySums 155 = .ok (.iload 6, 2) := by decide +kernel
theorem dX0_cellBySums_157 : decode cX0_cellBySums 157 = .ok (.if_icmp .ne 14, 3) := by decide +kernel
theorem dX0_cellBySums_160 : decode cX0_cellBySums 160 = .ok (.iload_n 1, 1) := by decide +kernel
theorem dX0_cellBySums_161 : decode cX0_cellBySums 161 = .ok (.aload_n 0, 1) := by decide +kernel
theorem dX0_cellBySums_162 : decode cX0_cellBySums 162 = .ok (.getfield 41, 3) := by decide +kernel
theorem dX0_cellBySums_165 : decode cX0_cellBySums 165 = .ok (.imul, 1) := by decide +kernel
theorem dX0_cellBySums_166 : decode cX0_cellBySums 166 = .ok (.iload_n 3, 1) := by decide +kernel
theorem dX0_cellBySums_167 : decode cX0_cellBySums 167 = .ok (.iadd, 1) := by decide +kernel
theorem dX0_cellBySums_168 : decode cX0_cellBySums 168 = .ok (.goto 4, 3) := by decide +kernel
theorem dX0_cellBySums_171 : decode cX0_cellBySums 171 = .ok (.iconst (-1), 1) := by decide +kernel
theorem dX0_cellBySums_172 : decode cX0_cellBySums 172 = .ok (.ireturn, 1) := by decide +kernel
theorem dX1_init_0 : decode cX1_init 0 = .ok (.aload_n 0, 1) := by decide +kernel
theorem dX1_init_1 : decode cX1_init 1 = .ok (.invokespecial 3, 3) := by decide +kernel
theorem dX1_init_4 : decode cX1_init 4 = .ok (.aload_n 0, 1) := by decide +kernel
theorem dX1_init_5 : decode cX1_init 5 = .ok (.aload_n 1, 1) := by decide +kernel
theorem dX1_init_6 : decode cX1_init 6 = .ok (.putfield 9, 3) := by decide +kernel
theorem dX1_init_9 : decode cX1_init 9 = .ok (.return_, 1) := by decide +kernel
theorem dX1_fill_0 : decode cX1_fill 0 = .ok (.aload_n 0, 1) := by decide +kernel
theorem dX1_fill_1 : decode cX1_fill 1 = .ok (.iconst 0, 1) := by decide +kernel
theorem dX1_fill_2 : decode cX1_fill 2 = .ok (.putfield 15, 3) := by decide +kernel
theorem dX1_fill_5 : decode cX1_fill 5 = .ok (.aload_n 1, 1) := by decide +kernel
theorem dX1_fill_6 : decode cX1_fill 6 = .ok (.invokevirtual 19, 3) := by decide +kernel
theorem dX1_fill_9 : decode cX1_fill 9 = .ok (.aload_n 0, 1) := by decide +kernel
theorem dX1_fill_10 : decode cX1_fill 10 = .ok (.getfield 9, 3) := by decide +kernel
theorem dX1_fill_13 : decode cX1_fill 13 = .ok (.iload_n 2, 1) := by decide +kernel
theorem dX1_fill_14 : decode cX1_fill 14 = .ok (.invokevirtual 24, 3) := by decide +kernel
theorem dX1_fill_17 : decode cX1_fill 17 = .ok (.iconst 0, 1) := by decide +kernel
theorem dX1_fill_18 : decode cX1_fill 18 = .ok (.istore_n 3, 1) := by decide +kernel
theorem dX1_fill_19 : decode cX1_fill 19 = .ok (.iload_n 3, 1) := by decide +kernel
theorem dX1_fill_20 : decode cX1_fill 20 = .ok (.sipush 900, 3) := by decide +kernel
theorem dX1_fill_23 : decode cX1_fill 23 = .ok (.if_icmp .ge 29, 3) := by decide +kernel
theorem dX1_fill_26 : decode cX1_fill 26 = .ok (.aload_n 0, 1) := by decide +kernel
theorem dX1_fill_27 : decode cX1_fill 27 = .ok (.getfield 9, 3) := by decide +kernel
theorem dX1_fill_30 : decode cX1_fill 30 = .ok (.getfield 30, 3) := by decide +kernel
theorem dX1_fill_33 : decode cX1_fill 33 = .ok (.ifCond .eq 19, 3) := by decide +kernel
theorem dX1_fill_36 : decode cX1_fill 36 = .ok (.aload_n 0, 1) := by decide +kernel
theorem dX1_fill_37 : decode cX1_fill 37 = .ok (.aload_n 1, 1) := by decide +kernel
theorem dX1_fill_38 : decode cX1_fill 38 = .ok (.invokevirtual 33, 3) := by decide +kernel
theorem dX1_fill_41 : decode cX1_fill 41 = .ok (.ifCond .ne 5, 3) := by decide +kernel
theorem dX1_fill_44 : decode cX1_fill 44 = .ok (.iconst 0, 1) := by decide +kernel
theorem dX1_fill_45 : decode cX1_fill 45 = .ok (.ireturn, 1) := by decide +kernel
theorem dX1_fill_46 : decode cX1_fill 46 = .ok (.iinc 3 1, 3) := by decide +kernel
theorem dX1_fill_49 : decode cX1_fill 49 = .ok (.goto (-30), 3) := by decide +kernel
theorem dX1_fill_52 : decode cX1_fill 52 = .ok (.aload_n 1, 1) := by decide +kernel
theorem dX1_fill_53 : decode cX1_fill 53 = .ok (.getfield 37, 3) := by decide +kernel
theorem dX1_fill_56 : decode cX1_fill 56 = .ok (.iconst 0, 1) := by decide +kernel
theorem dX1_fill_57 : decode cX1_fill 57 = .ok (.aload_n 1, 1) := by decide +kernel
theorem dX1_fill_58 : decode cX1_fill 58 = .ok (.getfield 41, 3) := by decide +kernel
theorem dX1_fill_61 : decode cX1_fill 61 = .ok (.iconst 0, 1) := by decide +kernel
theorem dX1_fill_62 : decode cX1_fill 62 = .ok (.bipush 25, 2) := by decide +kernel
theorem dX1_fill_64 : decode cX1_fill 64 = .ok (.invokestatic 44, 3) := by decide +kernel
theorem dX1_fill_67 : decode cX1_fill 67 = .ok (.iconst 1, 1) := by decide +kernel
theorem dX1_fill_68 : decode cX1_fill 68 = .ok (.ireturn, 1) := by decide +kernel
theorem dX1_takePart_0 : decode cX1_takePart 0 = .ok (.aload_n 0, 1) := by decide +kernel
theorem dX1_takePart_1 : decode cX1_takePart 1 = .ok (.getfield 9, 3) := by decide +kernel
theorem dX1_takePart_4 : decode cX1_takePart 4 = .ok (.invokevirtual 50, 3) := by decide +kernel
theorem dX1_takePart_7 : decode cX1_takePart 7 = .ok (.tableswitch 101 0 12 #[65, 71, 77, 83, 101, 101, 89, 101, 101, 101, 101, 101, 95], 65) := by decide +kernel
theorem dX1_takePart_72 : decode cX1_takePart 72 = .ok (.aload_n 0, 1) := by decide +kernel
theorem dX1_takePart_73 : decode cX1_takePart 73 = .ok (.aload_n 1, 1) := by decide +kernel
theorem dX1_takePart_74 : decode cX1_takePart 74 = .ok (.invokevirtual 54, 3) := by decide +kernel
theorem dX1_takePart_77 : decode cX1_takePart 77 = .ok (.ireturn, 1) := by decide +kernel
theorem dX1_takePart_78 : decode cX1_takePart 78 = .ok (.aload_n 0, 1) := by decide +kernel
theorem dX1_takePart_79 : decode cX1_takePart 79 = .ok (.aload_n 1, 1) := by decide +kernel
theorem dX1_takePart_80 : decode cX1_takePart 80 = .ok (.invokevirtual 57, 3) := by decide +kernel
theorem dX1_takePart_83 : decode cX1_takePart 83 = .ok (.ireturn, 1) := by decide +kernel
theorem dX1_takePart_84 : decode cX1_takePart 84 = .ok (.aload_n 0, 1) := by decide +kernel
theorem dX1_takePart_85 : decode cX1_takePart 85 = .ok (.aload_n 1, 1) := by decide +kernel
theorem dX1_takePart_86 : decode cX1_takePart 86 = .ok (.invokevirtual 60, 3) := by decide +kernel
theorem dX1_takePart_89 : decode cX1_takePart 89 = .ok (.ireturn, 1) := by decide +kernel
theorem dX1_takePart_90 : decode cX1_takePart 90 = .ok (.aload_n 0, 1) := by decide +kernel
theorem dX1_takePart_91 : decode cX1_takePart 91 = .ok (.aload_n 1, 1) := by decide +kernel
theorem dX1_takePart_92 : decode cX1_takePart 92 = .ok (.invokevirtual 63, 3) := by decide +kernel
theorem dX1_takePart_95 : decode cX1_takePart 95 = .ok (.ireturn, 1) := by decide +kernel
theorem dX1_takePart_96 : decode cX1_takePart 96 = .ok (.aload_n 0, 1) := by decide +kernel
theorem dX1_takePart_97 : decode cX1_takePart 97 = .ok (.aload_n 1, 1) := by decide +kernel
theorem dX1_takePart_98 : decode cX1_takePart 98 = .ok (.invokevirtual 66, 3) := by decide +kernel
theorem dX1_takePart_101 : decode cX1_takePart 101 = .ok (.ireturn, 1) := by decide +kernel
theorem dX1_takePart_102 : decode cX1_takePart 102 = .ok (.aload_n 0, 1) := by decide +kernel
theorem dX1_takePart_103 : decode cX1_takePart 103 = .ok (.aload_n 1, 1) := by decide +kernel
theorem dX1_takePart_104 : decode cX1_takePart 104 = .ok (.invokevirtual 69, 3) := by decide +kernel
theorem dX1_takePart_107 : decode cX1_takePart 107 = .ok (.ireturn, 1) := by decide +kernel
theorem dX1_takePart_108 : decode cX1_takePart 108 = .ok (.aload_n 0, 1) := by decide +kernel
theorem dX1_takePart_109 : decode cX1_takePart 109 = .ok (.getfield 9, 3) := by decide +kernel
theorem dX1_takePart_112 : decode cX1_takePart 112 = .ok (.invokevirtual 72, 3) := by decide +kernel
theorem dX1_takePart_115 : decode cX1_takePart 115 = .ok (.ireturn, 1) := by decide +kernel
theorem dX1_takeWordOnce_0 : decode cX1_takeWordOnce 0 = .ok (.aload_n 0, 1) := by decide +kernel
theorem dX1_takeWordOnce_1 : decode cX1_takeWordOnce 1 = .ok (.getfield 15, 3) := by decide +kernel
theorem dX1_takeWordOnce_4 : decode cX1_takeWordOnce 4 = .ok (.iload_n 1, 1) := by decide +kernel
theorem dX1_takeWordOnce_5 : decode cX1_takeWordOnce 5 = .ok (.ishr, 1) := by decide +kernel
theorem dX1_takeWordOnce_6 : decode cX1_takeWordOnce 6 = .ok (.iconst 1, 1) := by decide +kernel
theorem dX1_takeWordOnce_7 : decode cX1_takeWordOnce 7 = .ok (.iand, 1) := by decide +kernel
theorem dX1_takeWordOnce_8 : decode cX1_takeWordOnce 8 = .ok (.ifCond .eq 12, 3) := by decide +kernel
theorem dX1_takeWordOnce_11 : decode cX1_takeWordOnce 11 = .ok (.aload_n 0, 1) := by decide +kernel
theorem dX1_takeWordOnce_12 : decode cX1_takeWordOnce 12 = .ok (.getfield 9, 3) := by decide +kernel
theorem dX1_takeWordOnce_15 : decode cX1_takeWordOnce 15 = .ok (.iconst 5, 1) := by decide +kernel
theorem dX1_takeWordOnce_16 : decode cX1_takeWordOnce 16 = .ok (.invokevirtual 76, 3) := by decide +kernel
theorem dX1_takeWordOnce_19 : decode cX1_takeWordOnce 19 = .ok (.ireturn, 1) := by decide +kernel
theorem dX1_takeWordOnce_20 : decode cX1_takeWordOnce 20 = .ok (.aload_n 0, 1) := by decide +kernel
theorem dX1_takeWordOnce_21 : decode cX1_takeWordOnce 21 = .ok (.dup, 1) := by decide +kernel
theorem dX1_takeWordOnce_22 : decode cX1_takeWordOnce 22 = .ok (.getfield 15, 3) := by decide +kernel
theorem dX1_takeWordOnce_25 : decode cX1_takeWordOnce 25 = .ok (.iconst 1, 1) := by decide +kernel
theorem dX1_takeWordOnce_26 : decode cX1_takeWordOnce 26 = .ok (.iload_n 1, 1) := by decide +kernel
theorem dX1_takeWordOnce_27 : decode cX1_takeWordOnce 27 = .ok (.ishl, 1) := by decide +kernel
theorem dX1_takeWordOnce_28 : decode cX1_takeWordOnce 28 = .ok (.ior, 1) := by decide +kernel
theorem dX1_takeWordOnce_29 : decode cX1_takeWordOnce 29 = .ok (.putfield 15, 3) := by decide +kernel
theorem dX1_takeWordOnce_32 : decode cX1_takeWordOnce 32 = .ok (.aload_n 0, 1) := by decide +kernel
theorem dX1_takeWordOnce_33 : decode cX1_takeWordOnce 33 = .ok (.getfield 9, 3) := by decide +kernel
theorem dX1_takeWordOnce_36 : decode cX1_takeWordOnce 36 = .ok (.iload_n 1, 1) := by decide +kernel
theorem dX1_takeWordOnce_37 : decode cX1_takeWordOnce 37 = .ok (.invokevirtual 80, 3) := by decide +kernel
theorem dX1_takeWordOnce_40 : decode cX1_takeWordOnce 40 = .ok (.ireturn, 1) := by decide +kernel
theorem dX1_takeWide_0 : decode cX1_takeWide 0 = .ok (.aload_n 1, 1) := by decide +kernel
theorem dX1_takeWide_1 : decode cX1_takeWide 1 = .ok (.getfield 83, 3) := by decide +kernel
theorem dX1_takeWide_4 : decode cX1_takeWide 4 = .ok (.ifCond .le 12, 3) := by decide +kernel
theorem dX1_takeWide_7 : decode cX1_takeWide 7 = .ok (.aload_n 0, 1) := by decide +kernel
theorem dX1_takeWide_8 : decode cX1_takeWide 8 = .ok (.getfield 9, 3) := by decide +kernel
theorem dX1_takeWide_11 : decode cX1_takeWide 11 = .ok (.iconst 5, 1) := by decide +kernel
theorem dX1_takeWide_12 : decode cX1_takeWide 12 = .ok (.invokevirtual 76, 3) := by decide +kernel
theorem dX1_takeWide_15 : decode cX1_takeWide 15 = .ok (.ireturn, 1) := by decide +kernel
theorem dX1_takeWide_16 : decode cX1_takeWide 16 = .ok (.aload_n 0, 1) := by decide +kernel
theorem dX1_takeWide_17 : decode cX1_takeWide 17 = .ok (.iconst 0, 1) := by decide +kernel
theorem dX1_takeWide_18 : decode cX1_takeWide 18 = .ok (.invokevirtual 86, 3) := by decide +kernel
theorem dX1_takeWide_21 : decode cX1_takeWide 21 = .ok (.ifCond .eq 15, 3) := by decide +kernel
theorem dX1_takeWide_24 : decode cX1_takeWide 24 = .ok (.aload_n 0, 1) := by decide +kernel
theorem dX1_takeWide_25 : decode cX1_takeWide 25 = .ok (.getfield 9, 3) := by decide +kernel
theorem dX1_takeWide_28 : decode cX1_takeWide 28 = .ok (.iconst 1, 1) := by decide +kernel
theorem dX1_takeWide_29 : decode cX1_takeWide 29 = .ok (.iconst 5, 1) := by decide +kernel
theorem dX1_takeWide_30 : decode cX1_takeWide 30 = .ok (.invokevirtual 89, 3) := by decide +kernel
theorem dX1_takeWide_33 : decode cX1_takeWide 33 = .ok (.ifCond .ne 5, 3) := by decide +kernel
theorem dX1_takeWide_36 : decode cX1_takeWide 36 = .ok (.iconst 0, 1) := by decide +kernel
theorem dX1_takeWide_37 : decode cX1_takeWide 37 = .ok (.ireturn, 1) := by decide +kernel
theorem dX1_takeWide_38 : decode cX1_takeWide 38 = .ok (.aload_n 1, 1) := by decide +kernel
theorem dX1_takeWide_39 : decode cX1_takeWide 39 = .ok (.aload_n 0, 1) := by decide +kernel
theorem dX1_takeWide_40 : decode cX1_takeWide 40 = .ok (.getfield 9, 3) := by decide +kernel
theorem dX1_takeWide_43 : decode cX1_takeWide 43 = .ok (.getfield 93, 3) := by decide +kernel
theorem dX1_takeWide_46 : decode cX1_takeWide 46 = .ok (.putfield 96, 3) := by decide +kernel
theorem dX1_takeWide_49 : decode cX1_takeWide 49 = .ok (.aload_n 0, 1) := by decide +kernel
theorem dX1_takeWide_50 : decode cX1_takeWide 50 = .ok (.getfield 9, 3) := by decide +kernel
theorem dX1_takeWide_53 : decode cX1_takeWide 53 = .ok (.invokevirtual 99, 3) := by decide +kernel
theorem dX1_takeWide_56 : decode cX1_takeWide 56 = .ok (.ireturn, 1) := by decide +kernel
theorem dX1_takeTap_0 : decode cX1_takeTap 0 = .ok (.aload_n 0, 1) := by decide +kernel
theorem dX1_takeTap_1 : decode cX1_takeTap 1 = .ok (.iconst 1, 1) := by decide +kernel
theorem dX1_takeTap_2 : decode cX1_takeTap 2 = .ok (.invokevirtual 86, 3) := by decide +kernel
theorem dX1_takeTap_5 : decode cX1_takeTap 5 = .ok (.ifCond .eq 16, 3) := by decide +kernel
theorem dX1_takeTap_8 : decode cX1_takeTap 8 = .ok (.aload_n 0, 1) := by decide +kernel
theorem dX1_takeTap_9 : decode cX1_takeTap 9 = .ok (.getfield 9, 3) := by decide +kernel
theorem dX1_takeTap_12 : decode cX1_takeTap 12 = .ok (.iconst 1, 1) := by decide +kernel
theorem dX1_takeTap_13 : decode cX1_takeTap 13 = .ok (.bipush 9, 2) := by decide +kernel
theorem dX1_takeTap_15 : decode cX1_takeTap 15 = .ok (.invokevirtual 89, 3) := by decide +kernel
theorem dX1_takeTap_18 : decode cX1_takeTap 18 = .ok (.ifCond .ne 5, 3) := by decide +kernel
theorem dX1_takeTap_21 : decode cX1_takeTap 21 = .ok (.iconst 0, 1) := by decide +kernel
theorem dX1_takeTap_22 : decode cX1_takeTap 22 = .ok (.ireturn, 1) := by decide +kernel
theorem dX1_takeTap_23 : decode cX1_takeTap 23 = .ok (.aload_n 1, 1) := by decide +kernel
theorem dX1_takeTap_24 : decode cX1_takeTap 24 = .ok (.aload_n 0, 1) := by decide +kernel
theorem dX1_takeTap_25 : decode cX1_takeTap 25 = .ok (.getfield 9, 3) := by decide +kernel
theorem dX1_takeTap_28 : decode cX1_takeTap 28 = .ok (.getfield 93, 3) := by decide +kernel
theorem dX1_takeTap_31 : decode cX1_takeTap 31 = .ok (.putfield 102, 3) := by decide +kernel
theorem dX1_takeTap_34 : decode cX1_takeTap 34 = .ok (.aload_n 0, 1) := by decide +kernel
theorem dX1_takeTap_35 : decode cX1_takeTap 35 = .ok (.getfield 9, 3) := by decide +kernel
theorem dX1_takeTap_38 : decode cX1_takeTap 38 = .ok (.invokevirtual 99, 3) := by decide +kernel
theorem dX1_takeTap_41 : decode cX1_takeTap 41 = .ok (.ireturn, 1) := by decide +kernel
theorem dX1_takeOdds_0 : decode cX1_takeOdds 0 = .ok (.aload_n 0, 1) := by decide +kernel
theorem dX1_takeOdds_1 : decode cX1_takeOdds 1 = .ok (.iconst 2, 1) := by decide +kernel
theorem dX1_takeOdds_2 : decode cX1_takeOdds 2 = .ok (.invokevirtual 86, 3) := by decide +kernel
theorem dX1_takeOdds_5 : decode cX1_takeOdds 5 = .ok (.ifCond .eq 16, 3) := by decide +kernel
theorem dX1_takeOdds_8 : decode cX1_takeOdds 8 = .ok (.aload_n 0, 1) := by decide +kernel
theorem dX1_takeOdds_9 : decode cX1_takeOdds 9 = .ok (.getfield 9, 3) := by decide +kernel
theorem dX1_takeOdds_12 : decode cX1_takeOdds 12 = .ok (.iconst 0, 1) := by decide +kernel
theorem dX1_takeOdds_13 : decode cX1_takeOdds 13 = .ok (.bipush 16, 2) := by decide +kernel
theorem dX1_takeOdds_15 : decode cX1_takeOdds 15 = .ok (.invokevirtual 89, 3) := by decide +kernel
theorem dX1_takeOdds_18 : decode cX1_takeOdds 18 = .ok (.ifCond .ne 5, 3) := by decide +kernel
theorem dX1_takeOdds_21 : decode cX1_takeOdds 21 = .ok (.iconst 0, 1) := by decide +kernel
theorem dX1_takeOdds_22 : decode cX1_takeOdds 22 = .ok (.ireturn, 1) := by decide +kernel
theorem dX1_takeOdds_23 : decode cX1_takeOdds 23 = .ok (.aload_n 1, 1) := by decide +kernel
theorem dX1_takeOdds_24 : decode cX1_takeOdds 24 = .ok (.aload_n 0, 1) := by decide +kernel
theorem dX1_takeOdds_25 : decode cX1_takeOdds 25 = .ok (.getfield 9, 3) := by decide +kernel
theorem dX1_takeOdds_28 : decode cX1_takeOdds 28 = .ok (.getfield 93, 3) := by decide +kernel
theorem dX1_takeOdds_31 : decode cX1_takeOdds 31 = .ok (.putfield 105, 3) := by decide +kernel
theorem dX1_takeOdds_34 : decode cX1_takeOdds 34 = .ok (.aload_n 0, 1) := by decide +kernel
theorem dX1_takeOdds_35 : decode cX1_takeOdds 35 = .ok (.getfield 9, 3) := by decide +kernel
theorem dX1_takeOdds_38 : decode cX1_takeOdds 38 = .ok (.invokevirtual 99, 3) := by decide +kernel
theorem dX1_takeOdds_41 : decode cX1_takeOdds 41 = .ok (.ireturn, 1) := by decide +kernel
theorem dX1_takeAccount_0 : decode cX1_takeAccount 0 = .ok (.aload_n 1, 1) := by decide +kernel
theorem dX1_takeAccount_1 : decode cX1_takeAccount 1 = .ok (.getfield 83, 3) := by decide +kernel
theorem dX1_takeAccount_4 : decode cX1_takeAccount 4 = .ok (.istore_n 2, 1) := by decide +kernel
theorem dX1_takeAccount_5 : decode cX1_takeAccount 5 = .ok (.iload_n 2, 1) := by decide +kernel
theorem dX1_takeAccount_6 : decode cX1_takeAccount 6 = .ok (.iconst 5, 1) := by decide +kernel
theorem dX1_takeAccount_7 : decode cX1_takeAccount 7 = .ok (.if_icmp .lt 13, 3) := by decide +kernel
theorem dX1_takeAccount_10 : decode cX1_takeAccount 10 = .ok (.aload_n 0, 1) := by decide +kernel
theorem dX1_takeAccount_11 : decode cX1_takeAccount 11 = .ok (.getfield 9, 3) := by decide +kernel
theorem dX1_takeAccount_14 : decode cX1_takeAccount 14 = .ok (.bipush 6, 2) := by decide +kernel
theorem dX1_takeAccount_16 : decode cX1_takeAccount 16 = .ok (.invokevirtual 76, 3) := by decide +kernel
theorem dX1_takeAccount_19 : decode cX1_takeAccount 19 = .ok (.ireturn, 1) := by decide +kernel
theorem dX1_takeAccount_20 : decode cX1_takeAccount 20 = .ok (.aload_n 0, 1) := by decide +kernel
theorem dX1_takeAccount_21 : decode cX1_takeAccount 21 = .ok (.getfield 9, 3) := by decide +kernel
theorem dX1_takeAccount_24 : decode cX1_takeAccount 24 = .ok (.invokevirtual 108, 3) := by decide +kernel
theorem dX1_takeAccount_27 : decode cX1_takeAccount 27 = .ok (.aload_n 0, 1) := by decide +kernel
theorem dX1_takeAccount_28 : decode cX1_takeAccount 28 = .ok (.getfield 9, 3) := by decide +kernel
theorem dX1_takeAccount_31 : decode cX1_takeAccount 31 = .ok (.invokevirtual 111, 3) := by decide +kernel
theorem dX1_takeAccount_34 : decode cX1_takeAccount 34 = .ok (.ifCond .ne 11, 3) := by decide +kernel
theorem dX1_takeAccount_37 : decode cX1_takeAccount 37 = .ok (.aload_n 0, 1) := by decide +kernel
theorem dX1_takeAccount_38 : decode cX1_takeAccount 38 = .ok (.getfield 9, 3) := by decide +kernel
theorem dX1_takeAccount_41 : decode cX1_takeAccount 41 = .ok (.invokevirtual 72, 3) := by decide +kernel
theorem dX1_takeAccount_44 : decode cX1_takeAccount 44 = .ok (.ireturn, 1) := by decide +kernel
theorem dX1_takeAccount_45 : decode cX1_takeAccount 45 = .ok (.aload_n 1, 1) := by decide +kernel
theorem dX1_takeAccount_46 : decode cX1_takeAccount 46 = .ok (.aload_n 0, 1) := by decide +kernel
theorem dX1_takeAccount_47 : decode cX1_takeAccount 47 = .ok (.getfield 9, 3) := by decide +kernel
theorem dX1_takeAccount_50 : decode cX1_takeAccount 50 = .ok (.getfield 114, 3) := by decide +kernel
theorem dX1_takeAccount_53 : decode cX1_takeAccount 53 = .ok (.invokevirtual 118, 3) := by decide +kernel
theorem dX1_takeAccount_56 : decode cX1_takeAccount 56 = .ok (.iconst (-1), 1) := by decide +kernel
theorem dX1_takeAccount_57 : decode cX1_takeAccount 57 = .ok (.if_icmp .eq 12, 3) := by decide +kernel
theorem dX1_takeAccount_60 : decode cX1_takeAccount 60 = .ok (.aload_n 0, 1) := by decide +kernel
theorem dX1_takeAccount_61 : decode cX1_takeAccount 61 = .ok (.getfield 9, 3) := by decide +kernel
theorem dX1_takeAccount_64 : decode cX1_takeAccount 64 = .ok (.iconst 3, 1) := by decide +kernel
theorem dX1_takeAccount_65 : decode cX1_takeAccount 65 = .ok (.invokevirtual 76, 3) := by decide +kernel
theorem dX1_takeAccount_68 : decode cX1_takeAccount 68 = .ok (.ireturn, 1) := by decide +kernel
theorem dX1_takeAccount_69 : decode cX1_takeAccount 69 = .ok (.aload_n 1, 1) := by decide +kernel
theorem dX1_takeAccount_70 : decode cX1_takeAccount 70 = .ok (.getfield 122, 3) := by decide +kernel
theorem dX1_takeAccount_73 : decode cX1_takeAccount 73 = .ok (.iload_n 2, 1) := by decide +kernel
theorem dX1_takeAccount_74 : decode cX1_takeAccount 74 = .ok (.aload_n 0, 1) := by decide +kernel
theorem dX1_takeAccount_75 : decode cX1_takeAccount 75 = .ok (.getfield 9, 3) := by decide +kernel
theorem dX1_takeAccount_78 : decode cX1_takeAccount 78 = .ok (.getfield 114, 3) := by decide +kernel
theorem dX1_takeAccount_81 : decode cX1_takeAccount 81 = .ok (.lastore, 1) := by decide +kernel
theorem dX1_takeAccount_82 : decode cX1_takeAccount 82 = .ok (.aload_n 0, 1) := by decide +kernel
theorem dX1_takeAccount_83 : decode cX1_takeAccount 83 = .ok (.getfield 9, 3) := by decide +kernel
theorem dX1_takeAccount_86 : decode cX1_takeAccount 86 = .ok (.invokevirtual 108, 3) := by decide +kernel
theorem dX1_takeAccount_89 : decode cX1_takeAccount 89 = .ok (.aload_n 0, 1) := by decide +kernel
theorem dX1_takeAccount_90 : decode cX1_takeAccount 90 = .ok (.getfield 9, 3) := by decide +kernel
theorem dX1_takeAccount_93 : decode cX1_takeAccount 93 = .ok (.invokevirtual 50, 3) := by decide +kernel
theorem dX1_takeAccount_96 : decode cX1_takeAccount 96 = .ok (.istore_n 3, 1) := by decide +kernel
theorem dX1_takeAccount_97 : decode cX1_takeAccount 97 = .ok (.iload_n 3, 1) := by decide +kernel
theorem dX1_takeAccount_98 : decode cX1_takeAccount 98 = .ok (.iconst 4, 1) := by decide +kernel
theorem dX1_takeAccount_99 : decode cX1_takeAccount 99 = .ok (.if_icmp .eq 16, 3) := by decide +kernel
theorem dX1_takeAccount_102 : decode cX1_takeAccount 102 = .ok (.iload_n 3, 1) := by decide +kernel
theorem dX1_takeAccount_103 : decode cX1_takeAccount 103 = .ok (.iconst 5, 1) := by decide +kernel
theorem dX1_takeAccount_104 : decode cX1_takeAccount 104 = .ok (.if_icmp .eq 11, 3) := by decide +kernel
theorem dX1_takeAccount_107 : decode cX1_takeAccount 107 = .ok (.aload_n 0, 1) := by decide +kernel
theorem dX1_takeAccount_108 : decode cX1_takeAccount 108 = .ok (.getfield 9, 3) := by decide +kernel
theorem dX1_takeAccount_111 : decode cX1_takeAccount 111 = .ok (.invokevirtual 72, 3) := by decide +kernel
theorem dX1_takeAccount_114 : decode cX1_takeAccount 114 = .ok (.ireturn, 1) := by decide +kernel
theorem dX1_takeAccount_115 : decode cX1_takeAccount 115 = .ok (.aload_n 1, 1) := by decide +kernel
theorem dX1_takeAccount_116 : decode cX1_takeAccount 116 = .ok (.getfield 126, 3) := by decide +kernel
theorem dX1_takeAccount_119 : decode cX1_takeAccount 119 = .ok (.iload_n 2, 1) := by decide +kernel
theorem dX1_takeAccount_120 : decode cX1_takeAccount 120 = .ok (.iload_n 3, 1) := by decide +kernel
theorem dX1_takeAccount_121 : decode cX1_takeAccount 121 = .ok (.iconst 4, 1) := by decide +kernel
theorem dX1_takeAccount_122 : decode cX1_takeAccount 122 = .ok (.if_icmp .ne 7, 3) := by decide +kernel
theorem dX1_takeAccount_125 : decode cX1_takeAccount 125 = .ok (.iconst 0, 1) := by decide +kernel
theorem dX1_takeAccount_126 : decode cX1_takeAccount 126 = .ok (.goto 4, 3) := by decide +kernel
theorem dX1_takeAccount_129 : decode cX1_takeAccount 129 = .ok (.iconst 1, 1) := by decide +kernel
theorem dX1_takeAccount_130 : decode cX1_takeAccount 130 = .ok (.iastore, 1) := by decide +kernel
theorem dX1_takeAccount_131 : decode cX1_takeAccount 131 = .ok (.aload_n 0, 1) := by decide +kernel
theorem dX1_takeAccount_132 : decode cX1_takeAccount 132 = .ok (.getfield 9, 3) := by decide +kernel
theorem dX1_takeAccount_135 : decode cX1_takeAccount 135 = .ok (.invokevirtual 108, 3) := by decide +kernel
theorem dX1_takeAccount_138 : decode cX1_takeAccount 138 = .ok (.aload_n 1, 1) := by decide +kernel
theorem dX1_takeAccount_139 : decode cX1_takeAccount 139 = .ok (.dup, 1) := by decide +kernel
theorem dX1_takeAccount_140 : decode cX1_takeAccount 140 = .ok (.getfield 83, 3) := by decide +kernel
theorem dX1_takeAccount_143 : decode cX1_takeAccount 143 = .ok (.iconst 1, 1) := by decide +kernel
theorem dX1_takeAccount_144 : decode cX1_takeAccount 144 = .ok (.iadd, 1) := by decide +kernel
theorem dX1_takeAccount_145 : decode cX1_takeAccount 145 = .ok (.putfield 83, 3) := by decide +kernel
theorem dX1_takeAccount_148 : decode cX1_takeAccount 148 = .ok (.aload_n 0, 1) := by decide +kernel
theorem dX1_takeAccount_149 : decode cX1_takeAccount 149 = .ok (.aload_n 1, 1) := by decide +kernel
theorem dX1_takeAccount_150 : decode cX1_takeAccount 150 = .ok (.iload_n 2, 1) := by decide +kernel
theorem dX1_takeAccount_151 : decode cX1_takeAccount 151 = .ok (.aload_n 1, 1) := by decide +kernel
theorem dX1_takeAccount_152 : decode cX1_takeAccount 152 = .ok (.getfield 96, 3) := by decide +kernel
theorem dX1_takeAccount_155 : decode cX1_takeAccount 155 = .ok (.imul, 1) := by decide +kernel
theorem dX1_takeAccount_156 : decode cX1_takeAccount 156 = .ok (.invokevirtual 129, 3) := by decide +kernel
theorem dX1_takeAccount_159 : decode cX1_takeAccount 159 = .ok (.ifCond .eq 17, 3) := by decide +kernel
theorem dX1_takeAccount_162 : decode cX1_takeAccount 162 = .ok (.aload_n 0, 1) := by decide +kernel
theorem dX1_takeAccount_163 : decode cX1_takeAccount 163 = .ok (.getfield 9, 3) := by decide +kernel
theorem dX1_takeAccount_166 : decode cX1_takeAccount 166 = .ok (.invokevirtual 99, 3) := by decide +kernel
theorem dX1_takeAccount_169 : decode cX1_takeAccount 169 = .ok (.ifCond .eq 7, 3) := by decide +kernel
theorem dX1_takeAccount_172 : decode cX1_takeAccount 172 = .ok (.iconst 1, 1) := by decide +kernel
theorem dX1_takeAccount_173 : decode cX1_takeAccount 173 = .ok (.goto 4, 3) := by decide +kernel
theorem dX1_takeAccount_176 : decode cX1_takeAccount 176 = .ok (.iconst 0, 1) := by decide +kernel
theorem dX1_takeAccount_177 : decode cX1_takeAccount 177 = .ok (.ireturn, 1) := by decide +kernel
theorem dX1_takeDigits_0 : decode cX1_takeDigits 0 = .ok (.iconst 0, 1) := by decide +kernel
theorem dX1_takeDigits_1 : decode cX1_takeDigits 1 = .ok (.istore_n 3, 1) := by decide +kernel
theorem dX1_takeDigits_2 : decode cX1_takeDigits 2 = .ok (.iload_n 3, 1) := by decide +kernel
theorem dX1_takeDigits_3 : decode cX1_takeDigits 3 = .ok (.aload_n 1, 1) := by decide +kernel
theorem dX1_takeDigits_4 : decode cX1_takeDigits 4 = .ok (.getfield 96, 3) := by decide +kernel
theorem dX1_takeDigits_7 : decode cX1_takeDigits 7 = .ok (.if_icmp .gt 81, 3) := by decide +kernel
theorem dX1_takeDigits_10 : decode cX1_takeDigits 10 = .ok (.aload_n 0, 1) := by decide +kernel
theorem dX1_takeDigits_11 : decode cX1_takeDigits 11 = .ok (.getfield 9, 3) := by decide +kernel
theorem dX1_takeDigits_14 : decode cX1_takeDigits 14 = .ok (.getfield 30, 3) := by decide +kernel
theorem dX1_takeDigits_17 : decode cX1_takeDigits 17 = .ok (.iconst 2, 1) := by decide +kernel
theorem dX1_takeDigits_18 : decode cX1_takeDigits 18 = .ok (.if_icmp .ne 70, 3) := by decide +kernel
theorem dX1_takeDigits_21 : decode cX1_takeDigits 21 = .ok (.aload_n 0, 1) := by decide +kernel
theorem dX1_takeDigits_22 : decode cX1_takeDigits 22 = .ok (.getfield 9, 3) := by decide +kernel
theorem dX1_takeDigits_25 : decode cX1_takeDigits 25 = .ok (.getfield 133, 3) := by decide +kernel
theorem dX1_takeDigits_28 : decode cX1_takeDigits 28 = .ok (.bipush 9, 2) := by decide +kernel
theorem dX1_takeDigits_30 : decode cX1_takeDigits 30 = .ok (.if_icmp .le 12, 3) := by decide +kernel
theorem dX1_takeDigits_33 : decode cX1_takeDigits 33 = .ok (.aload_n 0, 1) := by decide +kernel
theorem dX1_takeDigits_34 : decode cX1_takeDigits 34 = .ok (.getfield 9, 3) := by decide +kernel
theorem dX1_takeDigits_37 : decode cX1_takeDigits 37 = .ok (.iconst 4, 1) := by decide +kernel
theorem dX1_takeDigits_38 : decode cX1_takeDigits 38 = .ok (.invokevirtual 76, 3) := by decide +kernel
theorem dX1_takeDigits_41 : decode cX1_takeDigits 41 = .ok (.ireturn, 1) := by decide +kernel
theorem dX1_takeDigits_42 : decode cX1_takeDigits 42 = .ok (.iload_n 3, 1) := by decide +kernel
theorem dX1_takeDigits_43 : decode cX1_takeDigits 43 = .ok (.aload_n 1, 1) := by decide +kernel
theorem dX1_takeDigits_44 : decode cX1_takeDigits 44 = .ok (.getfield 96, 3) := by decide +kernel
theorem dX1_takeDigits_47 : decode cX1_takeDigits 47 = .ok (.if_icmp .ne 13, 3) := by decide +kernel
theorem dX1_takeDigits_50 : decode cX1_takeDigits 50 = .ok (.aload_n 0, 1) := by decide +kernel
theorem dX1_takeDigits_51 : decode cX1_takeDigits 51 = .ok (.getfield 9, 3) := by decide +kernel
theorem dX1_takeDigits_54 : decode cX1_takeDigits 54 = .ok (.bipush 6, 2) := by decide +kernel
theorem dX1_takeDigits_56 : decode cX1_takeDigits 56 = .ok (.invokevirtual 76, 3) := by decide +kernel
theorem dX1_takeDigits_59 : decode cX1_takeDigits 59 = .ok (.ireturn, 1) := by decide +kernel
theorem dX1_takeDigits_60 : decode cX1_takeDigits 60 = .ok (.aload_n 1, 1) := by decide +kernel
theorem dX1_takeDigits_61 : decode cX1_takeDigits 61 = .ok (.getfield 37, 3) := by decide +kernel
theorem dX1_takeDigits_64 : decode cX1_takeDigits 64 = .ok (.iload_n 2, 1) := by decide +kernel
theorem dX1_takeDigits_65 : decode cX1_takeDigits 65 = .ok (.iload_n 3, 1) := by decide +kernel
theorem dX1_takeDigits_66 : decode cX1_takeDigits 66 = .ok (.iadd, 1) := by decide +kernel
theorem dX1_takeDigits_67 : decode cX1_takeDigits 67 = .ok (.aload_n 0, 1) := by decide +kernel
theorem dX1_takeDigits_68 : decode cX1_takeDigits 68 = .ok (.getfield 9, 3) := by decide +kernel
theorem dX1_takeDigits_71 : decode cX1_takeDigits 71 = .ok (.getfield 133, 3) := by decide +kernel
theorem dX1_takeDigits_74 : decode cX1_takeDigits 74 = .ok (.iastore, 1) := by decide +kernel
theorem dX1_takeDigits_75 : decode cX1_takeDigits 75 = .ok (.aload_n 0, 1) := by decide +kernel
theorem dX1_takeDigits_76 : decode cX1_takeDigits 76 = .ok (.getfield 9, 3) := by decide +kernel
theorem dX1_takeDigits_79 : decode cX1_takeDigits 79 = .ok (.invokevirtual 108, 3) := by decide +kernel
theorem dX1_takeDigits_82 : decode cX1_takeDigits 82 = .ok (.iinc 3 1, 3) := by decide +kernel
theorem dX1_takeDigits_85 : decode cX1_takeDigits 85 = .ok (.goto (-83), 3) := by decide +kernel
theorem dX1_takeDigits_88 : decode cX1_takeDigits 88 = .ok (.iconst 1, 1) := by decide +kernel
theorem dX1_takeDigits_89 : decode cX1_takeDigits 89 = .ok (.ireturn, 1) := by decide +kernel
theorem dX1_takeLaw_0 : decode cX1_takeLaw 0 = .ok (.aload_n 1, 1) := by decide +kernel
theorem dX1_takeLaw_1 : decode cX1_takeLaw 1 = .ok (.getfield 136, 3) := by decide +kernel
theorem dX1_takeLaw_4 : decode cX1_takeLaw 4 = .ok (.getfield 140, 3) := by decide +kernel
theorem dX1_takeLaw_7 : decode cX1_takeLaw 7 = .ok (.bipush 10, 2) := by decide +kernel
theorem dX1_takeLaw_9 : decode cX1_takeLaw 9 = .ok (.if_icmp .lt 13, 3) := by decide +kernel
theorem dX1_takeLaw_12 : decode cX1_takeLaw 12 = .ok (.aload_n 0, 1) := by decide +kernel
theorem dX1_takeLaw_13 : decode cX1_takeLaw 13 = .ok (.getfield 9, 3) := by decide +kernel
theorem dX1_takeLaw_16 : decode cX1_takeLaw 16 = .ok (.bipush 6, 2) := by decide +kernel
theorem dX1_takeLaw_18 : decode cX1_takeLaw 18 = .ok (.invokevirtual 76, 3) := by decide +kernel
theorem dX1_takeLaw_21 : decode cX1_takeLaw 21 = .ok (.ireturn, 1) := by decide +kernel
theorem dX1_takeLaw_22 : decode cX1_takeLaw 22 = .ok (.aload_n 0, 1) := by decide +kernel
theorem dX1_takeLaw_23 : decode cX1_takeLaw 23 = .ok (.getfield 9, 3) := by decide +kernel
theorem dX1_takeLaw_26 : decode cX1_takeLaw 26 = .ok (.invokevirtual 108, 3) := by decide +kernel
theorem dX1_takeLaw_29 : decode cX1_takeLaw 29 = .ok (.aload_n 0, 1) := by decide +kernel
theorem dX1_takeLaw_30 : decode cX1_takeLaw 30 = .ok (.getfield 9, 3) := by decide +kernel
theorem dX1_takeLaw_33 : decode cX1_takeLaw 33 = .ok (.iconst 0, 1) := by decide +kernel
theorem dX1_takeLaw_34 : decode cX1_takeLaw 34 = .ok (.bipush 9, 2) := by decide +kernel
theorem dX1_takeLaw_36 : decode cX1_takeLaw 36 = .ok (.invokevirtual 89, 3) := by decide +kernel
theorem dX1_takeLaw_39 : decode cX1_takeLaw 39 = .ok (.ifCond .ne 5, 3) := by decide +kernel
theorem dX1_takeLaw_42 : decode cX1_takeLaw 42 = .ok (.iconst 0, 1) := by decide +kernel
theorem dX1_takeLaw_43 : decode cX1_takeLaw 43 = .ok (.ireturn, 1) := by decide +kernel
theorem dX1_takeLaw_44 : decode cX1_takeLaw 44 = .ok (.aload_n 0, 1) := by decide +kernel
theorem dX1_takeLaw_45 : decode cX1_takeLaw 45 = .ok (.getfield 9, 3) := by decide +kernel
theorem dX1_takeLaw_48 : decode cX1_takeLaw 48 = .ok (.getfield 93, 3) := by decide +kernel
theorem dX1_takeLaw_51 : decode cX1_takeLaw 51 = .ok (.istore_n 2, 1) := by decide +kernel
theorem dX1_takeLaw_52 : decode cX1_takeLaw 52 = .ok (.aload_n 0, 1) := by decide +kernel
theorem dX1_takeLaw_53 : decode cX1_takeLaw 53 = .ok (.getfield 9, 3) := by decide +kernel
theorem dX1_takeLaw_56 : decode cX1_takeLaw 56 = .ok (.bipush 7, 2) := by decide +kernel
theorem dX1_takeLaw_58 : decode cX1_takeLaw 58 = .ok (.invokevirtual 80, 3) := by decide +kernel
theorem dX1_takeLaw_61 : decode cX1_takeLaw 61 = .ok (.ifCond .eq 16, 3) := by decide +kernel
theorem dX1_takeLaw_64 : decode cX1_takeLaw 64 = .ok (.aload_n 0, 1) := by decide +kernel
theorem dX1_takeLaw_65 : decode cX1_takeLaw 65 = .ok (.getfield 9, 3) := by decide +kernel
theorem dX1_takeLaw_68 : decode cX1_takeLaw 68 = .ok (.iconst 0, 1) := by decide +kernel
theorem dX1_takeLaw_69 : decode cX1_takeLaw 69 = .ok (.bipush 9, 2) := by decide +kernel
theorem dX1_takeLaw_71 : decode cX1_takeLaw 71 = .ok (.invokevirtual 89, 3) := by decide +kernel
theorem dX1_takeLaw_74 : decode cX1_takeLaw 74 = .ok (.ifCond .ne 5, 3) := by decide +kernel
theorem dX1_takeLaw_77 : decode cX1_takeLaw 77 = .ok (.iconst 0, 1) := by decide +kernel
theorem dX1_takeLaw_78 : decode cX1_takeLaw 78 = .ok (.ireturn, 1) := by decide +kernel
theorem dX1_takeLaw_79 : decode cX1_takeLaw 79 = .ok (.aload_n 0, 1) := by decide +kernel
theorem dX1_takeLaw_80 : decode cX1_takeLaw 80 = .ok (.getfield 9, 3) := by decide +kernel
theorem dX1_takeLaw_83 : decode cX1_takeLaw 83 = .ok (.getfield 93, 3) := by decide +kernel
theorem dX1_takeLaw_86 : decode cX1_takeLaw 86 = .ok (.istore_n 3, 1) := by decide +kernel
theorem dX1_takeLaw_87 : decode cX1_takeLaw 87 = .ok (.iconst 0, 1) := by decide +kernel
theorem dX1_takeLaw_88 : decode cX1_takeLaw 88 = .ok (.istore 4, 2) := by decide +kernel
theorem dX1_takeLaw_90 : decode cX1_takeLaw 90 = .ok (.iconst 0, 1) := by decide +kernel
theorem dX1_takeLaw_91 : decode cX1_takeLaw 91 = .ok (.istore 5, 2) := by decide +kernel
theorem dX1_takeLaw_93 : decode cX1_takeLaw 93 = .ok (.aload_n 0, 1) := by decide +kernel
theorem dX1_takeLaw_94 : decode cX1_takeLaw 94 = .ok (.getfield 9, 3) := by decide +kernel
theorem dX1_takeLaw_97 : decode cX1_takeLaw 97 = .ok (.invokevirtual 50, 3) := by decide +kernel
theorem dX1_takeLaw_100 : decode cX1_takeLaw 100 = .ok (.bipush 8, 2) := by decide +kernel
theorem dX1_takeLaw_102 : decode cX1_takeLaw 102 = .ok (.bipush 11, 2) := by decide +kernel
theorem dX1_takeLaw_104 : decode cX1_takeLaw 104 = .ok (.invokestatic 145, 3) := by decide +kernel
theorem dX1_takeLaw_107 : decode cX1_takeLaw 107 = .ok (.ifCond .eq 48, 3) := by decide +kernel
theorem dX1_takeLaw_110 : decode cX1_takeLaw 110 = .ok (.aload_n 0, 1) := by decide +kernel
theorem dX1_takeLaw_111 : decode cX1_takeLaw 111 = .ok (.getfield 9, 3) := by decide +kernel
theorem dX1_takeLaw_114 : decode cX1_takeLaw 114 = .ok (.getfield 133, 3) := by decide +kernel
theorem dX1_takeLaw_117 : decode cX1_takeLaw 117 = .ok (.bipush 8, 2) := by decide +kernel
theorem dX1_takeLaw_119 : decode cX1_takeLaw 119 = .ok (.isub, 1) := by decide +kernel
theorem dX1_takeLaw_120 : decode cX1_takeLaw 120 = .ok (.iconst 1, 1) := by decide +kernel
theorem dX1_takeLaw_121 : decode cX1_takeLaw 121 = .ok (.iadd, 1) := by decide +kernel
theorem dX1_takeLaw_122 : decode cX1_takeLaw 122 = .ok (.istore 4, 2) := by decide +kernel
theorem dX1_takeLaw_124 : decode cX1_takeLaw 124 = .ok (.aload_n 0, 1) := by decide +kernel
theorem dX1_takeLaw_125 : decode cX1_takeLaw 125 = .ok (.getfield 9, 3) := by decide +kernel
theorem dX1_takeLaw_128 : decode cX1_takeLaw 128 = .ok (.invokevirtual 108, 3) := by decide +kernel
theorem dX1_takeLaw_131 : decode cX1_takeLaw 131 = .ok (.aload_n 0, 1) := by decide +kernel
theorem dX1_takeLaw_132 : decode cX1_takeLaw 132 = .ok (.getfield 9, 3) := by decide +kernel
theorem dX1_takeLaw_135 : decode cX1_takeLaw 135 = .ok (.iconst 0, 1) := by decide +kernel
theorem dX1_takeLaw_136 : decode cX1_takeLaw 136 = .ok (.bipush 9, 2) := by decide +kernel
theorem dX1_takeLaw_138 : decode cX1_takeLaw 138 = .ok (.invokevirtual 89, 3) := by decide +kernel
theorem dX1_takeLaw_141 : decode cX1_takeLaw 141 = .ok (.ifCond .ne 5, 3) := by decide +kernel
theorem dX1_takeLaw_144 : decode cX1_takeLaw 144 = .ok (.iconst 0, 1) := by decide +kernel
theorem dX1_takeLaw_145 : decode cX1_takeLaw 145 = .ok (.ireturn, 1) := by decide +kernel
theorem dX1_takeLaw_146 : decode cX1_takeLaw 146 = .ok (.aload_n 0, 1) := by decide +kernel
theorem dX1_takeLaw_147 : decode cX1_takeLaw 147 = .ok (.getfield 9, 3) := by decide +kernel
theorem dX1_takeLaw_150 : decode cX1_takeLaw 150 = .ok (.getfield 93, 3) := by decide +kernel
theorem dX1_takeLaw_153 : decode cX1_takeLaw 153 = .ok (.istore 5, 2) := by decide +kernel
theorem dX1_takeLaw_155 : decode cX1_takeLaw 155 = .ok (.aload_n 1, 1) := by decide +kernel
theorem dX1_takeLaw_156 : decode cX1_takeLaw 156 = .ok (.getfield 136, 3) := by decide +kernel
theorem dX1_takeLaw_159 : decode cX1_takeLaw 159 = .ok (.iload_n 2, 1) := by decide +kernel
theorem dX1_takeLaw_160 : decode cX1_takeLaw 160 = .ok (.iload_n 3, 1) := by decide +kernel
theorem dX1_takeLaw_161 : decode cX1_takeLaw 161 = .ok (.iload 4, 2) := by decide +kernel
theorem dX1_takeLaw_163 : decode cX1_takeLaw 163 = .ok (.iload 5, 2) := by decide +kernel
theorem dX1_takeLaw_165 : decode cX1_takeLaw 165 = .ok (.invokevirtual 149, 3) := by decide +kernel
theorem dX1_takeLaw_168 : decode cX1_takeLaw 168 = .ok (.aload_n 0, 1) := by decide +kernel
theorem dX1_takeLaw_169 : decode cX1_takeLaw 169 = .ok (.getfield 9, 3) := by decide +kernel
theorem dX1_takeLaw_172 : decode cX1_takeLaw 172 = .ok (.invokevirtual 99, 3) := by decide +kernel
theorem dX1_takeLaw_175 : decode cX1_takeLaw 175 = .ok (.ireturn, 1) := by decide +kernel
theorem dX1_takeWatch_0 : decode cX1_takeWatch 0 = .ok (.aload_n 0, 1) := by decide +kernel
theorem dX1_takeWatch_1 : decode cX1_takeWatch 1 = .ok (.bipush 12, 2) := by decide +kernel
theorem dX1_takeWatch_3 : decode cX1_takeWatch 3 = .ok (.invokevirtual 86, 3) := by decide +kernel
theorem dX1_takeWatch_6 : decode cX1_takeWatch 6 = .ok (.ifCond .eq 14, 3) := by decide +kernel
theorem dX1_takeWatch_9 : decode cX1_takeWatch 9 = .ok (.aload_n 0, 1) := by decide +kernel
theorem dX1_takeWatch_10 : decode cX1_takeWatch 10 = .ok (.getfield 9, 3) := by decide +kernel
theorem dX1_takeWatch_13 : decode cX1_takeWatch 13 = .ok (.aload_n 1, 1) := by decide +kernel
theorem dX1_takeWatch_14 : decode cX1_takeWatch 14 = .ok (.invokevirtual 153, 3) := by decide +kernel
theorem dX1_takeWatch_17 : decode cX1_takeWatch 17 = .ok (.ifCond .ne 5, 3) := by decide +kernel
theorem dX1_takeWatch_20 : decode cX1_takeWatch 20 = .ok (.iconst 0, 1) := by decide +kernel
theorem dX1_takeWatch_21 : decode cX1_takeWatch 21 = .ok (.ireturn, 1) := by decide +kernel
theorem dX1_takeWatch_22 : decode cX1_takeWatch 22 = .ok (.aload_n 0, 1) := by decide +kernel
theorem dX1_takeWatch_23 : decode cX1_takeWatch 23 = .ok (.getfield 9, 3) := by decide +kernel
theorem dX1_takeWatch_26 : decode cX1_takeWatch 26 = .ok (.getfield 93, 3) := by decide +kernel
theorem dX1_takeWatch_29 : decode cX1_takeWatch 29 = .ok (.istore_n 2, 1) := by decide +kernel
theorem dX1_takeWatch_30 : decode cX1_takeWatch 30 = .ok (.aload_n 0, 1) := by decide +kernel
theorem dX1_takeWatch_31 : decode cX1_takeWatch 31 = .ok (.getfield 9, 3) := by decide +kernel
theorem dX1_takeWatch_34 : decode cX1_takeWatch 34 = .ok (.iconst 0, 1) := by decide +kernel
theorem dX1_takeWatch_35 : decode cX1_takeWatch 35 = .ok (.aload_n 1, 1) := by decide +kernel
theorem dX1_takeWatch_36 : decode cX1_takeWatch 36 = .ok (.getfield 96, 3) := by decide +kernel
theorem dX1_takeWatch_39 : decode cX1_takeWatch 39 = .ok (.iconst 1, 1) := by decide +kernel
theorem dX1_takeWatch_40 : decode cX1_takeWatch 40 = .ok (.isub, 1) := by decide +kernel
theorem dX1_takeWatch_41 : decode cX1_takeWatch 41 = .ok (.invokevirtual 89, 3) := by decide +kernel
theorem dX1_takeWatch_44 : decode cX1_takeWatch 44 = .ok (.ifCond .ne 5, 3) := by decide +kernel
theorem dX1_takeWatch_47 : decode cX1_takeWatch 47 = .ok (.iconst 0, 1) := by decide +kernel
theorem dX1_takeWatch_48 : decode cX1_takeWatch 48 = .ok (.ireturn, 1) := by decide +kernel
theorem dX1_takeWatch_49 : decode cX1_takeWatch 49 = .ok (.aload_n 1, 1) := by decide +kernel
theorem dX1_takeWatch_50 : decode cX1_takeWatch 50 = .ok (.iload_n 2, 1) := by decide +kernel
theorem dX1_takeWatch_51 : decode cX1_takeWatch 51 = .ok (.aload_n 0, 1) := by decide +kernel
theorem dX1_takeWatch_52 : decode cX1_takeWatch 52 = .ok (.getfield 9, 3) := by decide +kernel
theorem dX1_takeWatch_55 : decode cX1_takeWatch 55 = .ok (.getfield 93, 3) := by decide +kernel
theorem dX1_takeWatch_58 : decode cX1_takeWatch 58 = .ok (.iadd, 1) := by decide +kernel
theorem dX1_takeWatch_59 : decode cX1_takeWatch 59 = .ok (.putfield 156, 3) := by decide +kernel
theorem dX1_takeWatch_62 : decode cX1_takeWatch 62 = .ok (.aload_n 0, 1) := by decide +kernel
theorem dX1_takeWatch_63 : decode cX1_takeWatch 63 = .ok (.getfield 9, 3) := by decide +kernel
theorem dX1_takeWatch_66 : decode cX1_takeWatch 66 = .ok (.invokevirtual 99, 3) := by decide +kernel
theorem dX1_takeWatch_69 : decode cX1_takeWatch 69 = .ok (.ireturn, 1) := by decide +kernel
theorem dX2_canSteal_0 : decode cX2_canSteal 0 = .ok (.iload_n 3, 1) := by decide +kernel
theorem dX2_canSteal_1 : decode cX2_canSteal 1 = .ok (.iload_n 1, 1) := by decide +kernel
theorem dX2_canSteal_2 : decode cX2_canSteal 2 = .ok (.ishr, 1) := by decide +kernel
theorem dX2_canSteal_3 : decode cX2_canSteal 3 = .ok (.iconst 1, 1) := by decide +kernel
theorem dX2_canSteal_4 : decode cX2_canSteal 4 = .ok (.iand, 1) := by decide +kernel
theorem dX2_canSteal_5 : decode cX2_canSteal 5 = .ok (.ifCond .ne 26, 3) := by decide +kernel
theorem dX2_canSteal_8 : decode cX2_canSteal 8 = .ok (.aload_n 0, 1) := by decide +kernel
theorem dX2_canSteal_9 : decode cX2_canSteal 9 = .ok (.getfield 9, 3) := by decide +kernel
theorem dX2_canSteal_12 : decode cX2_canSteal 12 = .ok (.iload_n 1, 1) := by decide +kernel
theorem dX2_canSteal_13 : decode cX2_canSteal 13 = .ok (.iaload, 1) := by decide +kernel
theorem dX2_canSteal_14 : decode cX2_canSteal 14 = .ok (.ifCond .eq 17, 3) := by decide +kernel
theorem dX2_canSteal_17 : decode cX2_canSteal 17 = .ok (.aload_n 0, 1) := by decide +kernel
theorem dX2_canSteal_18 : decode cX2_canSteal 18 = .ok (.iload_n 2, 1) := by decide +kernel
theorem dX2_canSteal_19 : decode cX2_canSteal 19 = .ok (.iload_n 1, 1) := by decide +kernel
theorem dX2_canSteal_20 : decode cX2_canSteal 20 = .ok (.invokevirtual 15, 3) := by decide +kernel
theorem dX2_canSteal_23 : decode cX2_canSteal 23 = .ok (.iconst 2, 1) := by decide +kernel
theorem dX2_canSteal_24 : decode cX2_canSteal 24 = .ok (.if_icmp .lt 7, 3) := by decide +kernel
theorem dX2_canSteal_27 : decode cX2_canSteal 27 = .ok (.iconst 1, 1) := by decide +kernel
theorem dX2_canSteal_28 : decode cX2_canSteal 28 = .ok (.goto 4, 3) := by decide +kernel
theorem dX2_canSteal_31 : decode cX2_canSteal 31 = .ok (.iconst 0, 1) := by decide +kernel
theorem dX2_canSteal_32 : decode cX2_canSteal 32 = .ok (.ireturn, 1) := by decide +kernel
theorem dX2_loot_0 : decode cX2_loot 0 = .ok (.iload_n 1, 1) := by decide +kernel
theorem dX2_loot_1 : decode cX2_loot 1 = .ok (.ifCond .le 8, 3) := by decide +kernel
theorem dX2_loot_4 : decode cX2_loot 4 = .ok (.iload_n 1, 1) := by decide +kernel
theorem dX2_loot_5 : decode cX2_loot 5 = .ok (.iconst 2, 1) := by decide +kernel
theorem dX2_loot_6 : decode cX2_loot 6 = .ok (.if_icmp .le 5, 3) := by decide +kernel
theorem dX2_loot_9 : decode cX2_loot 9 = .ok (.iconst 0, 1) := by decide +kernel
theorem dX2_loot_10 : decode cX2_loot 10 = .ok (.ireturn, 1) := by decide +kernel
theorem dX2_loot_11 : decode cX2_loot 11 = .ok (.aload_n 0, 1) := by decide +kernel
theorem dX2_loot_12 : decode cX2_loot 12 = .ok (.iload_n 1, 1) := by decide +kernel
theorem dX2_loot_13 : decode cX2_loot 13 = .ok (.iconst 1, 1) := by decide +kernel
theorem dX2_loot_14 : decode cX2_loot 14 = .ok (.isub, 1) := by decide +kernel
theorem dX2_loot_15 : decode cX2_loot 15 = .ok (.iload_n 2, 1) := by decide +kernel
theorem dX2_loot_16 : decode cX2_loot 16 = .ok (.iload_n 3, 1) := by decide +kernel
theorem dX2_loot_17 : decode cX2_loot 17 = .ok (.invokestatic 19, 3) := by decide +kernel
theorem dX2_loot_20 : decode cX2_loot 20 = .ok (.istore 4, 2) := by decide +kernel
theorem dX2_loot_22 : decode cX2_loot 22 = .ok (.iconst 0, 1) := by decide +kernel
theorem dX2_loot_23 : decode cX2_loot 23 = .ok (.istore 5, 2) := by decide +kernel
theorem dX2_loot_25 : decode cX2_loot 25 = .ok (.iload 5, 2) := by decide +kernel
theorem dX2_loot_27 : decode cX2_loot 27 = .ok (.aload_n 0, 1) := by decide +kernel
theorem dX2_loot_28 : decode cX2_loot 28 = .ok (.invokevirtual 25, 3) := by decide +kernel
theorem dX2_loot_31 : decode cX2_loot 31 = .ok (.if_icmp .ge 49, 3) := by decide +kernel
theorem dX2_loot_34 : decode cX2_loot 34 = .ok (.aload_n 0, 1) := by decide +kernel
theorem dX2_loot_35 : decode cX2_loot 35 = .ok (.iload 5, 2) := by decide +kernel
theorem dX2_loot_37 : decode cX2_loot 37 = .ok (.iload_n 2, 1) := by decide +kernel
theorem dX2_loot_38 : decode cX2_loot 38 = .ok (.iload_n 3, 1) := by decide +kernel
theorem dX2_loot_39 : decode cX2_loot 39 = .ok (.invokestatic 29, 3) := by decide +kernel
theorem dX2_loot_42 : decode cX2_loot 42 = .ok (.ifCond .eq 32, 3) := by decide +kernel
theorem dX2_loot_45 : decode cX2_loot 45 = .ok (.iload 4, 2) := by decide +kernel
theorem dX2_loot_47 : decode cX2_loot 47 = .ok (.aload_n 0, 1) := by decide +kernel
theorem dX2_loot_48 : decode cX2_loot 48 = .ok (.getfield 9, 3) := by decide +kernel
theorem dX2_loot_51 : decode cX2_loot 51 = .ok (.iload 5, 2) := by decide +kernel
theorem dX2_loot_53 : decode cX2_loot 53 = .ok (.iaload, 1) := by decide +kernel
theorem dX2_loot_54 : decode cX2_loot 54 = .ok (.aload_n 0, 1) := by decide +kernel
theorem dX2_loot_55 : decode cX2_loot 55 = .ok (.iload_n 1, 1) := by decide +kernel
theorem dX2_loot_56 : decode cX2_loot 56 = .ok (.iconst 1, 1) := by decide +kernel
theorem dX2_loot_57 : decode cX2_loot 57 = .ok (.isub, 1) := by decide +kernel
theorem dX2_loot_58 : decode cX2_loot 58 = .ok (.iload_n 2, 1) := by decide +kernel
theorem dX2_loot_59 : decode cX2_loot 59 = .ok (.iload_n 3, 1) := by decide +kernel
theorem dX2_loot_60 : decode cX2_loot 60 = .ok (.iconst 1, 1) := by decide +kernel
theorem dX2_loot_61 : decode cX2_loot 61 = .ok (.iload 5, 2) := by decide +kernel
theorem dX2_loot_63 : decode cX2_loot 63 = .ok (.ishl, 1) := by decide +kernel
theorem dX2_loot_64 : decode cX2_loot 64 = .ok (.ior, 1) := by decide +kernel
theorem dX2_loot_65 : decode cX2_loot 65 = .ok (.invokestatic 19, 3) := by decide +kernel
theorem dX2_loot_68 : decode cX2_loot 68 = .ok (.iadd, 1) := by decide +kernel
theorem dX2_loot_69 : decode cX2_loot 69 = .ok (.invokestatic 33, 3) := by decide +kernel
theorem dX2_loot_72 : decode cX2_loot 72 = .ok (.istore 4, 2) := by decide +kernel
theorem dX2_loot_74 : decode cX2_loot 74 = .ok (.iinc 5 1, 3) := by decide +kernel
theorem dX2_loot_77 : decode cX2_loot 77 = .ok (.goto (-52), 3) := by decide +kernel
theorem dX2_loot_80 : decode cX2_loot 80 = .ok (.iload 4, 2) := by decide +kernel
theorem dX2_loot_82 : decode cX2_loot 82 = .ok (.ireturn, 1) := by decide +kernel
theorem dX2_lootBehindStep_0 : decode cX2_lootBehindStep 0 = .ok (.iload_n 1, 1) := by decide +kernel
theorem dX2_lootBehindStep_1 : decode cX2_lootBehindStep 1 = .ok (.ifCond .gt 5, 3) := by decide +kernel
theorem dX2_lootBehindStep_4 : decode cX2_lootBehindStep 4 = .ok (.iconst 0, 1) := by decide +kernel
theorem dX2_lootBehindStep_5 : decode cX2_lootBehindStep 5 = .ok (.ireturn, 1) := by decide +kernel
theorem dX2_lootBehindStep_6 : decode cX2_lootBehindStep 6 = .ok (.aload_n 0, 1) := by decide +kernel
theorem dX2_lootBehindStep_7 : decode cX2_lootBehindStep 7 = .ok (.iload_n 1, 1) := by decide +kernel
theorem dX2_lootBehindStep_8 : decode cX2_lootBehindStep 8 = .ok (.iload_n 2, 1) := by decide +kernel
theorem dX2_lootBehindStep_9 : decode cX2_lootBehindStep 9 = .ok (.iload_n 3, 1) := by decide +kernel
theorem dX2_lootBehindStep_10 : decode cX2_lootBehindStep 10 = .ok (.invokestatic 38, 3) := by decide +kernel
theorem dX2_lootBehindStep_13 : decode cX2_lootBehindStep 13 = .ok (.istore 4, 2) := by decide +kernel
theorem dX2_lootBehindStep_15 : decode cX2_lootBehindStep 15 = .ok (.iconst 0, 1) := by decide +kernel
theorem dX2_lootBehindStep_16 : decode cX2_lootBehindStep 16 = .ok (.istore 5, 2) := by decide +kernel
theorem dX2_lootBehindStep_18 : decode cX2_lootBehindStep 18 = .ok (.iload 5, 2) := by decide +kernel
theorem dX2_lootBehindStep_20 : decode cX2_lootBehindStep 20 = .ok (.iconst 4, 1) := by decide +kernel
theorem dX2_lootBehindStep_21 : decode cX2_lootBehindStep 21 = .ok (.if_icmp .ge 39, 3) := by decide +kernel
theorem dX2_lootBehindStep_24 : decode cX2_lootBehindStep 24 = .ok (.aload_n 0, 1) := by decide +kernel
theorem dX2_lootBehindStep_25 : decode cX2_lootBehindStep 25 = .ok (.iload_n 2, 1) := by decide +kernel
theorem dX2_lootBehindStep_26 : decode cX2_lootBehindStep 26 = .ok (.iload 5, 2) := by decide +kernel
theorem dX2_lootBehindStep_28 : decode cX2_lootBehindStep 28 = .ok (.invokevirtual 41, 3) := by decide +kernel
theorem dX2_lootBehindStep_31 : decode cX2_lootBehindStep 31 = .ok (.istore 6, 2) := by decide +kernel
theorem dX2_lootBehindStep_33 : decode cX2_lootBehindStep 33 = .ok (.iload 6, 2) := by decide +kernel
theorem dX2_lootBehindStep_35 : decode cX2_lootBehindStep 35 = .ok (.iconst (-1), 1) := by decide +kernel
theorem dX2_lootBehindStep_36 : decode cX2_lootBehindStep 36 = .ok (.if_icmp .eq 18, 3) := by decide +kernel
theorem dX2_lootBehindStep_39 : decode cX2_lootBehindStep 39 = .ok (.iload 4, 2) := by decide +kernel
theorem dX2_lootBehindStep_41 : decode cX2_lootBehindStep 41 = .ok (.aload_n 0, 1) := by decide +kernel
theorem dX2_lootBehindStep_42 : decode cX2_lootBehindStep 42 = .ok (.iload_n 1, 1) := by decide +kernel
theorem dX2_lootBehindStep_43 : decode cX2_lootBehindStep 43 = .ok (.iload 6, 2) := by decide +kernel
theorem dX2_lootBehindStep_45 : decode cX2_lootBehindStep 45 = .ok (.iload_n 3, 1) := by decide +kernel
theorem dX2_lootBehindStep_46 : decode cX2_lootBehindStep 46 = .ok (.invokestatic 38, 3) := by decide +kernel
theorem dX2_lootBehindStep_49 : decode cX2_lootBehindStep 49 = .ok (.invokestatic 44, 3) := by decide +kernel
theorem dX2_lootBehindStep_52 : decode cX2_lootBehindStep 52 = .ok (.istore 4, 2) := by decide +kernel
theorem dX2_lootBehindStep_54 : decode cX2_lootBehindStep 54 = .ok (.iinc 5 1, 3) := by decide +kernel
theorem dX2_lootBehindStep_57 : decode cX2_lootBehindStep 57 = .ok (.goto (-39), 3) := by decide +kernel
theorem dX2_lootBehindStep_60 : decode cX2_lootBehindStep 60 = .ok (.iload 4, 2) := by decide +kernel
theorem dX2_lootBehindStep_62 : decode cX2_lootBehindStep 62 = .ok (.ireturn, 1) := by decide +kernel
theorem dX2_firstTheft_0 : decode cX2_firstTheft 0 = .ok (.aload_n 0, 1) := by decide +kernel
theorem dX2_firstTheft_1 : decode cX2_firstTheft 1 = .ok (.iload_n 1, 1) := by decide +kernel
theorem dX2_firstTheft_2 : decode cX2_firstTheft 2 = .ok (.aload_n 0, 1) := by decide +kernel
theorem dX2_firstTheft_3 : decode cX2_firstTheft 3 = .ok (.getfield 47, 3) := by decide +kernel
theorem dX2_firstTheft_6 : decode cX2_firstTheft 6 = .ok (.iconst 0, 1) := by decide +kernel
theorem dX2_firstTheft_7 : decode cX2_firstTheft 7 = .ok (.invokestatic 38, 3) := by decide +kernel
theorem dX2_firstTheft_10 : decode cX2_firstTheft 10 = .ok (.istore_n 2, 1) := by decide +kernel
theorem dX2_firstTheft_11 : decode cX2_firstTheft 11 = .ok (.iconst 0, 1) := by decide +kernel
theorem dX2_firstTheft_12 : decode cX2_firstTheft 12 = .ok (.istore_n 3, 1) := by decide +kernel
theorem dX2_firstTheft_13 : decode cX2_firstTheft 13 = .ok (.iload_n 3, 1) := by decide +kernel
theorem dX2_firstTheft_14 : decode cX2_firstTheft 14 = .ok (.aload_n 0, 1) := by decide +kernel
theorem dX2_firstTheft_15 : decode cX2_firstTheft 15 = .ok (.invokevirtual 25, 3) := by decide +kernel
theorem dX2_firstTheft_18 : decode cX2_firstTheft 18 = .ok (.if_icmp .ge 49, 3) := by decide +kernel
theorem dX2_firstTheft_21 : decode cX2_firstTheft 21 = .ok (.aload_n 0, 1) := by decide +kernel
theorem dX2_firstTheft_22 : decode cX2_firstTheft 22 = .ok (.iload_n 3, 1) := by decide +kernel
theorem dX2_firstTheft_23 : decode cX2_firstTheft 23 = .ok (.aload_n 0, 1) := by decide +kernel
theorem dX2_firstTheft_24 : decode cX2_firstTheft 24 = .ok (.getfield 47, 3) := by decide +kernel
theorem dX2_firstTheft_27 : decode cX2_firstTheft 27 = .ok (.iconst 0, 1) := by decide +kernel
theorem dX2_firstTheft_28 : decode cX2_firstTheft 28 = .ok (.invokestatic 29, 3) := by decide +kernel
theorem dX2_firstTheft_31 : decode cX2_firstTheft 31 = .ok (.ifCond .eq 30, 3) := by decide +kernel
theorem dX2_firstTheft_34 : decode cX2_firstTheft 34 = .ok (.aload_n 0, 1) := by decide +kernel
theorem dX2_firstTheft_35 : decode cX2_firstTheft 35 = .ok (.getfield 9, 3) := by decide +kernel
theorem dX2_firstTheft_38 : decode cX2_firstTheft 38 = .ok (.iload_n 3, 1) := by decide +kernel
theorem dX2_firstTheft_39 : decode cX2_firstTheft 39 = .ok (.iaload, 1) := by decide +kernel
theorem dX2_firstTheft_40 : decode cX2_firstTheft 40 = .ok (.aload_n 0, 1) := by decide +kernel
theorem dX2_firstTheft_41 : decode cX2_firstTheft 41 = .ok (.iload_n 1, 1) := by decide +kernel
theorem dX2_firstTheft_42 : decode cX2_firstTheft 42 = .ok (.iconst 1, 1) := by decide +kernel
theorem dX2_firstTheft_43 : decode cX2_firstTheft 43 = .ok (.isub, 1) := by decide +kernel
theorem dX2_firstTheft_44 : decode cX2_firstTheft 44 = .ok (.aload_n 0, 1) := by decide +kernel
theorem dX2_firstTheft_45 : decode cX2_firstTheft 45 = .ok (.getfield 47, 3) := by decide +kernel
theorem dX2_firstTheft_48 : decode cX2_firstTheft 48 = .ok (.iconst 1, 1) := by decide +kernel
theorem dX2_firstTheft_49 : decode cX2_firstTheft 49 = .ok (.iload_n 3, 1) := by decide +kernel
theorem dX2_firstTheft_50 : decode cX2_firstTheft 50 = .ok (.ishl, 1) := by decide +kernel
theorem dX2_firstTheft_51 : decode cX2_firstTheft 51 = .ok (.invokestatic 19, 3) := by decide +kernel
theorem dX2_firstTheft_54 : decode cX2_firstTheft 54 = .ok (.iadd, 1) := by decide +kernel
theorem dX2_firstTheft_55 : decode cX2_firstTheft 55 = .ok (.iload_n 2, 1) := by decide +kernel
theorem dX2_firstTheft_56 : decode cX2_firstTheft 56 = .ok (.if_icmp .ne 5, 3) := by decide +kernel
theorem dX2_firstTheft_59 : decode cX2_firstTheft 59 = .ok (.iload_n 3, 1) := by decide +kernel
theorem dX2_firstTheft_60 : decode cX2_firstTheft 60 = .ok (.ireturn, 1) := by decide +kernel
theorem dX2_firstTheft_61 : decode cX2_firstTheft 61 = .ok (.iinc 3 1, 3) := by decide +kernel
theorem dX2_firstTheft_64 : decode cX2_firstTheft 64 = .ok (.goto (-51), 3) := by decide +kernel
theorem dX2_firstTheft_67 : decode cX2_firstTheft 67 = .ok (.iconst (-1), 1) := by decide +kernel
theorem dX2_firstTheft_68 : decode cX2_firstTheft 68 = .ok (.ireturn, 1) := by decide +kernel
theorem dX3_init_0 : decode cX3_init 0 = .ok (.aload_n 0, 1) := by decide +kernel
theorem dX3_init_1 : decode cX3_init 1 = .ok (.invokespecial 3, 3) := by decide +kernel
theorem dX3_init_4 : decode cX3_init 4 = .ok (.aload_n 0, 1) := by decide +kernel
theorem dX3_init_5 : decode cX3_init 5 = .ok (.bipush 10, 2) := by decide +kernel
theorem dX3_init_7 : decode cX3_init 7 = .ok (.newarray .int, 2) := by decide +kernel
theorem dX3_init_9 : decode cX3_init 9 = .ok (.putfield 9, 3) := by decide +kernel
theorem dX3_init_12 : decode cX3_init 12 = .ok (.aload_n 0, 1) := by decide +kernel
theorem dX3_init_13 : decode cX3_init 13 = .ok (.bipush 10, 2) := by decide +kernel
theorem dX3_init_15 : decode cX3_init 15 = .ok (.newarray .int, 2) := by decide +kernel
theorem dX3_init_17 : decode cX3_init 17 = .ok (.putfield 15, 3) := by decide +kernel
theorem dX3_init_20 : decode cX3_init 20 = .ok (.aload_n 0, 1) := by decide +kernel
theorem dX3_init_21 : decode cX3_init 21 = .ok (.bipush 10, 2) := by decide +kernel
theorem dX3_init_23 : decode cX3_init 23 = .ok (.newarray .int, 2) := by decide +kernel
theorem dX3_init_25 : decode cX3_init 25 = .ok (.putfield 18, 3) := by decide +kernel
theorem dX3_init_28 : decode cX3_init 28 = .ok (.aload_n 0, 1) := by decide +kernel
theorem dX3_init_29 : decode cX3_init 29 = .ok (.bipush 10, 2) := by decide +kernel
theorem dX3_init_31 : decode cX3_init 31 = .ok (.newarray .int, 2) := by decide +kernel
theorem dX3_init_33 : decode cX3_init 33 = .ok (.putfield 21, 3) := by decide +kernel
theorem dX3_init_36 : decode cX3_init 36 = .ok (.return_, 1) := by decide +kernel
theorem dX3_takeFrom_0 : decode cX3_takeFrom 0 = .ok (.aload_n 0, 1) := by decide +kernel
theorem dX3_takeFrom_1 : decode cX3_takeFrom 1 = .ok (.aload_n 1, 1) := by decide +kernel
theorem dX3_takeFrom_2 : decode cX3_takeFrom 2 = .ok (.getfield 24, 3) := by decide +kernel
theorem dX3_takeFrom_5 : decode cX3_takeFrom 5 = .ok (.putfield 24, 3) := by decide +kernel
theorem dX3_takeFrom_8 : decode cX3_takeFrom 8 = .ok (.aload_n 1, 1) := by decide +kernel
theorem dX3_takeFrom_9 : decode cX3_takeFrom 9 = .ok (.getfield 9, 3) := by decide +kernel
theorem dX3_takeFrom_12 : decode cX3_takeFrom 12 = .ok (.iconst 0, 1) := by decide +kernel
theorem dX3_takeFrom_13 : decode cX3_takeFrom 13 = .ok (.aload_n 0, 1) := by decide +kernel
theorem dX3_takeFrom_14 : decode cX3_takeFrom 14 = .ok (.getfield 9, 3) := by decide +kernel
theorem dX3_takeFrom_17 : decode cX3_takeFrom 17 = .ok (.iconst 0, 1) := by decide +kernel
theorem dX3_takeFrom_18 : decode cX3_takeFrom 18 = .ok (.bipush 10, 2) := by decide +kernel
theorem dX3_takeFrom_20 : decode cX3_takeFrom 20 = .ok (.invokestatic 28, 3) := by decide +kernel
theorem dX3_takeFrom_23 : decode cX3_takeFrom 23 = .ok (.aload_n 1, 1) := by decide +kernel
theorem dX3_takeFrom_24 : decode cX3_takeFrom 24 = .ok (.getfield 15, 3) := by decide +kernel
theorem dX3_takeFrom_27 : decode cX3_takeFrom 27 = .ok (.iconst 0, 1) := by decide +kernel
theorem dX3_takeFrom_28 : decode cX3_takeFrom 28 = .ok (.aload_n 0, 1) := by decide +kernel
theorem dX3_takeFrom_29 : decode cX3_takeFrom 29 = .ok (.getfield 15, 3) := by decide +kernel
theorem dX3_takeFrom_32 : decode cX3_takeFrom 32 = .ok (.iconst 0, 1) := by decide +kernel
theorem dX3_takeFrom_33 : decode cX3_takeFrom 33 = .ok (.bipush 10, 2) := by decide +kernel
theorem dX3_takeFrom_35 : decode cX3_takeFrom 35 = .ok (.invokestatic 28, 3) := by decide +kernel
theorem dX3_takeFrom_38 : decode cX3_takeFrom 38 = .ok (.aload_n 1, 1) := by decide +kernel
theorem dX3_takeFrom_39 : decode cX3_takeFrom 39 = .ok (.getfield 18, 3) := by decide +kernel
theorem dX3_takeFrom_42 : decode cX3_takeFrom 42 = .ok (.iconst 0, 1) := by decide +kernel
theorem dX3_takeFrom_43 : decode cX3_takeFrom 43 = .ok (.aload_n 0, 1) := by decide +kernel
theorem dX3_takeFrom_44 : decode cX3_takeFrom 44 = .ok (.getfield 18, 3) := by decide +kernel
theorem dX3_takeFrom_47 : decode cX3_takeFrom 47 = .ok (.iconst 0, 1) := by decide +kernel
theorem dX3_takeFrom_48 : decode cX3_takeFrom 48 = .ok (.bipush 10, 2) := by decide +kernel
theorem dX3_takeFrom_50 : decode cX3_takeFrom 50 = .ok (.invokestatic 28, 3) := by decide +kernel
theorem dX3_takeFrom_53 : decode cX3_takeFrom 53 = .ok (.aload_n 1, 1) := by decide +kernel
theorem dX3_takeFrom_54 : decode cX3_takeFrom 54 = .ok (.getfield 21, 3) := by decide +kernel
theorem dX3_takeFrom_57 : decode cX3_takeFrom 57 = .ok (.iconst 0, 1) := by decide +kernel
theorem dX3_takeFrom_58 : decode cX3_takeFrom 58 = .ok (.aload_n 0, 1) := by decide +kernel
theorem dX3_takeFrom_59 : decode cX3_takeFrom 59 = .ok (.getfield 21, 3) := by decide +kernel
theorem dX3_takeFrom_62 : decode cX3_takeFrom 62 = .ok (.iconst 0, 1) := by decide +kernel
theorem dX3_takeFrom_63 : decode cX3_takeFrom 63 = .ok (.bipush 10, 2) := by decide +kernel
theorem dX3_takeFrom_65 : decode cX3_takeFrom 65 = .ok (.invokestatic 28, 3) := by decide +kernel
theorem dX3_takeFrom_68 : decode cX3_takeFrom 68 = .ok (.return_, 1) := by decide +kernel
theorem dX3_has_0 : decode cX3_has 0 = .ok (.iload_n 1, 1) := by decide +kernel
theorem dX3_has_1 : decode cX3_has 1 = .ok (.iconst 0, 1) := by decide +kernel
theorem dX3_has_2 : decode cX3_has 2 = .ok (.aload_n 0, 1) := by decide +kernel
theorem dX3_has_3 : decode cX3_has 3 = .ok (.getfield 24, 3) := by decide +kernel
theorem dX3_has_6 : decode cX3_has 6 = .ok (.iconst 1, 1) := by decide +kernel
theorem dX3_has_7 : decode cX3_has 7 = .ok (.isub, 1) := by decide +kernel
theorem dX3_has_8 : decode cX3_has 8 = .ok (.invokestatic 34, 3) := by decide +kernel
theorem dX3_has_11 : decode cX3_has 11 = .ok (.ireturn, 1) := by decide +kernel
theorem dX3_add_0 : decode cX3_add 0 = .ok (.aload_n 0, 1) := by decide +kernel
theorem dX3_add_1 : decode cX3_add 1 = .ok (.getfield 24, 3) := by decide +kernel
theorem dX3_add_4 : decode cX3_add 4 = .ok (.bipush 10, 2) := by decide +kernel
theorem dX3_add_6 : decode cX3_add 6 = .ok (.if_icmp .lt 4, 3) := by decide +kernel
theorem dX3_add_9 : decode cX3_add 9 = .ok (.return_, 1) := by decide +kernel
theorem dX3_add_10 : decode cX3_add 10 = .ok (.aload_n 0, 1) := by decide +kernel
theorem dX3_add_11 : decode cX3_add 11 = .ok (.getfield 9, 3) := by decide +kernel
theorem dX3_add_14 : decode cX3_add 14 = .ok (.aload_n 0, 1) := by decide +kernel
theorem dX3_add_15 : decode cX3_add 15 = .ok (.getfield 24, 3) := by decide +kernel
theorem dX3_add_18 : decode cX3_add 18 = .ok (.iload_n 1, 1) := by decide +kernel
theorem dX3_add_19 : decode cX3_add 19 = .ok (.iastore, 1) := by decide +kernel
theorem dX3_add_20 : decode cX3_add 20 = .ok (.aload_n 0, 1) := by decide +kernel
theorem dX3_add_21 : decode cX3_add 21 = .ok (.getfield 15, 3) := by decide +kernel
theorem dX3_add_24 : decode cX3_add 24 = .ok (.aload_n 0, 1) := by decide +kernel
theorem dX3_add_25 : decode cX3_add 25 = .ok (.getfield 24, 3) := by decide +kernel
theorem dX3_add_28 : decode cX3_add 28 = .ok (.iload_n 2, 1) := by decide +kernel
theorem dX3_add_29 : decode cX3_add 29 = .ok (.iastore, 1) := by decide +kernel
theorem dX3_add_30 : decode cX3_add 30 = .ok (.aload_n 0, 1) := by decide +kernel
theorem dX3_add_31 : decode cX3_add 31 = .ok (.getfield 18, 3) := by decide +kernel
theorem dX3_add_34 : decode cX3_add 34 = .ok (.aload_n 0, 1) := by decide +kernel
theorem dX3_add_35 : decode cX3_add 35 = .ok (.getfield 24, 3) := by decide +kernel
theorem dX3_add_38 : decode cX3_add 38 = .ok (.iload_n 3, 1) := by decide +kernel
theorem dX3_add_39 : decode cX3_add 39 = .ok (.iastore, 1) := by decide +kernel
theorem dX3_add_40 : decode cX3_add 40 = .ok (.aload_n 0, 1) := by decide +kernel
theorem dX3_add_41 : decode cX3_add 41 = .ok (.getfield 21, 3) := by decide +kernel
theorem dX3_add_44 : decode cX3_add 44 = .ok (.aload_n 0, 1) := by decide +kernel
theorem dX3_add_45 : decode cX3_add 45 = .ok (.getfield 24, 3) := by decide +kernel
theorem dX3_add_48 : decode cX3_add 48 = .ok (.iload_n 3, 1) := by decide +kernel
theorem dX3_add_49 : decode cX3_add 49 = .ok (.ifCond .ne 7, 3) := by decide +kernel
theorem dX3_add_52 : decode cX3_add 52 = .ok (.iconst 0, 1) := by decide +kernel
theorem dX3_add_53 : decode cX3_add 53 = .ok (.goto 5, 3) := by decide +kernel
theorem dX3_add_56 : decode cX3_add 56 = .ok (.iload 4, 2) := by decide +kernel
theorem dX3_add_58 : decode cX3_add 58 = .ok (.iastore, 1) := by decide +kernel
theorem dX3_add_59 : decode cX3_add 59 = .ok (.aload_n 0, 1) := by decide +kernel
theorem dX3_add_60 : decode cX3_add 60 = .ok (.dup, 1) := by decide +kernel
theorem dX3_add_61 : decode cX3_add 61 = .ok (.getfield 24, 3) := by decide +kernel
theorem dX3_add_64 : decode cX3_add 64 = .ok (.iconst 1, 1) := by decide +kernel
theorem dX3_add_65 : decode cX3_add 65 = .ok (.iadd, 1) := by decide +kernel
theorem dX3_add_66 : decode cX3_add 66 = .ok (.putfield 24, 3) := by decide +kernel
theorem dX3_add_69 : decode cX3_add 69 = .ok (.return_, 1) := by decide +kernel
theorem dX3_strike_0 : decode cX3_strike 0 = .ok (.aload_n 0, 1) := by decide +kernel
theorem dX3_strike_1 : decode cX3_strike 1 = .ok (.iload_n 1, 1) := by decide +kernel
theorem dX3_strike_2 : decode cX3_strike 2 = .ok (.invokevirtual 38, 3) := by decide +kernel
theorem dX3_strike_5 : decode cX3_strike 5 = .ok (.ifCond .ne 4, 3) := by decide +kernel
theorem dX3_strike_8 : decode cX3_strike 8 = .ok (.return_, 1) := by decide +kernel
theorem dX3_strike_9 : decode cX3_strike 9 = .ok (.aload_n 0, 1) := by decide +kernel
theorem dX3_strike_10 : decode cX3_strike 10 = .ok (.dup, 1) := by decide +kernel
theorem dX3_strike_11 : decode cX3_strike 11 = .ok (.getfield 24, 3) := by decide +kernel
theorem dX3_strike_14 : decode cX3_strike 14 = .ok (.iconst 1, 1) := by decide +kernel
theorem dX3_strike_15 : decode cX3_strike 15 = .ok (.isub, 1) := by decide +kernel
theorem dX3_strike_16 : decode cX3_strike 16 = .ok (.putfield 24, 3) := by decide +kernel
theorem dX3_strike_19 : decode cX3_strike 19 = .ok (.iload_n 1, 1) := by decide +kernel
theorem dX3_strike_20 : decode cX3_strike 20 = .ok (.istore_n 2, 1) := by decide +kernel
theorem dX3_strike_21 : decode cX3_strike 21 = .ok (.iload_n 2, 1) := by decide +kernel
theorem dX3_strike_22 : decode cX3_strike 22 = .ok (.aload_n 0, 1) := by decide +kernel
theorem dX3_strike_23 : decode cX3_strike 23 = .ok (.getfield 24, 3) := by decide +kernel
theorem dX3_strike_26 : decode cX3_strike 26 = .ok (.if_icmp .ge 65, 3) := by decide +kernel
theorem dX3_strike_29 : decode cX3_strike 29 = .ok (.aload_n 0, 1) := by decide +kernel
theorem dX3_strike_30 : decode cX3_strike 30 = .ok (.getfield 9, 3) := by decide +kernel
theorem dX3_strike_33 : decode cX3_strike 33 = .ok (.iload_n 2, 1) := by decide +kernel
theorem dX3_strike_34 : decode cX3_strike 34 = .ok (.aload_n 0, 1) := by decide +kernel
theorem dX3_strike_35 : decode cX3_strike 35 = .ok (.getfield 9, 3) := by decide +kernel
theorem dX3_strike_38 : decode cX3_strike 38 = .ok (.iload_n 2, 1) := by decide +kernel
theorem dX3_strike_39 : decode cX3_strike 39 = .ok (.iconst 1, 1) := by decide +kernel
theorem dX3_strike_40 : decode cX3_strike 40 = .ok (.iadd, 1) := by decide +kernel
theorem dX3_strike_41 : decode cX3_strike 41 = .ok (.iaload, 1) := by decide +kernel
theorem dX3_strike_42 : decode cX3_strike 42 = .ok (.iastore, 1) := by decide +kernel
theorem dX3_strike_43 : decode cX3_strike 43 = .ok (.aload_n 0, 1) := by decide +kernel
theorem dX3_strike_44 : decode cX3_strike 44 = .ok (.getfield 15, 3) := by decide +kernel
theorem dX3_strike_47 : decode cX3_strike 47 = .ok (.iload_n 2, 1) := by decide +kernel
theorem dX3_strike_48 : decode cX3_strike 48 = .ok (.aload_n 0, 1) := by decide +kernel
theorem dX3_strike_49 : decode cX3_strike 49 = .ok (.getfield 15, 3) := by decide +kernel
theorem dX3_strike_52 : decode cX3_strike 52 = .ok (.iload_n 2, 1) := by decide +kernel
theorem dX3_strike_53 : decode cX3_strike 53 = .ok (.iconst 1, 1) := by decide +kernel
theorem dX3_strike_54 : decode cX3_strike 54 = .ok (.iadd, 1) := by decide +kernel
theorem dX3_strike_55 : decode cX3_strike 55 = .ok (.iaload, 1) := by decide +kernel
theorem dX3_strike_56 : decode cX3_strike 56 = .ok (.iastore, 1) := by decide +kernel
theorem dX3_strike_57 : decode cX3_strike 57 = .ok (.aload_n 0, 1) := by decide +kernel
theorem dX3_strike_58 : decode cX3_strike 58 = .ok (.getfield 18, 3) := by decide +kernel
theorem dX3_strike_61 : decode cX3_strike 61 = .ok (.iload_n 2, 1) := by decide +kernel
theorem dX3_strike_62 : decode cX3_strike 62 = .ok (.aload_n 0, 1) := by decide +kernel
theorem dX3_strike_63 : decode cX3_strike 63 = .ok (.getfield 18, 3) := by decide +kernel
theorem dX3_strike_66 : decode cX3_strike 66 = .ok (.iload_n 2, 1) := by decide +kernel
theorem dX3_strike_67 : decode cX3_strike 67 = .ok (.iconst 1, 1) := by decide +kernel
theorem dX3_strike_68 : decode cX3_strike 68 = .ok (.iadd, 1) := by decide +kernel
theorem dX3_strike_69 : decode cX3_strike 69 = .ok (.iaload, 1) := by decide +kernel
theorem dX3_strike_70 : decode cX3_strike 70 = .ok (.iastore, 1) := by decide +kernel
theorem dX3_strike_71 : decode cX3_strike 71 = .ok (.aload_n 0, 1) := by decide +kernel
theorem dX3_strike_72 : decode cX3_strike 72 = .ok (.getfield 21, 3) := by decide +kernel
theorem dX3_strike_75 : decode cX3_strike 75 = .ok (.iload_n 2, 1) := by decide +kernel
theorem dX3_strike_76 : decode cX3_strike 76 = .ok (.aload_n 0, 1) := by decide +kernel
theorem dX3_strike_77 : decode cX3_strike 77 = .ok (.getfield 21, 3) := by decide +kernel
theorem dX3_strike_80 : decode cX3_strike 80 = .ok (.iload_n 2, 1) := by decide +kernel
theorem dX3_strike_81 : decode cX3_strike 81 = .ok (.iconst 1, 1) := by decide +kernel
theorem dX3_strike_82 : decode cX3_strike 82 = .ok (.iadd, 1) := by decide +kernel
theorem dX3_strike_83 : decode cX3_strike 83 = .ok (.iaload, 1) := by decide +kernel
theorem dX3_strike_84 : decode cX3_strike 84 = .ok (.iastore, 1) := by decide +kernel
theorem dX3_strike_85 : decode cX3_strike 85 = .ok (.iinc 2 1, 3) := by decide +kernel
theorem dX3_strike_88 : decode cX3_strike 88 = .ok (.goto (-67), 3) := by decide +kernel
theorem dX3_strike_91 : decode cX3_strike 91 = .ok (.return_, 1) := by decide +kernel
theorem dX3_touched_0 : decode cX3_touched 0 = .ok (.iconst 0, 1) := by decide +kernel
theorem dX3_touched_1 : decode cX3_touched 1 = .ok (.istore_n 1, 1) := by decide +kernel
theorem dX3_touched_2 : decode cX3_touched 2 = .ok (.iconst 0, 1) := by decide +kernel
theorem dX3_touched_3 : decode cX3_touched 3 = .ok (.istore_n 2, 1) := by decide +kernel
theorem dX3_touched_4 : decode cX3_touched 4 = .ok (.iload_n 2, 1) := by decide +kernel
theorem dX3_touched_5 : decode cX3_touched 5 = .ok (.aload_n 0, 1) := by decide +kernel
theorem dX3_touched_6 : decode cX3_touched 6 = .ok (.getfield 24, 3) := by decide +kernel
theorem dX3_touched_9 : decode cX3_touched 9 = .ok (.if_icmp .ge 20, 3) := by decide +kernel
theorem dX3_touched_12 : decode cX3_touched 12 = .ok (.iload_n 1, 1) := by decide +kernel
theorem dX3_touched_13 : decode cX3_touched 13 = .ok (.iconst 1, 1) := by decide +kernel
theorem dX3_touched_14 : decode cX3_touched 14 = .ok (.aload_n 0, 1) := by decide +kernel
theorem dX3_touched_15 : decode cX3_touched 15 = .ok (.getfield 9, 3) := by decide +kernel
theorem dX3_touched_18 : decode cX3_touched 18 = .ok (.iload_n 2, 1) := by decide +kernel
theorem dX3_touched_19 : decode cX3_touched 19 = .ok (.iaload, 1) := by decide +kernel
theorem dX3_touched_20 : decode cX3_touched 20 = .ok (.ishl, 1) := by decide +kernel
theorem dX3_touched_21 : decode cX3_touched 21 = .ok (.ior, 1) := by decide +kernel
theorem dX3_touched_22 : decode cX3_touched 22 = .ok (.istore_n 1, 1) := by decide +kernel
theorem dX3_touched_23 : decode cX3_touched 23 = .ok (.iinc 2 1, 3) := by decide +kernel
theorem dX3_touched_26 : decode cX3_touched 26 = .ok (.goto (-22), 3) := by decide +kernel
theorem dX3_touched_29 : decode cX3_touched 29 = .ok (.iload_n 1, 1) := by decide +kernel
theorem dX3_touched_30 : decode cX3_touched 30 = .ok (.ireturn, 1) := by decide +kernel
theorem dX3_reach_0 : decode cX3_reach 0 = .ok (.iconst 1, 1) := by decide +kernel
theorem dX3_reach_1 : decode cX3_reach 1 = .ok (.iload_n 1, 1) := by decide +kernel
theorem dX3_reach_2 : decode cX3_reach 2 = .ok (.ishl, 1) := by decide +kernel
theorem dX3_reach_3 : decode cX3_reach 3 = .ok (.istore_n 2, 1) := by decide +kernel
theorem dX3_reach_4 : decode cX3_reach 4 = .ok (.iconst 0, 1) := by decide +kernel
theorem dX3_reach_5 : decode cX3_reach 5 = .ok (.istore_n 3, 1) := by decide +kernel
theorem dX3_reach_6 : decode cX3_reach 6 = .ok (.iload_n 3, 1) := by decide +kernel
theorem dX3_reach_7 : decode cX3_reach 7 = .ok (.bipush 10, 2) := by decide +kernel
theorem dX3_reach_9 : decode cX3_reach 9 = .ok (.if_icmp .ge 53, 3) := by decide +kernel
theorem dX3_reach_12 : decode cX3_reach 12 = .ok (.iconst 0, 1) := by decide +kernel
theorem dX3_reach_13 : decode cX3_reach 13 = .ok (.istore 4, 2) := by decide +kernel
theorem dX3_reach_15 : decode cX3_reach 15 = .ok (.iload 4, 2) := by decide +kernel
theorem dX3_reach_17 : decode cX3_reach 17 = .ok (.aload_n 0, 1) := by decide +kernel
theorem dX3_reach_18 : decode cX3_reach 18 = .ok (.getfield 24, 3) := by decide +kernel
theorem dX3_reach_21 : decode cX3_reach 21 = .ok (.if_icmp .ge 35, 3) := by decide +kernel
theorem dX3_reach_24 : decode cX3_reach 24 = .ok (.iload_n 2, 1) := by decide +kernel
theorem dX3_reach_25 : decode cX3_reach 25 = .ok (.aload_n 0, 1) := by decide +kernel
theorem dX3_reach_26 : decode cX3_reach 26 = .ok (.getfield 9, 3) := by decide +kernel
theorem dX3_reach_29 : decode cX3_reach 29 = .ok (.iload 4, 2) := by decide +kernel
theorem dX3_reach_31 : decode cX3_reach 31 = .ok (.iaload, 1) := by decide +kernel
theorem dX3_reach_32 : decode cX3_reach 32 = .ok (.ishr, 1) := by decide +kernel
theorem dX3_reach_33 : decode cX3_reach 33 = .ok (.iconst 1, 1) := by decide +kernel
theorem dX3_reach_34 : decode cX3_reach 34 = .ok (.iand, 1) := by decide +kernel
theorem dX3_reach_35 : decode cX3_reach 35 = .ok (.ifCond .eq 15, 3) := by decide +kernel
theorem dX3_reach_38 : decode cX3_reach 38 = .ok (.iload_n 2, 1) := by decide +kernel
theorem dX3_reach_39 : decode cX3_reach 39 = .ok (.iconst 1, 1) := by decide +kernel
theorem dX3_reach_40 : decode cX3_reach 40 = .ok (.aload_n 0, 1) := by decide +kernel
theorem dX3_reach_41 : decode cX3_reach 41 = .ok (.getfield 15, 3) := by decide +kernel
theorem dX3_reach_44 : decode cX3_reach 44 = .ok (.iload 4, 2) := by decide +kernel
theorem dX3_reach_46 : decode cX3_reach 46 = .ok (.iaload, 1) := by decide +kernel
theorem dX3_reach_47 : decode cX3_reach 47 = .ok (.ishl, 1) := by decide +kernel
theorem dX3_reach_48 : decode cX3_reach 48 = .ok (.ior, 1) := by decide +kernel
theorem dX3_reach_49 : decode cX3_reach 49 = .ok (.istore_n 2, 1) := by decide +kernel
theorem dX3_reach_50 : decode cX3_reach 50 = .ok (.iinc 4 1, 3) := by decide +kernel
theorem dX3_reach_53 : decode cX3_reach 53 = .ok (.goto (-38), 3) := by decide +kernel
theorem dX3_reach_56 : decode cX3_reach 56 = .ok (.iinc 3 1, 3) := by decide +kernel
theorem dX3_reach_59 : decode cX3_reach 59 = .ok (.goto (-53), 3) := by decide +kernel
theorem dX3_reach_62 : decode cX3_reach 62 = .ok (.iload_n 2, 1) := by decide +kernel
theorem dX3_reach_63 : decode cX3_reach 63 = .ok (.ireturn, 1) := by decide +kernel
theorem dX4_init_0 : decode cX4_init 0 = .ok (.aload_n 0, 1) := by decide +kernel
theorem dX4_init_1 : decode cX4_init 1 = .ok (.invokespecial 3, 3) := by decide +kernel
theorem dX4_init_4 : decode cX4_init 4 = .ok (.aload_n 0, 1) := by decide +kernel
theorem dX4_init_5 : decode cX4_init 5 = .ok (.bipush 60, 2) := by decide +kernel
theorem dX4_init_7 : decode cX4_init 7 = .ok (.newarray .int, 2) := by decide +kernel
theorem dX4_init_9 : decode cX4_init 9 = .ok (.putfield 11, 3) := by decide +kernel
theorem dX4_init_12 : decode cX4_init 12 = .ok (.return_, 1) := by decide +kernel
theorem dX4_goThrough_0 : decode cX4_goThrough 0 = .ok (.aload_n 0, 1) := by decide +kernel
theorem dX4_goThrough_1 : decode cX4_goThrough 1 = .ok (.iconst 1, 1) := by decide +kernel
theorem dX4_goThrough_2 : decode cX4_goThrough 2 = .ok (.putfield 17, 3) := by decide +kernel
theorem dX4_goThrough_5 : decode cX4_goThrough 5 = .ok (.aload_n 0, 1) := by decide +kernel
theorem dX4_goThrough_6 : decode cX4_goThrough 6 = .ok (.iconst 0, 1) := by decide +kernel
theorem dX4_goThrough_7 : decode cX4_goThrough 7 = .ok (.putfield 21, 3) := by decide +kernel
theorem dX4_goThrough_10 : decode cX4_goThrough 10 = .ok (.aload_n 0, 1) := by decide +kernel
theorem dX4_goThrough_11 : decode cX4_goThrough 11 = .ok (.iconst 0, 1) := by decide +kernel
theorem dX4_goThrough_12 : decode cX4_goThrough 12 = .ok (.putfield 25, 3) := by decide +kernel
theorem dX4_goThrough_15 : decode cX4_goThrough 15 = .ok (.aload_n 0, 1) := by decide +kernel
theorem dX4_goThrough_16 : decode cX4_goThrough 16 = .ok (.iconst 0, 1) := by decide +kernel
theorem dX4_goThrough_17 : decode cX4_goThrough 17 = .ok (.putfield 28, 3) := by decide +kernel
theorem dX4_goThrough_20 : decode cX4_goThrough 20 = .ok (.aload_n 0, 1) := by decide +kernel
theorem dX4_goThrough_21 : decode cX4_goThrough 21 = .ok (.iconst 0, 1) := by decide +kernel
theorem dX4_goThrough_22 : decode cX4_goThrough 22 = .ok (.putfield 31, 3) := by decide +kernel
theorem dX4_goThrough_25 : decode cX4_goThrough 25 = .ok (.aload_n 0, 1) := by decide +kernel
theorem dX4_goThrough_26 : decode cX4_goThrough 26 = .ok (.iconst 0, 1) := by decide +kernel
theorem dX4_goThrough_27 : decode cX4_goThrough 27 = .ok (.putfield 34, 3) := by decide +kernel
theorem dX4_goThrough_30 : decode cX4_goThrough 30 = .ok (.aload_n 0, 1) := by decide +kernel
theorem dX4_goThrough_31 : decode cX4_goThrough 31 = .ok (.iconst 0, 1) := by decide +kernel
theorem dX4_goThrough_32 : decode cX4_goThrough 32 = .ok (.putfield 37, 3) := by decide +kernel
theorem dX4_goThrough_35 : decode cX4_goThrough 35 = .ok (.aload_n 0, 1) := by decide +kernel
theorem dX4_goThrough_36 : decode cX4_goThrough 36 = .ok (.iload_n 3, 1) := by decide +kernel
theorem dX4_goThrough_37 : decode cX4_goThrough 37 = .ok (.putfield 40, 3) := by decide +kernel
theorem dX4_goThrough_40 : decode cX4_goThrough 40 = .ok (.iconst 0, 1) := by decide +kernel
theorem dX4_goThrough_41 : decode cX4_goThrough 41 = .ok (.istore 4, 2) := by decide +kernel
theorem dX4_goThrough_43 : decode cX4_goThrough 43 = .ok (.iconst 0, 1) := by decide +kernel
theorem dX4_goThrough_44 : decode cX4_goThrough 44 = .ok (.istore 5, 2) := by decide +kernel
theorem dX4_goThrough_46 : decode cX4_goThrough 46 = .ok (.iload 5, 2) := by decide +kernel
theorem dX4_goThrough_48 : decode cX4_goThrough 48 = .ok (.ldc 43, 2) := by decide +kernel
theorem dX4_goThrough_50 : decode cX4_goThrough 50 = .ok (.if_icmp .ge 84, 3) := by decide +kernel
theorem dX4_goThrough_53 : decode cX4_goThrough 53 = .ok (.iload 4, 2) := by decide +kernel
theorem dX4_goThrough_55 : decode cX4_goThrough 55 = .ok (.iconst 0, 1) := by decide +kernel
theorem dX4_goThrough_56 : decode cX4_goThrough 56 = .ok (.aload_n 2, 1) := by decide +kernel
theorem dX4_goThrough_57 : decode cX4_goThrough 57 = .ok (.getfield 44, 3) := by decide +kernel
theorem dX4_goThrough_60 : decode cX4_goThrough 60 = .ok (.iconst 1, 1) := by decide +kernel
theorem dX4_goThrough_61 : decode cX4_goThrough 61 = .ok (.isub, 1) := by decide +kernel
theorem dX4_goThrough_62 : decode cX4_goThrough 62 = .ok (.invokestatic 47, 3) := by decide +kernel
theorem dX4_goThrough_65 : decode cX4_goThrough 65 = .ok (.ifCond .eq 69, 3) := by decide +kernel
theorem dX4_goThrough_68 : decode cX4_goThrough 68 = .ok (.aload_n 2, 1) := by decide +kernel
theorem dX4_goThrough_69 : decode cX4_goThrough 69 = .ok (.getfield 51, 3) := by decide +kernel
theorem dX4_goThrough_72 : decode cX4_goThrough 72 = .ok (.iload 4, 2) := by decide +kernel
theorem dX4_goThrough_74 : decode cX4_goThrough 74 = .ok (.iaload, 1) := by decide +kernel
theorem dX4_goThrough_75 : decode cX4_goThrough 75 = .ok (.bipush 26, 2) := by decide +kernel
theorem dX4_goThrough_77 : decode cX4_goThrough 77 = .ok (.if_icmp .ne 15, 3) := by decide +kernel
theorem dX4_goThrough_80 : decode cX4_goThrough 80 = .ok (.aload_n 0, 1) := by decide +kernel
theorem dX4_goThrough_81 : decode cX4_goThrough 81 = .ok (.aload_n 2, 1) := by decide +kernel
theorem dX4_goThrough_82 : decode cX4_goThrough 82 = .ok (.iload 4, 2) := by decide +kernel
theorem dX4_goThrough_84 : decode cX4_goThrough 84 = .ok (.invokevirtual 54, 3) := by decide +kernel
theorem dX4_goThrough_87 : decode cX4_goThrough 87 = .ok (.istore 4, 2) := by decide +kernel
theorem dX4_goThrough_89 : decode cX4_goThrough 89 = .ok (.goto 39, 3) := by decide +kernel
theorem dX4_goThrough_92 : decode cX4_goThrough 92 = .ok (.aload_n 0, 1) := by decide +kernel
theorem dX4_goThrough_93 : decode cX4_goThrough 93 = .ok (.getfield 21, 3) := by decide +kernel
theorem dX4_goThrough_96 : decode cX4_goThrough 96 = .ok (.sipush 300, 3) := by decide +kernel
theorem dX4_goThrough_99 : decode cX4_goThrough 99 = .ok (.if_icmp .lt 9, 3) := by decide +kernel
theorem dX4_goThrough_102 : decode cX4_goThrough 102 = .ok (.aload_n 0, 1) := by decide +kernel
theorem dX4_goThrough_103 : decode cX4_goThrough 103 = .ok (.iconst 1, 1) := by decide +kernel
theorem dX4_goThrough_104 : decode cX4_goThrough 104 = .ok (.putfield 37, 3) := by decide +kernel
theorem dX4_goThrough_107 : decode cX4_goThrough 107 = .ok (.return_, 1) := by decide +kernel
theorem dX4_goThrough_108 : decode cX4_goThrough 108 = .ok (.aload_n 0, 1) := by decide +kernel
theorem dX4_goThrough_109 : decode cX4_goThrough 109 = .ok (.dup, 1) := by decide +kernel
theorem dX4_goThrough_110 : decode cX4_goThrough 110 = .ok (.getfield 21, 3) := by decide +kernel
theorem dX4_goThrough_113 : decode cX4_goThrough 113 = .ok (.iconst 1, 1) := by decide +kernel
theorem dX4_goThrough_114 : decode cX4_goThrough 114 = .ok (.iadd, 1) := by decide +kernel
theorem dX4_goThrough_115 : decode cX4_goThrough 115 = .ok (.putfield 21, 3) := by decide +kernel
theorem dX4_goThrough_118 : decode cX4_goThrough 118 = .ok (.aload_n 0, 1) := by decide +kernel
theorem dX4_goThrough_119 : decode cX4_goThrough 119 = .ok (.aload_n 1, 1) := by decide +kernel
theorem dX4_goThrough_120 : decode cX4_goThrough 120 = .ok (.aload_n 2, 1) := by decide +kernel
theorem dX4_goThrough_121 : decode cX4_goThrough 121 = .ok (.iload 4, 2) := by decide +kernel
theorem dX4_goThrough_123 : decode cX4_goThrough 123 = .ok (.invokevirtual 58, 3) := by decide +kernel
theorem dX4_goThrough_126 : decode cX4_goThrough 126 = .ok (.istore 4, 2) := by decide +kernel
theorem dX4_goThrough_128 : decode cX4_goThrough 128 = .ok (.iinc 5 1, 3) := by decide +kernel
theorem dX4_goThrough_131 : decode cX4_goThrough 131 = .ok (.goto (-85), 3) := by decide +kernel
theorem dX4_goThrough_134 : decode cX4_goThrough 134 = .ok (.return_, 1) := by decide +kernel
theorem dX4_behindEnd_0 : decode cX4_behindEnd 0 = .ok (.aload_n 1, 1) := by decide +kernel
theorem dX4_behindEnd_1 : decode cX4_behindEnd 1 = .ok (.getfield 62, 3) := by decide +kernel
theorem dX4_behindEnd_4 : decode cX4_behindEnd 4 = .ok (.iload_n 2, 1) := by decide +kernel
theorem dX4_behindEnd_5 : decode cX4_behindEnd 5 = .ok (.iaload, 1) := by decide +kernel
theorem dX4_behindEnd_6 : decode cX4_behindEnd 6 = .ok (.istore_n 3, 1) := by decide +kernel
theorem dX4_behindEnd_7 : decode cX4_behindEnd 7 = .ok (.aload_n 1, 1) := by decide +kernel
theorem dX4_behindEnd_8 : decode cX4_behindEnd 8 = .ok (.getfield 51, 3) := by decide +kernel
theorem dX4_behindEnd_11 : decode cX4_behindEnd 11 = .ok (.iload_n 3, 1) := by decide +kernel
theorem dX4_behindEnd_12 : decode cX4_behindEnd 12 = .ok (.iaload, 1) := by decide +kernel
theorem dX4_behindEnd_13 : decode cX4_behindEnd 13 = .ok (.bipush 25, 2) := by decide +kernel
theorem dX4_behindEnd_15 : decode cX4_behindEnd 15 = .ok (.if_icmp .eq 7, 3) := by decide +kernel
theorem dX4_behindEnd_18 : decode cX4_behindEnd 18 = .ok (.iload_n 2, 1) := by decide +kernel
theorem dX4_behindEnd_19 : decode cX4_behindEnd 19 = .ok (.iconst 1, 1) := by decide +kernel
theorem dX4_behindEnd_20 : decode cX4_behindEnd 20 = .ok (.iadd, 1) := by decide +kernel
theorem dX4_behindEnd_21 : decode cX4_behindEnd 21 = .ok (.ireturn, 1) := by decide +kernel
theorem dX4_behindEnd_22 : decode cX4_behindEnd 22 = .ok (.aload_n 0, 1) := by decide +kernel
theorem dX4_behindEnd_23 : decode cX4_behindEnd 23 = .ok (.getfield 11, 3) := by decide +kernel
theorem dX4_behindEnd_26 : decode cX4_behindEnd 26 = .ok (.iload_n 3, 1) := by decide +kernel
theorem dX4_behindEnd_27 : decode cX4_behindEnd 27 = .ok (.dup2, 1) := by decide +kernel
theorem dX4_behindEnd_28 : decode cX4_behindEnd 28 = .ok (.iaload, 1) := by decide +kernel
theorem dX4_behindEnd_29 : decode cX4_behindEnd 29 = .ok (.iconst 1, 1) := by decide +kernel
theorem dX4_behindEnd_30 : decode cX4_behindEnd 30 = .ok (.isub, 1) := by decide +kernel
theorem dX4_behindEnd_31 : decode cX4_behindEnd 31 = .ok (.iastore, 1) := by decide +kernel
theorem dX4_behindEnd_32 : decode cX4_behindEnd 32 = .ok (.aload_n 0, 1) := by decide +kernel
theorem dX4_behindEnd_33 : decode cX4_behindEnd 33 = .ok (.getfield 11, 3) := by decide +kernel
theorem dX4_behindEnd_36 : decode cX4_behindEnd 36 = .ok (.iload_n 3, 1) := by decide +kernel
theorem dX4_behindEnd_37 : decode cX4_behindEnd 37 = .ok (.iaload, 1) := by decide +kernel
theorem dX4_behindEnd_38 : decode cX4_behindEnd 38 = .ok (.ifCond .le 9, 3) := by decide +kernel
theorem dX4_behindEnd_41 : decode cX4_behindEnd 41 = .ok (.iload_n 3, 1) := by decide +kernel
theorem dX4_behindEnd_42 : decode cX4_behindEnd 42 = .ok (.iconst 1, 1) := by decide +kernel
theorem dX4_behindEnd_43 : decode cX4_behindEnd 43 = .ok (.iadd, 1) := by decide +kernel
theorem dX4_behindEnd_44 : decode cX4_behindEnd 44 = .ok (.goto 6, 3) := by decide +kernel
theorem dX4_behindEnd_47 : decode cX4_behindEnd 47 = .ok (.iload_n 2, 1) := by decide +kernel
theorem dX4_behindEnd_48 : decode cX4_behindEnd 48 = .ok (.iconst 1, 1) := by decide +kernel
theorem dX4_behindEnd_49 : decode cX4_behindEnd 49 = .ok (.iadd, 1) := by decide +kernel
theorem dX4_behindEnd_50 : decode cX4_behindEnd 50 = .ok (.ireturn, 1) := by decide +kernel
theorem dX4_behindOrder_0 : decode cX4_behindOrder 0 = .ok (.aload_n 2, 1) := by decide +kernel
theorem dX4_behindOrder_1 : decode cX4_behindOrder 1 = .ok (.getfield 65, 3) := by decide +kernel
theorem dX4_behindOrder_4 : decode cX4_behindOrder 4 = .ok (.iload_n 3, 1) := by decide +kernel
theorem dX4_behindOrder_5 : decode cX4_behindOrder 5 = .ok (.iaload, 1) := by decide +kernel
theorem dX4_behindOrder_6 : decode cX4_behindOrder 6 = .ok (.istore 4, 2) := by decide +kernel
theorem dX4_behindOrder_8 : decode cX4_behindOrder 8 = .ok (.aload_n 2, 1) := by decide +kernel
theorem dX4_behindOrder_9 : decode cX4_behindOrder 9 = .ok (.getfield 51, 3) := by decide +kernel
theorem dX4_behindOrder_12 : decode cX4_behindOrder 12 = .ok (.iload_n 3, 1) := by decide +kernel
theorem dX4_behindOrder_13 : decode cX4_behindOrder 13 = .ok (.iaload, 1) := by decide +kernel
theorem dX4_behindOrder_14 : decode cX4_behindOrder 14 = .ok (.tableswitch 199 13 27 #[74, 199, 199, 199, 85, 96, 111, 126, 199, 199, 199, 199, 182, 199, 194], 74) := by decide +kernel
theorem dX4_behindOrder_88 : decode cX4_behindOrder 88 = .ok (.aload_n 0, 1) := by decide +kernel
theorem dX4_behindOrder_89 : decode cX4_behindOrder 89 = .ok (.aload_n 1, 1) := by decide +kernel
theorem dX4_behindOrder_90 : decode cX4_behindOrder 90 = .ok (.iload 4, 2) := by decide +kernel
theorem dX4_behindOrder_92 : decode cX4_behindOrder 92 = .ok (.invokevirtual 68, 3) := by decide +kernel
theorem dX4_behindOrder_95 : decode cX4_behindOrder 95 = .ok (.iload_n 3, 1) := by decide +kernel
theorem dX4_behindOrder_96 : decode cX4_behindOrder 96 = .ok (.iconst 1, 1) := by decide +kernel
theorem dX4_behindOrder_97 : decode cX4_behindOrder 97 = .ok (.iadd, 1) := by decide +kernel
theorem dX4_behindOrder_98 : decode cX4_behindOrder 98 = .ok (.ireturn, 1) := by decide +kernel
theorem dX4_behindOrder_99 : decode cX4_behindOrder 99 = .ok (.aload_n 0, 1) := by decide +kernel
theorem dX4_behindOrder_100 : decode cX4_behindOrder 100 = .ok (.aload_n 1, 1) := by decide +kernel
theorem dX4_behindOrder_101 : decode cX4_behindOrder 101 = .ok (.iload 4, 2) := by decide +kernel
theorem dX4_behindOrder_103 : decode cX4_behindOrder 103 = .ok (.invokevirtual 72, 3) := by decide +kernel
theorem dX4_behindOrder_106 : decode cX4_behindOrder 106 = .ok (.iload_n 3, 1) := by decide +kernel
theorem dX4_behindOrder_107 : decode cX4_behindOrder 107 = .ok (.iconst 1, 1) := by decide +kernel
theorem dX4_behindOrder_108 : decode cX4_behindOrder 108 = .ok (.iadd, 1) := by decide +kernel
theorem dX4_behindOrder_109 : decode cX4_behindOrder 109 = .ok (.ireturn, 1) := by decide +kernel
theorem dX4_behindOrder_110 : decode cX4_behindOrder 110 = .ok (.aload_n 0, 1) := by decide +kernel
theorem dX4_behindOrder_111 : decode cX4_behindOrder 111 = .ok (.aload_n 1, 1) := by decide +kernel
theorem dX4_behindOrder_112 : decode cX4_behindOrder 112 = .ok (.aload_n 2, 1) := by decide +kernel
theorem dX4_behindOrder_113 : decode cX4_behindOrder 113 = .ok (.getfield 75, 3) := by decide +kernel
theorem dX4_behindOrder_116 : decode cX4_behindOrder 116 = .ok (.iload_n 3, 1) := by decide +kernel
theorem dX4_behindOrder_117 : decode cX4_behindOrder 117 = .ok (.iaload, 1) := by decide +kernel
theorem dX4_behindOrder_118 : decode cX4_behindOrder 118 = .ok (.invokevirtual 78, 3) := by decide +kernel
theorem dX4_behindOrder_121 : decode cX4_behindOrder 121 = .ok (.iload_n 3, 1) := by decide +kernel
theorem dX4_behindOrder_122 : decode cX4_behindOrder 122 = .ok (.iconst 1, 1) := by decide +kernel
theorem dX4_behindOrder_123 : decode cX4_behindOrder 123 = .ok (.iadd, 1) := by decide +kernel
theorem dX4_behindOrder_124 : decode cX4_behindOrder 124 = .ok (.ireturn, 1) := by decide +kernel
theorem dX4_behindOrder_125 : decode cX4_behindOrder 125 = .ok (.aload_n 0, 1) := by decide +kernel
theorem dX4_behindOrder_126 : decode cX4_behindOrder 126 = .ok (.aload_n 1, 1) := by decide +kernel
theorem dX4_behindOrder_127 : decode cX4_behindOrder 127 = .ok (.aload_n 2, 1) := by decide +kernel
theorem dX4_behindOrder_128 : decode cX4_behindOrder 128 = .ok (.getfield 75, 3) := by decide +kernel
theorem dX4_behindOrder_131 : decode cX4_behindOrder 131 = .ok (.iload_n 3, 1) := by decide +kernel
theorem dX4_behindOrder_132 : decode cX4_behindOrder 132 = .ok (.iaload, 1) := by decide +kernel
theorem dX4_behindOrder_133 : decode cX4_behindOrder 133 = .ok (.invokevirtual 81, 3) := by decide +kernel
theorem dX4_behindOrder_136 : decode cX4_behindOrder 136 = .ok (.iload_n 3, 1) := by decide +kernel
theorem dX4_behindOrder_137 : decode cX4_behindOrder 137 = .ok (.iconst 1, 1) := by decide +kernel
theorem dX4_behindOrder_138 : decode cX4_behindOrder 138 = .ok (.iadd, 1) := by decide +kernel
theorem dX4_behindOrder_139 : decode cX4_behindOrder 139 = .ok (.ireturn, 1) := by decide +kernel
theorem dX4_behindOrder_140 : decode cX4_behindOrder 140 = .ok (.aload_n 1, 1) := by decide +kernel
theorem dX4_behindOrder_141 : decode cX4_behindOrder 141 = .ok (.getfield 84, 3) := by decide +kernel
theorem dX4_behindOrder_144 : decode cX4_behindOrder 144 = .ok (.ifCond .ne 16, 3) := by decide +kernel
theorem dX4_behindOrder_147 : decode cX4_behindOrder 147 = .ok (.aload_n 0, 1) := by decide +kernel
theorem dX4_behindOrder_148 : decode cX4_behindOrder 148 = .ok (.dup, 1) := by decide +kernel
theorem dX4_behindOrder_149 : decode cX4_behindOrder 149 = .ok (.getfield 25, 3) := by decide +kernel
theorem dX4_behindOrder_152 : decode cX4_behindOrder 152 = .ok (.iconst 1, 1) := by decide +kernel
theorem dX4_behindOrder_153 : decode cX4_behindOrder 153 = .ok (.iadd, 1) := by decide +kernel
theorem dX4_behindOrder_154 : decode cX4_behindOrder 154 = .ok (.putfield 25, 3) := by decide +kernel
theorem dX4_behindOrder_157 : decode cX4_behindOrder 157 = .ok (.goto 35, 3) := by decide +kernel
theorem dX4_behindOrder_160 : decode cX4_behindOrder 160 = .ok (.aload_n 0, 1) := by decide +kernel
theorem dX4_behindOrder_161 : decode cX4_behindOrder 161 = .ok (.bipush 16, 2) := by decide +kernel
theorem dX4_behindOrder_163 : decode cX4_behindOrder 163 = .ok (.invokevirtual 89, 3) := by decide +kernel
theorem dX4_behindOrder_166 : decode cX4_behindOrder 166 = .ok (.aload_n 1, 1) := by decide +kernel
theorem dX4_behindOrder_167 : decode cX4_behindOrder 167 = .ok (.getfield 93, 3) := by decide +kernel
theorem dX4_behindOrder_170 : decode cX4_behindOrder 170 = .ok (.if_icmp .ge 12, 3) := by decide +kernel
theorem dX4_behindOrder_173 : decode cX4_behindOrder 173 = .ok (.aload_n 0, 1) := by decide +kernel
theorem dX4_behindOrder_174 : decode cX4_behindOrder 174 = .ok (.aload_n 1, 1) := by decide +kernel
theorem dX4_behindOrder_175 : decode cX4_behindOrder 175 = .ok (.iconst 1, 1) := by decide +kernel
theorem dX4_behindOrder_176 : decode cX4_behindOrder 176 = .ok (.invokevirtual 72, 3) := by decide +kernel
theorem dX4_behindOrder_179 : decode cX4_behindOrder 179 = .ok (.goto 13, 3) := by decide +kernel
theorem dX4_behindOrder_182 : decode cX4_behindOrder 182 = .ok (.aload_n 0, 1) := by decide +kernel
theorem dX4_behindOrder_183 : decode cX4_behindOrder 183 = .ok (.aload_n 1, 1) := by decide +kernel
theorem dX4_behindOrder_184 : decode cX4_behindOrder 184 = .ok (.aload_n 0, 1) := by decide +kernel
theorem dX4_behindOrder_185 : decode cX4_behindOrder 185 = .ok (.iconst 5, 1) := by decide +kernel
theorem dX4_behindOrder_186 : decode cX4_behindOrder 186 = .ok (.invokevirtual 89, 3) := by decide +kernel
theorem dX4_behindOrder_189 : decode cX4_behindOrder 189 = .ok (.invokevirtual 68, 3) := by decide +kernel
theorem dX4_behindOrder_192 : decode cX4_behindOrder 192 = .ok (.iload_n 3, 1) := by decide +kernel
theorem dX4_behindOrder_193 : decode cX4_behindOrder 193 = .ok (.iconst 1, 1) := by decide +kernel
theorem dX4_behindOrder_194 : decode cX4_behindOrder 194 = .ok (.iadd, 1) := by decide +kernel
theorem dX4_behindOrder_195 : decode cX4_behindOrder 195 = .ok (.ireturn, 1) := by decide +kernel
theorem dX4_behindOrder_196 : decode cX4_behindOrder 196 = .ok (.aload_n 0, 1) := by decide +kernel
theorem dX4_behindOrder_197 : decode cX4_behindOrder 197 = .ok (.getfield 11, 3) := by decide +kernel
theorem dX4_behindOrder_200 : decode cX4_behindOrder 200 = .ok (.iload_n 3, 1) := by decide +kernel
theorem dX4_behindOrder_201 : decode cX4_behindOrder 201 = .ok (.iload 4, 2) := by decide +kernel
theorem dX4_behindOrder_203 : decode cX4_behindOrder 203 = .ok (.iastore, 1) := by decide +kernel
theorem dX4_behindOrder_204 : decode cX4_behindOrder 204 = .ok (.iload_n 3, 1) := by decide +kernel
theorem dX4_behindOrder_205 : decode cX4_behindOrder 205 = .ok (.iconst 1, 1) := by decide +kernel
theorem dX4_behindOrder_206 : decode cX4_behindOrder 206 = .ok (.iadd, 1) := by decide +kernel
theorem dX4_behindOrder_207 : decode cX4_behindOrder 207 = .ok (.ireturn, 1) := by decide +kernel
theorem dX4_behindOrder_208 : decode cX4_behindOrder 208 = .ok (.aload_n 2, 1) := by decide +kernel
theorem dX4_behindOrder_209 : decode cX4_behindOrder 209 = .ok (.getfield 44, 3) := by decide +kernel
theorem dX4_behindOrder_212 : decode cX4_behindOrder 212 = .ok (.ireturn, 1) := by decide +kernel
theorem dX4_behindOrder_213 : decode cX4_behindOrder 213 = .ok (.aload_n 1, 1) := by decide +kernel
theorem dX4_behindOrder_214 : decode cX4_behindOrder 214 = .ok (.aload_n 2, 1) := by decide +kernel
theorem dX4_behindOrder_215 : decode cX4_behindOrder 215 = .ok (.iload_n 3, 1) := by decide +kernel
theorem dX4_behindOrder_216 : decode cX4_behindOrder 216 = .ok (.invokestatic 96, 3) := by decide +kernel
theorem dX4_behindOrder_219 : decode cX4_behindOrder 219 = .ok (.ifCond .eq 9, 3) := by decide +kernel
theorem dX4_behindOrder_222 : decode cX4_behindOrder 222 = .ok (.iload_n 3, 1) := by decide +kernel
theorem dX4_behindOrder_223 : decode cX4_behindOrder 223 = .ok (.iconst 1, 1) := by decide +kernel
theorem dX4_behindOrder_224 : decode cX4_behindOrder 224 = .ok (.iadd, 1) := by decide +kernel
theorem dX4_behindOrder_225 : decode cX4_behindOrder 225 = .ok (.goto 11, 3) := by decide +kernel
theorem dX4_behindOrder_228 : decode cX4_behindOrder 228 = .ok (.aload_n 2, 1) := by decide +kernel
theorem dX4_behindOrder_229 : decode cX4_behindOrder 229 = .ok (.getfield 62, 3) := by decide +kernel
theorem dX4_behindOrder_232 : decode cX4_behindOrder 232 = .ok (.iload_n 3, 1) := by decide +kernel
theorem dX4_behindOrder_233 : decode cX4_behindOrder 233 = .ok (.iaload, 1) := by decide +kernel
theorem dX4_behindOrder_234 : decode cX4_behindOrder 234 = .ok (.iconst 1, 1) := by decide +kernel
theorem dX4_behindOrder_235 : decode cX4_behindOrder 235 = .ok (.iadd, 1) := by decide +kernel
theorem dX4_behindOrder_236 : decode cX4_behindOrder 236 = .ok (.ireturn, 1) := by decide +kernel
theorem dX4_goOneWay_0 : decode cX4_goOneWay 0 = .ok (.aload_n 1, 1) := by decide +kernel
theorem dX4_goOneWay_1 : decode cX4_goOneWay 1 = .ok (.aload_n 1, 1) := by decide +kernel
theorem dX4_goOneWay_2 : decode cX4_goOneWay 2 = .ok (.getfield 100, 3) := by decide +kernel
theorem dX4_goOneWay_5 : decode cX4_goOneWay 5 = .ok (.iload_n 2, 1) := by decide +kernel
theorem dX4_goOneWay_6 : decode cX4_goOneWay 6 = .ok (.invokevirtual 103, 3) := by decide +kernel
theorem dX4_goOneWay_9 : decode cX4_goOneWay 9 = .ok (.istore_n 3, 1) := by decide +kernel
theorem dX4_goOneWay_10 : decode cX4_goOneWay 10 = .ok (.iload_n 3, 1) := by decide +kernel
theorem dX4_goOneWay_11 : decode cX4_goOneWay 11 = .ok (.iconst (-1), 1) := by decide +kernel
theorem dX4_goOneWay_12 : decode cX4_goOneWay 12 = .ok (.if_icmp .eq 13, 3) := by decide +kernel
theorem dX4_goOneWay_15 : decode cX4_goOneWay 15 = .ok (.aload_n 1, 1) := by decide +kernel
theorem dX4_goOneWay_16 : decode cX4_goOneWay 16 = .ok (.getfield 107, 3) := by decide +kernel
theorem dX4_goOneWay_19 : decode cX4_goOneWay 19 = .ok (.sipush 9999, 3) := by decide +kernel
theorem dX4_goOneWay_22 : decode cX4_goOneWay 22 = .ok (.if_icmp .lt 14, 3) := by decide +kernel
theorem dX4_goOneWay_25 : decode cX4_goOneWay 25 = .ok (.aload_n 0, 1) := by decide +kernel
theorem dX4_goOneWay_26 : decode cX4_goOneWay 26 = .ok (.dup, 1) := by decide +kernel
theorem dX4_goOneWay_27 : decode cX4_goOneWay 27 = .ok (.getfield 25, 3) := by decide +kernel
theorem dX4_goOneWay_30 : decode cX4_goOneWay 30 = .ok (.iconst 1, 1) := by decide +kernel
theorem dX4_goOneWay_31 : decode cX4_goOneWay 31 = .ok (.iadd, 1) := by decide +kernel
theorem dX4_goOneWay_32 : decode cX4_goOneWay 32 = .ok (.putfield 25, 3) := by decide +kernel
theorem dX4_goOneWay_35 : decode cX4_goOneWay 35 = .ok (.return_, 1) := by decide +kernel
theorem dX4_goOneWay_36 : decode cX4_goOneWay 36 = .ok (.aload_n 1, 1) := by decide +kernel
theorem dX4_goOneWay_37 : decode cX4_goOneWay 37 = .ok (.iload_n 3, 1) := by decide +kernel
theorem dX4_goOneWay_38 : decode cX4_goOneWay 38 = .ok (.invokevirtual 110, 3) := by decide +kernel
theorem dX4_goOneWay_41 : decode cX4_goOneWay 41 = .ok (.aload_n 1, 1) := by decide +kernel
theorem dX4_goOneWay_42 : decode cX4_goOneWay 42 = .ok (.iconst 1, 1) := by decide +kernel
theorem dX4_goOneWay_43 : decode cX4_goOneWay 43 = .ok (.invokevirtual 114, 3) := by decide +kernel
theorem dX4_goOneWay_46 : decode cX4_goOneWay 46 = .ok (.pop, 1) := by decide +kernel
theorem dX4_goOneWay_47 : decode cX4_goOneWay 47 = .ok (.aload_n 0, 1) := by decide +kernel
theorem dX4_goOneWay_48 : decode cX4_goOneWay 48 = .ok (.dup, 1) := by decide +kernel
theorem dX4_goOneWay_49 : decode cX4_goOneWay 49 = .ok (.getfield 28, 3) := by decide +kernel
theorem dX4_goOneWay_52 : decode cX4_goOneWay 52 = .ok (.iconst 1, 1) := by decide +kernel
theorem dX4_goOneWay_53 : decode cX4_goOneWay 53 = .ok (.iadd, 1) := by decide +kernel
theorem dX4_goOneWay_54 : decode cX4_goOneWay 54 = .ok (.putfield 28, 3) := by decide +kernel
theorem dX4_goOneWay_57 : decode cX4_goOneWay 57 = .ok (.aload_n 0, 1) := by decide +kernel
theorem dX4_goOneWay_58 : decode cX4_goOneWay 58 = .ok (.dup, 1) := by decide +kernel
theorem dX4_goOneWay_59 : decode cX4_goOneWay 59 = .ok (.getfield 31, 3) := by decide +kernel
theorem dX4_goOneWay_62 : decode cX4_goOneWay 62 = .ok (.iconst 1, 1) := by decide +kernel
theorem dX4_goOneWay_63 : decode cX4_goOneWay 63 = .ok (.iadd, 1) := by decide +kernel
theorem dX4_goOneWay_64 : decode cX4_goOneWay 64 = .ok (.putfield 31, 3) := by decide +kernel
theorem dX4_goOneWay_67 : decode cX4_goOneWay 67 = .ok (.return_, 1) := by decide +kernel
theorem dX4_sleepFor_0 : decode cX4_sleepFor 0 = .ok (.aload_n 1, 1) := by decide +kernel
theorem dX4_sleepFor_1 : decode cX4_sleepFor 1 = .ok (.getfield 107, 3) := by decide +kernel
theorem dX4_sleepFor_4 : decode cX4_sleepFor 4 = .ok (.iload_n 2, 1) := by decide +kernel
theorem dX4_sleepFor_5 : decode cX4_sleepFor 5 = .ok (.iadd, 1) := by decide +kernel
theorem dX4_sleepFor_6 : decode cX4_sleepFor 6 = .ok (.sipush 9999, 3) := by decide +kernel
theorem dX4_sleepFor_9 : decode cX4_sleepFor 9 = .ok (.if_icmp .le 14, 3) := by decide +kernel
theorem dX4_sleepFor_12 : decode cX4_sleepFor 12 = .ok (.aload_n 0, 1) := by decide +kernel
theorem dX4_sleepFor_13 : decode cX4_sleepFor 13 = .ok (.dup, 1) := by decide +kernel
theorem dX4_sleepFor_14 : decode cX4_sleepFor 14 = .ok (.getfield 25, 3) := by decide +kernel
theorem dX4_sleepFor_17 : decode cX4_sleepFor 17 = .ok (.iconst 1, 1) := by decide +kernel
theorem dX4_sleepFor_18 : decode cX4_sleepFor 18 = .ok (.iadd, 1) := by decide +kernel
theorem dX4_sleepFor_19 : decode cX4_sleepFor 19 = .ok (.putfield 25, 3) := by decide +kernel
theorem dX4_sleepFor_22 : decode cX4_sleepFor 22 = .ok (.return_, 1) := by decide +kernel
theorem dX4_sleepFor_23 : decode cX4_sleepFor 23 = .ok (.aload_n 1, 1) := by decide +kernel
theorem dX4_sleepFor_24 : decode cX4_sleepFor 24 = .ok (.iload_n 2, 1) := by decide +kernel
theorem dX4_sleepFor_25 : decode cX4_sleepFor 25 = .ok (.invokevirtual 114, 3) := by decide +kernel
theorem dX4_sleepFor_28 : decode cX4_sleepFor 28 = .ok (.pop, 1) := by decide +kernel
theorem dX4_sleepFor_29 : decode cX4_sleepFor 29 = .ok (.aload_n 0, 1) := by decide +kernel
theorem dX4_sleepFor_30 : decode cX4_sleepFor 30 = .ok (.dup, 1) := by decide +kernel
theorem dX4_sleepFor_31 : decode cX4_sleepFor 31 = .ok (.getfield 28, 3) := by decide +kernel
theorem dX4_sleepFor_34 : decode cX4_sleepFor 34 = .ok (.iload_n 2, 1) := by decide +kernel
theorem dX4_sleepFor_35 : decode cX4_sleepFor 35 = .ok (.iadd, 1) := by decide +kernel
theorem dX4_sleepFor_36 : decode cX4_sleepFor 36 = .ok (.putfield 28, 3) := by decide +kernel
theorem dX4_sleepFor_39 : decode cX4_sleepFor 39 = .ok (.return_, 1) := by decide +kernel
theorem dX4_mendCell_0 : decode cX4_mendCell 0 = .ok (.aload_n 1, 1) := by decide +kernel
theorem dX4_mendCell_1 : decode cX4_mendCell 1 = .ok (.iload_n 2, 1) := by decide +kernel
theorem dX4_mendCell_2 : decode cX4_mendCell 2 = .ok (.invokevirtual 118, 3) := by decide +kernel
theorem dX4_mendCell_5 : decode cX4_mendCell 5 = .ok (.ifCond .eq 11, 3) := by decide +kernel
theorem dX4_mendCell_8 : decode cX4_mendCell 8 = .ok (.aload_n 1, 1) := by decide +kernel
theorem dX4_mendCell_9 : decode cX4_mendCell 9 = .ok (.iload_n 2, 1) := by decide +kernel
theorem dX4_mendCell_10 : decode cX4_mendCell 10 = .ok (.invokevirtual 121, 3) := by decide +kernel
theorem dX4_mendCell_13 : decode cX4_mendCell 13 = .ok (.ifCond .ne 14, 3) := by decide +kernel
theorem dX4_mendCell_16 : decode cX4_mendCell 16 = .ok (.aload_n 0, 1) := by decide +kernel
theorem dX4_mendCell_17 : decode cX4_mendCell 17 = .ok (.dup, 1) := by decide +kernel
theorem dX4_mendCell_18 : decode cX4_mendCell 18 = .ok (.getfield 25, 3) := by decide +kernel
theorem dX4_mendCell_21 : decode cX4_mendCell 21 = .ok (.iconst 1, 1) := by decide +kernel
theorem dX4_mendCell_22 : decode cX4_mendCell 22 = .ok (.iadd, 1) := by decide +kernel
theorem dX4_mendCell_23 : decode cX4_mendCell 23 = .ok (.putfield 25, 3) := by decide +kernel
theorem dX4_mendCell_26 : decode cX4_mendCell 26 = .ok (.return_, 1) := by decide +kernel
theorem dX4_mendCell_27 : decode cX4_mendCell 27 = .ok (.aload_n 1, 1) := by decide +kernel
theorem dX4_mendCell_28 : decode cX4_mendCell 28 = .ok (.iload_n 2, 1) := by decide +kernel
theorem dX4_mendCell_29 : decode cX4_mendCell 29 = .ok (.aload_n 1, 1) := by decide +kernel
theorem dX4_mendCell_30 : decode cX4_mendCell 30 = .ok (.getfield 124, 3) := by decide +kernel
theorem dX4_mendCell_33 : decode cX4_mendCell 33 = .ok (.iload_n 2, 1) := by decide +kernel
theorem dX4_mendCell_34 : decode cX4_mendCell 34 = .ok (.iaload, 1) := by decide +kernel
theorem dX4_mendCell_35 : decode cX4_mendCell 35 = .ok (.invokevirtual 127, 3) := by decide +kernel
theorem dX4_mendCell_38 : decode cX4_mendCell 38 = .ok (.pop, 1) := by decide +kernel
theorem dX4_mendCell_39 : decode cX4_mendCell 39 = .ok (.return_, 1) := by decide +kernel
theorem dX4_stealFrom_0 : decode cX4_stealFrom 0 = .ok (.aload_n 1, 1) := by decide +kernel
theorem dX4_stealFrom_1 : decode cX4_stealFrom 1 = .ok (.iload_n 2, 1) := by decide +kernel
theorem dX4_stealFrom_2 : decode cX4_stealFrom 2 = .ok (.invokevirtual 118, 3) := by decide +kernel
theorem dX4_stealFrom_5 : decode cX4_stealFrom 5 = .ok (.ifCond .eq 12, 3) := by decide +kernel
theorem dX4_stealFrom_8 : decode cX4_stealFrom 8 = .ok (.aload_n 1, 1) := by decide +kernel
theorem dX4_stealFrom_9 : decode cX4_stealFrom 9 = .ok (.getfield 130, 3) := by decide +kernel
theorem dX4_stealFrom_12 : decode cX4_stealFrom 12 = .ok (.iload_n 2, 1) := by decide +kernel
theorem dX4_stealFrom_13 : decode cX4_stealFrom 13 = .ok (.iaload, 1) := by decide +kernel
theorem dX4_stealFrom_14 : decode cX4_stealFrom 14 = .ok (.ifCond .ne 14, 3) := by decide +kernel
theorem dX4_stealFrom_17 : decode cX4_stealFrom 17 = .ok (.aload_n 0, 1) := by decide +kernel
theorem dX4_stealFrom_18 : decode cX4_stealFrom 18 = .ok (.dup, 1) := by decide +kernel
theorem dX4_stealFrom_19 : decode cX4_stealFrom 19 = .ok (.getfield 25, 3) := by decide +kernel
theorem dX4_stealFrom_22 : decode cX4_stealFrom 22 = .ok (.iconst 1, 1) := by decide +kernel
theorem dX4_stealFrom_23 : decode cX4_stealFrom 23 = .ok (.iadd, 1) := by decide +kernel
theorem dX4_stealFrom_24 : decode cX4_stealFrom 24 = .ok (.putfield 25, 3) := by decide +kernel
theorem dX4_stealFrom_27 : decode cX4_stealFrom 27 = .ok (.return_, 1) := by decide +kernel
theorem dX4_stealFrom_28 : decode cX4_stealFrom 28 = .ok (.aload_n 0, 1) := by decide +kernel
theorem dX4_stealFrom_29 : decode cX4_stealFrom 29 = .ok (.dup, 1) := by decide +kernel
theorem dX4_stealFrom_30 : decode cX4_stealFrom 30 = .ok (.getfield 34, 3) := by decide +kernel
theorem dX4_stealFrom_33 : decode cX4_stealFrom 33 = .ok (.aload_n 1, 1) := by decide +kernel
theorem dX4_stealFrom_34 : decode cX4_stealFrom 34 = .ok (.iload_n 2, 1) := by decide +kernel
theorem dX4_stealFrom_35 : decode cX4_stealFrom 35 = .ok (.invokevirtual 133, 3) := by decide +kernel
theorem dX4_stealFrom_38 : decode cX4_stealFrom 38 = .ok (.iadd, 1) := by decide +kernel
theorem dX4_stealFrom_39 : decode cX4_stealFrom 39 = .ok (.putfield 34, 3) := by decide +kernel
theorem dX4_stealFrom_42 : decode cX4_stealFrom 42 = .ok (.return_, 1) := by decide +kernel
theorem dX4_drawBy_0 : decode cX4_drawBy 0 = .ok (.aload_n 0, 1) := by decide +kernel
theorem dX4_drawBy_1 : decode cX4_drawBy 1 = .ok (.aload_n 0, 1) := by decide +kernel
theorem dX4_drawBy_2 : decode cX4_drawBy 2 = .ok (.getfield 40, 3) := by decide +kernel
theorem dX4_drawBy_5 : decode cX4_drawBy 5 = .ok (.sipush 2971, 3) := by decide +kernel
theorem dX4_drawBy_8 : decode cX4_drawBy 8 = .ok (.imul, 1) := by decide +kernel
theorem dX4_drawBy_9 : decode cX4_drawBy 9 = .ok (.sipush 10853, 3) := by decide +kernel
theorem dX4_drawBy_12 : decode cX4_drawBy 12 = .ok (.iadd, 1) := by decide +kernel
theorem dX4_drawBy_13 : decode cX4_drawBy 13 = .ok (.ldc 136, 2) := by decide +kernel
theorem dX4_drawBy_15 : decode cX4_drawBy 15 = .ok (.irem, 1) := by decide +kernel
theorem dX4_drawBy_16 : decode cX4_drawBy 16 = .ok (.putfield 40, 3) := by decide +kernel
theorem dX4_drawBy_19 : decode cX4_drawBy 19 = .ok (.iload_n 1, 1) := by decide +kernel
theorem dX4_drawBy_20 : decode cX4_drawBy 20 = .ok (.ifCond .le 15, 3) := by decide +kernel
theorem dX4_drawBy_23 : decode cX4_drawBy 23 = .ok (.aload_n 0, 1) := by decide +kernel
theorem dX4_drawBy_24 : decode cX4_drawBy 24 = .ok (.getfield 40, 3) := by decide +kernel
theorem dX4_drawBy_27 : decode cX4_drawBy 27 = .ok (.bipush 8, 2) := by decide +kernel
theorem dX4_drawBy_29 : decode cX4_drawBy 29 = .ok (.idiv, 1) := by decide +kernel
theorem dX4_drawBy_30 : decode cX4_drawBy 30 = .ok (.iload_n 1, 1) := by decide +kernel
theorem dX4_drawBy_31 : decode cX4_drawBy 31 = .ok (.irem, 1) := by decide +kernel
theorem dX4_drawBy_32 : decode cX4_drawBy 32 = .ok (.goto 4, 3) := by decide +kernel
theorem dX4_drawBy_35 : decode cX4_drawBy 35 = .ok (.iconst 0, 1) := by decide +kernel
theorem dX4_drawBy_36 : decode cX4_drawBy 36 = .ok (.ireturn, 1) := by decide +kernel
theorem dX4_testHolds_0 : decode cX4_testHolds 0 = .ok (.aload_n 1, 1) := by decide +kernel
theorem dX4_testHolds_1 : decode cX4_testHolds 1 = .ok (.getfield 51, 3) := by decide +kernel
theorem dX4_testHolds_4 : decode cX4_testHolds 4 = .ok (.iload_n 2, 1) := by decide +kernel
theorem dX4_testHolds_5 : decode cX4_testHolds 5 = .ok (.iaload, 1) := by decide +kernel
theorem dX4_testHolds_6 : decode cX4_testHolds 6 = .ok (.lookupswitch 73 #[(22, 26), (23, 46)], 26) := by decide +kernel
theorem dX4_testHolds_32 : decode cX4_testHolds 32 = .ok (.aload_n 0, 1) := by decide +kernel
theorem dX4_testHolds_33 : decode cX4_testHolds 33 = .ok (.invokevirtual 137, 3) := by decide +kernel
theorem dX4_testHolds_36 : decode cX4_testHolds 36 = .ok (.aload_n 1, 1) := by decide +kernel
theorem dX4_testHolds_37 : decode cX4_testHolds 37 = .ok (.getfield 141, 3) := by decide +kernel
theorem dX4_testHolds_40 : decode cX4_testHolds 40 = .ok (.iload_n 2, 1) := by decide +kernel
theorem dX4_testHolds_41 : decode cX4_testHolds 41 = .ok (.iaload, 1) := by decide +kernel
theorem dX4_testHolds_42 : decode cX4_testHolds 42 = .ok (.aload_n 1, 1) := by decide +kernel
theorem dX4_testHolds_43 : decode cX4_testHolds 43 = .ok (.getfield 65, 3) := by decide +kernel
theorem dX4_testHolds_46 : decode cX4_testHolds 46 = .ok (.iload_n 2, 1) := by decide +kernel
theorem dX4_testHolds_47 : decode cX4_testHolds 47 = .ok (.iaload, 1) := by decide +kernel
theorem dX4_testHolds_48 : decode cX4_testHolds 48 = .ok (.invokestatic 144, 3) := by decide +kernel
theorem dX4_testHolds_51 : decode cX4_testHolds 51 = .ok (.ireturn, 1) := by decide +kernel
theorem dX4_testHolds_52 : decode cX4_testHolds 52 = .ok (.aload_n 0, 1) := by decide +kernel
theorem dX4_testHolds_53 : decode cX4_testHolds 53 = .ok (.getfield 130, 3) := by decide +kernel
theorem dX4_testHolds_56 : decode cX4_testHolds 56 = .ok (.aload_n 1, 1) := by decide +kernel
theorem dX4_testHolds_57 : decode cX4_testHolds 57 = .ok (.getfield 75, 3) := by decide +kernel
theorem dX4_testHolds_60 : decode cX4_testHolds 60 = .ok (.iload_n 2, 1) := by decide +kernel
theorem dX4_testHolds_61 : decode cX4_testHolds 61 = .ok (.iaload, 1) := by decide +kernel
theorem dX4_testHolds_62 : decode cX4_testHolds 62 = .ok (.iaload, 1) := by decide +kernel
theorem dX4_testHolds_63 : decode cX4_testHolds 63 = .ok (.aload_n 1, 1) := by decide +kernel
theorem dX4_testHolds_64 : decode cX4_testHolds 64 = .ok (.getfield 141, 3) := by decide +kernel
theorem dX4_testHolds_67 : decode cX4_testHolds 67 = .ok (.iload_n 2, 1) := by decide +kernel
theorem dX4_testHolds_68 : decode cX4_testHolds 68 = .ok (.iaload, 1) := by decide +kernel
theorem dX4_testHolds_69 : decode cX4_testHolds 69 = .ok (.aload_n 1, 1) := by decide +kernel
theorem dX4_testHolds_70 : decode cX4_testHolds 70 = .ok (.getfield 65, 3) := by decide +kernel
theorem dX4_testHolds_73 : decode cX4_testHolds 73 = .ok (.iload_n 2, 1) := by decide +kernel
theorem dX4_testHolds_74 : decode cX4_testHolds 74 = .ok (.iaload, 1) := by decide +kernel
theorem dX4_testHolds_75 : decode cX4_testHolds 75 = .ok (.invokestatic 144, 3) := by decide +kernel
theorem dX4_testHolds_78 : decode cX4_testHolds 78 = .ok (.ireturn, 1) := by decide +kernel
theorem dX4_testHolds_79 : decode cX4_testHolds 79 = .ok (.aload_n 0, 1) := by decide +kernel
theorem dX4_testHolds_80 : decode cX4_testHolds 80 = .ok (.invokevirtual 147, 3) := by decide +kernel
theorem dX4_testHolds_83 : decode cX4_testHolds 83 = .ok (.ifCond .ne 7, 3) := by decide +kernel
theorem dX4_testHolds_86 : decode cX4_testHolds 86 = .ok (.iconst 1, 1) := by decide +kernel
theorem dX4_testHolds_87 : decode cX4_testHolds 87 = .ok (.goto 4, 3) := by decide +kernel
theorem dX4_testHolds_90 : decode cX4_testHolds 90 = .ok (.iconst 0, 1) := by decide +kernel
theorem dX4_testHolds_91 : decode cX4_testHolds 91 = .ok (.ireturn, 1) := by decide +kernel
theorem dX4_compare_0 : decode cX4_compare 0 = .ok (.iload_n 1, 1) := by decide +kernel
theorem dX4_compare_1 : decode cX4_compare 1 = .ok (.bipush 60, 2) := by decide +kernel
theorem dX4_compare_3 : decode cX4_compare 3 = .ok (.if_icmp .ne 14, 3) := by decide +kernel
theorem dX4_compare_6 : decode cX4_compare 6 = .ok (.iload_n 0, 1) := by decide +kernel
theorem dX4_compare_7 : decode cX4_compare 7 = .ok (.iload_n 2, 1) := by decide +kernel
theorem dX4_compare_8 : decode cX4_compare 8 = .ok (.if_icmp .ge 7, 3) := by decide +kernel
theorem dX4_compare_11 : decode cX4_compare 11 = .ok (.iconst 1, 1) := by decide +kernel
theorem dX4_compare_12 : decode cX4_compare 12 = .ok (.goto 4, 3) := by decide +kernel
theorem dX4_compare_15 : decode cX4_compare 15 = .ok (.iconst 0, 1) := by decide +kernel
theorem dX4_compare_16 : decode cX4_compare 16 = .ok (.ireturn, 1) := by decide +kernel
theorem dX4_compare_17 : decode cX4_compare 17 = .ok (.iload_n 1, 1) := by decide +kernel
theorem dX4_compare_18 : decode cX4_compare 18 = .ok (.bipush 62, 2) := by decide +kernel
theorem dX4_compare_20 : decode cX4_compare 20 = .ok (.if_icmp .ne 16, 3) := by decide +kernel
theorem dX4_compare_23 : decode cX4_compare 23 = .ok (.iload_n 0, 1) := by decide +kernel
theorem dX4_compare_24 : decode cX4_compare 24 = .ok (.iload_n 2, 1) := by decide +kernel
theorem dX4_compare_25 : decode cX4_compare 25 = .ok (.if_icmp .le 7, 3) := by decide +kernel
theorem dX4_compare_28 : decode cX4_compare 28 = .ok (.iconst 1, 1) := by decide +kernel
theorem dX4_compare_29 : decode cX4_compare 29 = .ok (.goto 17, 3) := by decide +kernel
theorem dX4_compare_32 : decode cX4_compare 32 = .ok (.iconst 0, 1) := by decide +kernel
theorem dX4_compare_33 : decode cX4_compare 33 = .ok (.goto 13, 3) := by decide +kernel
theorem dX4_compare_36 : decode cX4_compare 36 = .ok (.iload_n 0, 1) := by decide +kernel
