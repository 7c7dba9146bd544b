theorem dX11_book_15 : decode cX11_book 15 = .ok (.aload_n 0, 1) := by decide +kernel
theorem dX11_book_16 : decode cX11_book 16 = .ok (.iconst 5, 1) := by decide +kernel
theorem dX11_book_17 : decode cX11_book 17 = .ok (.invokevirtual 161, 3) := by decide +kernel
theorem dX11_book_20 : decode cX11_book 20 = .ok (.ireturn, 1) := by decide +kernel
theorem dX11_book_21 : decode cX11_book 21 = .ok (.aload_n 0, 1) := by decide +kernel
theorem dX11_book_22 : decode cX11_book 22 = .ok (.getfield 42, 3) := by decide +kernel
theorem dX11_book_25 : decode cX11_book 25 = .ok (.aload_n 0, 1) := by decide +kernel
theorem dX11_book_26 : decode cX11_book 26 = .ok (.getfield 60, 3) := by decide +kernel
theorem dX11_book_29 : decode cX11_book 29 = .ok (.iload_n 1, 1) := by decide +kernel
theorem dX11_book_30 : decode cX11_book 30 = .ok (.invokevirtual 165, 3) := by decide +kernel
theorem dX11_book_33 : decode cX11_book 33 = .ok (.ifCond .ne 10, 3) := by decide +kernel
theorem dX11_book_36 : decode cX11_book 36 = .ok (.aload_n 0, 1) := by decide +kernel
theorem dX11_book_37 : decode cX11_book 37 = .ok (.bipush 10, 2) := by decide +kernel
theorem dX11_book_39 : decode cX11_book 39 = .ok (.invokevirtual 161, 3) := by decide +kernel
theorem dX11_book_42 : decode cX11_book 42 = .ok (.ireturn, 1) := by decide +kernel
theorem dX11_book_43 : decode cX11_book 43 = .ok (.aload_n 0, 1) := by decide +kernel
theorem dX11_book_44 : decode cX11_book 44 = .ok (.getfield 56, 3) := by decide +kernel
theorem dX11_book_47 : decode cX11_book 47 = .ok (.astore_n 2, 1) := by decide +kernel
theorem dX11_book_48 : decode cX11_book 48 = .ok (.aload_n 0, 1) := by decide +kernel
theorem dX11_book_49 : decode cX11_book 49 = .ok (.aload_n 0, 1) := by decide +kernel
theorem dX11_book_50 : decode cX11_book 50 = .ok (.getfield 60, 3) := by decide +kernel
theorem dX11_book_53 : decode cX11_book 53 = .ok (.putfield 56, 3) := by decide +kernel
theorem dX11_book_56 : decode cX11_book 56 = .ok (.aload_n 0, 1) := by decide +kernel
theorem dX11_book_57 : decode cX11_book 57 = .ok (.aload_n 2, 1) := by decide +kernel
theorem dX11_book_58 : decode cX11_book 58 = .ok (.putfield 60, 3) := by decide +kernel
theorem dX11_book_61 : decode cX11_book 61 = .ok (.aload_n 0, 1) := by decide +kernel
theorem dX11_book_62 : decode cX11_book 62 = .ok (.getfield 66, 3) := by decide +kernel
theorem dX11_book_65 : decode cX11_book 65 = .ok (.invokevirtual 169, 3) := by decide +kernel
theorem dX11_book_68 : decode cX11_book 68 = .ok (.aload_n 0, 1) := by decide +kernel
theorem dX11_book_69 : decode cX11_book 69 = .ok (.aload_n 0, 1) := by decide +kernel
theorem dX11_book_70 : decode cX11_book 70 = .ok (.getfield 56, 3) := by decide +kernel
theorem dX11_book_73 : decode cX11_book 73 = .ok (.getfield 172, 3) := by decide +kernel
theorem dX11_book_76 : decode cX11_book 76 = .ok (.invokevirtual 175, 3) := by decide +kernel
theorem dX11_book_79 : decode cX11_book 79 = .ok (.ireturn, 1) := by decide +kernel
theorem dX11_nights_0 : decode cX11_nights 0 = .ok (.iload_n 1, 1) := by decide +kernel
theorem dX11_nights_1 : decode cX11_nights 1 = .ok (.ifCond .lt 21, 3) := by decide +kernel
theorem dX11_nights_4 : decode cX11_nights 4 = .ok (.iload_n 1, 1) := by decide +kernel
theorem dX11_nights_5 : decode cX11_nights 5 = .ok (.aload_n 0, 1) := by decide +kernel
theorem dX11_nights_6 : decode cX11_nights 6 = .ok (.getfield 33, 3) := by decide +kernel
theorem dX11_nights_9 : decode cX11_nights 9 = .ok (.getfield 154, 3) := by decide +kernel
theorem dX11_nights_12 : decode cX11_nights 12 = .ok (.if_icmp .gt 10, 3) := by decide +kernel
theorem dX11_nights_15 : decode cX11_nights 15 = .ok (.iload_n 1, 1) := by decide +kernel
theorem dX11_nights_16 : decode cX11_nights 16 = .ok (.sipush 300, 3) := by decide +kernel
theorem dX11_nights_19 : decode cX11_nights 19 = .ok (.if_icmp .le 9, 3) := by decide +kernel
theorem dX11_nights_22 : decode cX11_nights 22 = .ok (.aload_n 0, 1) := by decide +kernel
theorem dX11_nights_23 : decode cX11_nights 23 = .ok (.iconst 5, 1) := by decide +kernel
theorem dX11_nights_24 : decode cX11_nights 24 = .ok (.invokevirtual 161, 3) := by decide +kernel
theorem dX11_nights_27 : decode cX11_nights 27 = .ok (.ireturn, 1) := by decide +kernel
theorem dX11_nights_28 : decode cX11_nights 28 = .ok (.aload_n 0, 1) := by decide +kernel
theorem dX11_nights_29 : decode cX11_nights 29 = .ok (.getfield 49, 3) := by decide +kernel
theorem dX11_nights_32 : decode cX11_nights 32 = .ok (.aload_n 0, 1) := by decide +kernel
theorem dX11_nights_33 : decode cX11_nights 33 = .ok (.getfield 70, 3) := by decide +kernel
theorem dX11_nights_36 : decode cX11_nights 36 = .ok (.aload_n 0, 1) := by decide +kernel
theorem dX11_nights_37 : decode cX11_nights 37 = .ok (.getfield 56, 3) := by decide +kernel
theorem dX11_nights_40 : decode cX11_nights 40 = .ok (.iload_n 1, 1) := by decide +kernel
theorem dX11_nights_41 : decode cX11_nights 41 = .ok (.invokevirtual 178, 3) := by decide +kernel
theorem dX11_nights_44 : decode cX11_nights 44 = .ok (.ifCond .ne 10, 3) := by decide +kernel
theorem dX11_nights_47 : decode cX11_nights 47 = .ok (.aload_n 0, 1) := by decide +kernel
theorem dX11_nights_48 : decode cX11_nights 48 = .ok (.bipush 10, 2) := by decide +kernel
theorem dX11_nights_50 : decode cX11_nights 50 = .ok (.invokevirtual 161, 3) := by decide +kernel
theorem dX11_nights_53 : decode cX11_nights 53 = .ok (.ireturn, 1) := by decide +kernel
theorem dX11_nights_54 : decode cX11_nights 54 = .ok (.aload_n 0, 1) := by decide +kernel
theorem dX11_nights_55 : decode cX11_nights 55 = .ok (.getfield 66, 3) := by decide +kernel
theorem dX11_nights_58 : decode cX11_nights 58 = .ok (.astore_n 2, 1) := by decide +kernel
theorem dX11_nights_59 : decode cX11_nights 59 = .ok (.aload_n 0, 1) := by decide +kernel
theorem dX11_nights_60 : decode cX11_nights 60 = .ok (.aload_n 0, 1) := by decide +kernel
theorem dX11_nights_61 : decode cX11_nights 61 = .ok (.getfield 70, 3) := by decide +kernel
theorem dX11_nights_64 : decode cX11_nights 64 = .ok (.putfield 66, 3) := by decide +kernel
theorem dX11_nights_67 : decode cX11_nights 67 = .ok (.aload_n 0, 1) := by decide +kernel
theorem dX11_nights_68 : decode cX11_nights 68 = .ok (.aload_n 2, 1) := by decide +kernel
theorem dX11_nights_69 : decode cX11_nights 69 = .ok (.putfield 70, 3) := by decide +kernel
theorem dX11_nights_72 : decode cX11_nights 72 = .ok (.aload_n 0, 1) := by decide +kernel
theorem dX11_nights_73 : decode cX11_nights 73 = .ok (.aload_n 0, 1) := by decide +kernel
theorem dX11_nights_74 : decode cX11_nights 74 = .ok (.getfield 66, 3) := by decide +kernel
theorem dX11_nights_77 : decode cX11_nights 77 = .ok (.getfield 181, 3) := by decide +kernel
theorem dX11_nights_80 : decode cX11_nights 80 = .ok (.invokevirtual 175, 3) := by decide +kernel
theorem dX11_nights_83 : decode cX11_nights 83 = .ok (.ireturn, 1) := by decide +kernel
theorem dX11_fault_0 : decode cX11_fault 0 = .ok (.iload_n 1, 1) := by decide +kernel
theorem dX11_fault_1 : decode cX11_fault 1 = .ok (.ifCond .ne 11, 3) := by decide +kernel
theorem dX11_fault_4 : decode cX11_fault 4 = .ok (.aload_n 0, 1) := by decide +kernel
theorem dX11_fault_5 : decode cX11_fault 5 = .ok (.getfield 33, 3) := by decide +kernel
theorem dX11_fault_8 : decode cX11_fault 8 = .ok (.getfield 184, 3) := by decide +kernel
theorem dX11_fault_11 : decode cX11_fault 11 = .ok (.ireturn, 1) := by decide +kernel
theorem dX11_fault_12 : decode cX11_fault 12 = .ok (.iload_n 1, 1) := by decide +kernel
theorem dX11_fault_13 : decode cX11_fault 13 = .ok (.iconst 1, 1) := by decide +kernel
theorem dX11_fault_14 : decode cX11_fault 14 = .ok (.if_icmp .ne 13, 3) := by decide +kernel
theorem dX11_fault_17 : decode cX11_fault 17 = .ok (.aload_n 0, 1) := by decide +kernel
theorem dX11_fault_18 : decode cX11_fault 18 = .ok (.getfield 33, 3) := by decide +kernel
theorem dX11_fault_21 : decode cX11_fault 21 = .ok (.getfield 187, 3) := by decide +kernel
theorem dX11_fault_24 : decode cX11_fault 24 = .ok (.goto 4, 3) := by decide +kernel
theorem dX11_fault_27 : decode cX11_fault 27 = .ok (.iconst (-1), 1) := by decide +kernel
theorem dX11_fault_28 : decode cX11_fault 28 = .ok (.ireturn, 1) := by decide +kernel
theorem dX11_many_0 : decode cX11_many 0 = .ok (.iload_n 1, 1) := by decide +kernel
theorem dX11_many_1 : decode cX11_many 1 = .ok (.tableswitch 202 0 10 #[59, 71, 86, 98, 110, 122, 134, 146, 158, 170, 182], 59) := by decide +kernel
theorem dX11_many_60 : decode cX11_many 60 = .ok (.aload_n 0, 1) := by decide +kernel
theorem dX11_many_61 : decode cX11_many 61 = .ok (.aload_n 0, 1) := by decide +kernel
theorem dX11_many_62 : decode cX11_many 62 = .ok (.getfield 56, 3) := by decide +kernel
theorem dX11_many_65 : decode cX11_many 65 = .ok (.getfield 172, 3) := by decide +kernel
theorem dX11_many_68 : decode cX11_many 68 = .ok (.invokevirtual 175, 3) := by decide +kernel
theorem dX11_many_71 : decode cX11_many 71 = .ok (.ireturn, 1) := by decide +kernel
theorem dX11_many_72 : decode cX11_many 72 = .ok (.aload_n 0, 1) := by decide +kernel
theorem dX11_many_73 : decode cX11_many 73 = .ok (.aload_n 0, 1) := by decide +kernel
theorem dX11_many_74 : decode cX11_many 74 = .ok (.getfield 56, 3) := by decide +kernel
theorem dX11_many_77 : decode cX11_many 77 = .ok (.getfield 190, 3) := by decide +kernel
theorem dX11_many_80 : decode cX11_many 80 = .ok (.getfield 194, 3) := by decide +kernel
theorem dX11_many_83 : decode cX11_many 83 = .ok (.invokevirtual 175, 3) := by decide +kernel
theorem dX11_many_86 : decode cX11_many 86 = .ok (.ireturn, 1) := by decide +kernel
theorem dX11_many_87 : decode cX11_many 87 = .ok (.aload_n 0, 1) := by decide +kernel
theorem dX11_many_88 : decode cX11_many 88 = .ok (.aload_n 0, 1) := by decide +kernel
theorem dX11_many_89 : decode cX11_many 89 = .ok (.getfield 56, 3) := by decide +kernel
theorem dX11_many_92 : decode cX11_many 92 = .ok (.getfield 199, 3) := by decide +kernel
theorem dX11_many_95 : decode cX11_many 95 = .ok (.invokevirtual 175, 3) := by decide +kernel
theorem dX11_many_98 : decode cX11_many 98 = .ok (.ireturn, 1) := by decide +kernel
theorem dX11_many_99 : decode cX11_many 99 = .ok (.aload_n 0, 1) := by decide +kernel
theorem dX11_many_100 : decode cX11_many 100 = .ok (.aload_n 0, 1) := by decide +kernel
theorem dX11_many_101 : decode cX11_many 101 = .ok (.getfield 56, 3) := by decide +kernel
theorem dX11_many_104 : decode cX11_many 104 = .ok (.getfield 202, 3) := by decide +kernel
theorem dX11_many_107 : decode cX11_many 107 = .ok (.invokevirtual 175, 3) := by decide +kernel
theorem dX11_many_110 : decode cX11_many 110 = .ok (.ireturn, 1) := by decide +kernel
theorem dX11_many_111 : decode cX11_many 111 = .ok (.aload_n 0, 1) := by decide +kernel
theorem dX11_many_112 : decode cX11_many 112 = .ok (.aload_n 0, 1) := by decide +kernel
theorem dX11_many_113 : decode cX11_many 113 = .ok (.getfield 56, 3) := by decide +kernel
theorem dX11_many_116 : decode cX11_many 116 = .ok (.getfield 205, 3) := by decide +kernel
theorem dX11_many_119 : decode cX11_many 119 = .ok (.invokevirtual 175, 3) := by decide +kernel
theorem dX11_many_122 : decode cX11_many 122 = .ok (.ireturn, 1) := by decide +kernel
theorem dX11_many_123 : decode cX11_many 123 = .ok (.aload_n 0, 1) := by decide +kernel
theorem dX11_many_124 : decode cX11_many 124 = .ok (.aload_n 0, 1) := by decide +kernel
theorem dX11_many_125 : decode cX11_many 125 = .ok (.getfield 56, 3) := by decide +kernel
theorem dX11_many_128 : decode cX11_many 128 = .ok (.getfield 208, 3) := by decide +kernel
theorem dX11_many_131 : decode cX11_many 131 = .ok (.invokevirtual 175, 3) := by decide +kernel
theorem dX11_many_134 : decode cX11_many 134 = .ok (.ireturn, 1) := by decide +kernel
theorem dX11_many_135 : decode cX11_many 135 = .ok (.aload_n 0, 1) := by decide +kernel
theorem dX11_many_136 : decode cX11_many 136 = .ok (.aload_n 0, 1) := by decide +kernel
theorem dX11_many_137 : decode cX11_many 137 = .ok (.getfield 56, 3) := by decide +kernel
theorem dX11_many_140 : decode cX11_many 140 = .ok (.invokevirtual 211, 3) := by decide +kernel
theorem dX11_many_143 : decode cX11_many 143 = .ok (.invokevirtual 175, 3) := by decide +kernel
theorem dX11_many_146 : decode cX11_many 146 = .ok (.ireturn, 1) := by decide +kernel
theorem dX11_many_147 : decode cX11_many 147 = .ok (.aload_n 0, 1) := by decide +kernel
theorem dX11_many_148 : decode cX11_many 148 = .ok (.aload_n 0, 1) := by decide +kernel
theorem dX11_many_149 : decode cX11_many 149 = .ok (.getfield 56, 3) := by decide +kernel
theorem dX11_many_152 : decode cX11_many 152 = .ok (.invokevirtual 215, 3) := by decide +kernel
theorem dX11_many_155 : decode cX11_many 155 = .ok (.invokevirtual 175, 3) := by decide +kernel
theorem dX11_many_158 : decode cX11_many 158 = .ok (.ireturn, 1) := by decide +kernel
theorem dX11_many_159 : decode cX11_many 159 = .ok (.aload_n 0, 1) := by decide +kernel
theorem dX11_many_160 : decode cX11_many 160 = .ok (.aload_n 0, 1) := by decide +kernel
theorem dX11_many_161 : decode cX11_many 161 = .ok (.getfield 56, 3) := by decide +kernel
theorem dX11_many_164 : decode cX11_many 164 = .ok (.invokevirtual 218, 3) := by decide +kernel
theorem dX11_many_167 : decode cX11_many 167 = .ok (.invokevirtual 175, 3) := by decide +kernel
theorem dX11_many_170 : decode cX11_many 170 = .ok (.ireturn, 1) := by decide +kernel
theorem dX11_many_171 : decode cX11_many 171 = .ok (.aload_n 0, 1) := by decide +kernel
theorem dX11_many_172 : decode cX11_many 172 = .ok (.aload_n 0, 1) := by decide +kernel
theorem dX11_many_173 : decode cX11_many 173 = .ok (.getfield 56, 3) := by decide +kernel
theorem dX11_many_176 : decode cX11_many 176 = .ok (.getfield 221, 3) := by decide +kernel
theorem dX11_many_179 : decode cX11_many 179 = .ok (.invokevirtual 175, 3) := by decide +kernel
theorem dX11_many_182 : decode cX11_many 182 = .ok (.ireturn, 1) := by decide +kernel
theorem dX11_many_183 : decode cX11_many 183 = .ok (.aload_n 0, 1) := by decide +kernel
theorem dX11_many_184 : decode cX11_many 184 = .ok (.aload_n 0, 1) := by decide +kernel
theorem dX11_many_185 : decode cX11_many 185 = .ok (.getfield 56, 3) := by decide +kernel
theorem dX11_many_188 : decode cX11_many 188 = .ok (.invokevirtual 224, 3) := by decide +kernel
theorem dX11_many_191 : decode cX11_many 191 = .ok (.ifCond .ne 7, 3) := by decide +kernel
theorem dX11_many_194 : decode cX11_many 194 = .ok (.iconst 1, 1) := by decide +kernel
theorem dX11_many_195 : decode cX11_many 195 = .ok (.goto 4, 3) := by decide +kernel
theorem dX11_many_198 : decode cX11_many 198 = .ok (.iconst 0, 1) := by decide +kernel
theorem dX11_many_199 : decode cX11_many 199 = .ok (.invokevirtual 175, 3) := by decide +kernel
theorem dX11_many_202 : decode cX11_many 202 = .ok (.ireturn, 1) := by decide +kernel
theorem dX11_many_203 : decode cX11_many 203 = .ok (.aload_n 0, 1) := by decide +kernel
theorem dX11_many_204 : decode cX11_many 204 = .ok (.iconst 5, 1) := by decide +kernel
theorem dX11_many_205 : decode cX11_many 205 = .ok (.invokevirtual 161, 3) := by decide +kernel
theorem dX11_many_208 : decode cX11_many 208 = .ok (.ireturn, 1) := by decide +kernel
theorem dX11_cell_0 : decode cX11_cell 0 = .ok (.aload_n 0, 1) := by decide +kernel
theorem dX11_cell_1 : decode cX11_cell 1 = .ok (.getfield 56, 3) := by decide +kernel
theorem dX11_cell_4 : decode cX11_cell 4 = .ok (.iload_n 1, 1) := by decide +kernel
theorem dX11_cell_5 : decode cX11_cell 5 = .ok (.invokevirtual 227, 3) := by decide +kernel
theorem dX11_cell_8 : decode cX11_cell 8 = .ok (.ifCond .ne 9, 3) := by decide +kernel
theorem dX11_cell_11 : decode cX11_cell 11 = .ok (.aload_n 0, 1) := by decide +kernel
theorem dX11_cell_12 : decode cX11_cell 12 = .ok (.iconst 2, 1) := by decide +kernel
theorem dX11_cell_13 : decode cX11_cell 13 = .ok (.invokevirtual 161, 3) := by decide +kernel
theorem dX11_cell_16 : decode cX11_cell 16 = .ok (.ireturn, 1) := by decide +kernel
theorem dX11_cell_17 : decode cX11_cell 17 = .ok (.iload_n 2, 1) := by decide +kernel
theorem dX11_cell_18 : decode cX11_cell 18 = .ok (.tableswitch 93 0 3 #[30, 44, 58, 72], 30) := by decide +kernel
theorem dX11_cell_48 : decode cX11_cell 48 = .ok (.aload_n 0, 1) := by decide +kernel
theorem dX11_cell_49 : decode cX11_cell 49 = .ok (.aload_n 0, 1) := by decide +kernel
theorem dX11_cell_50 : decode cX11_cell 50 = .ok (.getfield 56, 3) := by decide +kernel
theorem dX11_cell_53 : decode cX11_cell 53 = .ok (.getfield 230, 3) := by decide +kernel
theorem dX11_cell_56 : decode cX11_cell 56 = .ok (.iload_n 1, 1) := by decide +kernel
theorem dX11_cell_57 : decode cX11_cell 57 = .ok (.iaload, 1) := by decide +kernel
theorem dX11_cell_58 : decode cX11_cell 58 = .ok (.invokevirtual 175, 3) := by decide +kernel
theorem dX11_cell_61 : decode cX11_cell 61 = .ok (.ireturn, 1) := by decide +kernel
theorem dX11_cell_62 : decode cX11_cell 62 = .ok (.aload_n 0, 1) := by decide +kernel
theorem dX11_cell_63 : decode cX11_cell 63 = .ok (.aload_n 0, 1) := by decide +kernel
theorem dX11_cell_64 : decode cX11_cell 64 = .ok (.getfield 56, 3) := by decide +kernel
theorem dX11_cell_67 : decode cX11_cell 67 = .ok (.getfield 233, 3) := by decide +kernel
theorem dX11_cell_70 : decode cX11_cell 70 = .ok (.iload_n 1, 1) := by decide +kernel
theorem dX11_cell_71 : decode cX11_cell 71 = .ok (.iaload, 1) := by decide +kernel
theorem dX11_cell_72 : decode cX11_cell 72 = .ok (.invokevirtual 175, 3) := by decide +kernel
theorem dX11_cell_75 : decode cX11_cell 75 = .ok (.ireturn, 1) := by decide +kernel
theorem dX11_cell_76 : decode cX11_cell 76 = .ok (.aload_n 0, 1) := by decide +kernel
theorem dX11_cell_77 : decode cX11_cell 77 = .ok (.aload_n 0, 1) := by decide +kernel
theorem dX11_cell_78 : decode cX11_cell 78 = .ok (.getfield 56, 3) := by decide +kernel
theorem dX11_cell_81 : decode cX11_cell 81 = .ok (.getfield 236, 3) := by decide +kernel
theorem dX11_cell_84 : decode cX11_cell 84 = .ok (.iload_n 1, 1) := by decide +kernel
theorem dX11_cell_85 : decode cX11_cell 85 = .ok (.iaload, 1) := by decide +kernel
theorem dX11_cell_86 : decode cX11_cell 86 = .ok (.invokevirtual 175, 3) := by decide +kernel
theorem dX11_cell_89 : decode cX11_cell 89 = .ok (.ireturn, 1) := by decide +kernel
theorem dX11_cell_90 : decode cX11_cell 90 = .ok (.aload_n 0, 1) := by decide +kernel
theorem dX11_cell_91 : decode cX11_cell 91 = .ok (.aload_n 0, 1) := by decide +kernel
theorem dX11_cell_92 : decode cX11_cell 92 = .ok (.getfield 56, 3) := by decide +kernel
theorem dX11_cell_95 : decode cX11_cell 95 = .ok (.iload_n 1, 1) := by decide +kernel
theorem dX11_cell_96 : decode cX11_cell 96 = .ok (.invokevirtual 239, 3) := by decide +kernel
theorem dX11_cell_99 : decode cX11_cell 99 = .ok (.ifCond .eq 7, 3) := by decide +kernel
theorem dX11_cell_102 : decode cX11_cell 102 = .ok (.iconst 1, 1) := by decide +kernel
theorem dX11_cell_103 : decode cX11_cell 103 = .ok (.goto 4, 3) := by decide +kernel
theorem dX11_cell_106 : decode cX11_cell 106 = .ok (.iconst 0, 1) := by decide +kernel
theorem dX11_cell_107 : decode cX11_cell 107 = .ok (.invokevirtual 175, 3) := by decide +kernel
theorem dX11_cell_110 : decode cX11_cell 110 = .ok (.ireturn, 1) := by decide +kernel
theorem dX11_cell_111 : decode cX11_cell 111 = .ok (.aload_n 0, 1) := by decide +kernel
theorem dX11_cell_112 : decode cX11_cell 112 = .ok (.iconst 5, 1) := by decide +kernel
theorem dX11_cell_113 : decode cX11_cell 113 = .ok (.invokevirtual 161, 3) := by decide +kernel
theorem dX11_cell_116 : decode cX11_cell 116 = .ok (.ireturn, 1) := by decide +kernel
theorem dX11_watch_0 : decode cX11_watch 0 = .ok (.aload_n 0, 1) := by decide +kernel
theorem dX11_watch_1 : decode cX11_watch 1 = .ok (.getfield 56, 3) := by decide +kernel
theorem dX11_watch_4 : decode cX11_watch 4 = .ok (.getfield 172, 3) := by decide +kernel
theorem dX11_watch_7 : decode cX11_watch 7 = .ok (.ifCond .ne 12, 3) := by decide +kernel
theorem dX11_watch_10 : decode cX11_watch 10 = .ok (.aload_n 0, 1) := by decide +kernel
theorem dX11_watch_11 : decode cX11_watch 11 = .ok (.bipush 8, 2) := by decide +kernel
theorem dX11_watch_13 : decode cX11_watch 13 = .ok (.invokevirtual 161, 3) := by decide +kernel
theorem dX11_watch_16 : decode cX11_watch 16 = .ok (.goto 14, 3) := by decide +kernel
theorem dX11_watch_19 : decode cX11_watch 19 = .ok (.aload_n 0, 1) := by decide +kernel
theorem dX11_watch_20 : decode cX11_watch 20 = .ok (.aload_n 0, 1) := by decide +kernel
theorem dX11_watch_21 : decode cX11_watch 21 = .ok (.getfield 56, 3) := by decide +kernel
theorem dX11_watch_24 : decode cX11_watch 24 = .ok (.getfield 242, 3) := by decide +kernel
theorem dX11_watch_27 : decode cX11_watch 27 = .ok (.invokevirtual 175, 3) := by decide +kernel
theorem dX11_watch_30 : decode cX11_watch 30 = .ok (.ireturn, 1) := by decide +kernel
theorem dX11_account_0 : decode cX11_account 0 = .ok (.aload_n 0, 1) := by decide +kernel
theorem dX11_account_1 : decode cX11_account 1 = .ok (.getfield 56, 3) := by decide +kernel
theorem dX11_account_4 : decode cX11_account 4 = .ok (.iload_n 1, 1) := by decide +kernel
theorem dX11_account_5 : decode cX11_account 5 = .ok (.invokevirtual 245, 3) := by decide +kernel
theorem dX11_account_8 : decode cX11_account 8 = .ok (.ifCond .ne 9, 3) := by decide +kernel
theorem dX11_account_11 : decode cX11_account 11 = .ok (.aload_n 0, 1) := by decide +kernel
theorem dX11_account_12 : decode cX11_account 12 = .ok (.iconst 2, 1) := by decide +kernel
theorem dX11_account_13 : decode cX11_account 13 = .ok (.invokevirtual 161, 3) := by decide +kernel
theorem dX11_account_16 : decode cX11_account 16 = .ok (.ireturn, 1) := by decide +kernel
theorem dX11_account_17 : decode cX11_account 17 = .ok (.iload_n 2, 1) := by decide +kernel
theorem dX11_account_18 : decode cX11_account 18 = .ok (.tableswitch 104 0 3 #[30, 44, 64, 84], 30) := by decide +kernel
theorem dX11_account_48 : decode cX11_account 48 = .ok (.aload_n 0, 1) := by decide +kernel
theorem dX11_account_49 : decode cX11_account 49 = .ok (.aload_n 0, 1) := by decide +kernel
theorem dX11_account_50 : decode cX11_account 50 = .ok (.getfield 56, 3) := by decide +kernel
theorem dX11_account_53 : decode cX11_account 53 = .ok (.getfield 248, 3) := by decide +kernel
theorem dX11_account_56 : decode cX11_account 56 = .ok (.iload_n 1, 1) := by decide +kernel
theorem dX11_account_57 : decode cX11_account 57 = .ok (.iaload, 1) := by decide +kernel
theorem dX11_account_58 : decode cX11_account 58 = .ok (.invokevirtual 175, 3) := by decide +kernel
theorem dX11_account_61 : decode cX11_account 61 = .ok (.ireturn, 1) := by decide +kernel
theorem dX11_account_62 : decode cX11_account 62 = .ok (.aload_n 0, 1) := by decide +kernel
theorem dX11_account_63 : decode cX11_account 63 = .ok (.aload_n 0, 1) := by decide +kernel
theorem dX11_account_64 : decode cX11_account 64 = .ok (.getfield 56, 3) := by decide +kernel
theorem dX11_account_67 : decode cX11_account 67 = .ok (.aload_n 0, 1) := by decide +kernel
theorem dX11_account_68 : decode cX11_account 68 = .ok (.getfield 56, 3) := by decide +kernel
theorem dX11_account_71 : decode cX11_account 71 = .ok (.getfield 230, 3) := by decide +kernel
theorem dX11_account_74 : decode cX11_account 74 = .ok (.iload_n 1, 1) := by decide +kernel
theorem dX11_account_75 : decode cX11_account 75 = .ok (.invokevirtual 251, 3) := by decide +kernel
theorem dX11_account_78 : decode cX11_account 78 = .ok (.invokevirtual 175, 3) := by decide +kernel
theorem dX11_account_81 : decode cX11_account 81 = .ok (.ireturn, 1) := by decide +kernel
theorem dX11_account_82 : decode cX11_account 82 = .ok (.aload_n 0, 1) := by decide +kernel
theorem dX11_account_83 : decode cX11_account 83 = .ok (.aload_n 0, 1) := by decide +kernel
theorem dX11_account_84 : decode cX11_account 84 = .ok (.getfield 56, 3) := by decide +kernel
theorem dX11_account_87 : decode cX11_account 87 = .ok (.aload_n 0, 1) := by decide +kernel
theorem dX11_account_88 : decode cX11_account 88 = .ok (.getfield 56, 3) := by decide +kernel
theorem dX11_account_91 : decode cX11_account 91 = .ok (.getfield 233, 3) := by decide +kernel
theorem dX11_account_94 : decode cX11_account 94 = .ok (.iload_n 1, 1) := by decide +kernel
theorem dX11_account_95 : decode cX11_account 95 = .ok (.invokevirtual 251, 3) := by decide +kernel
theorem dX11_account_98 : decode cX11_account 98 = .ok (.invokevirtual 175, 3) := by decide +kernel
theorem dX11_account_101 : decode cX11_account 101 = .ok (.ireturn, 1) := by decide +kernel
theorem dX11_account_102 : decode cX11_account 102 = .ok (.aload_n 0, 1) := by decide +kernel
theorem dX11_account_103 : decode cX11_account 103 = .ok (.aload_n 0, 1) := by decide +kernel
theorem dX11_account_104 : decode cX11_account 104 = .ok (.getfield 56, 3) := by decide +kernel
theorem dX11_account_107 : decode cX11_account 107 = .ok (.aload_n 0, 1) := by decide +kernel
theorem dX11_account_108 : decode cX11_account 108 = .ok (.getfield 56, 3) := by decide +kernel
theorem dX11_account_111 : decode cX11_account 111 = .ok (.getfield 230, 3) := by decide +kernel
theorem dX11_account_114 : decode cX11_account 114 = .ok (.iload_n 1, 1) := by decide +kernel
theorem dX11_account_115 : decode cX11_account 115 = .ok (.invokevirtual 255, 3) := by decide +kernel
theorem dX11_account_118 : decode cX11_account 118 = .ok (.invokevirtual 175, 3) := by decide +kernel
theorem dX11_account_121 : decode cX11_account 121 = .ok (.ireturn, 1) := by decide +kernel
theorem dX11_account_122 : decode cX11_account 122 = .ok (.aload_n 0, 1) := by decide +kernel
theorem dX11_account_123 : decode cX11_account 123 = .ok (.iconst 5, 1) := by decide +kernel
theorem dX11_account_124 : decode cX11_account 124 = .ok (.invokevirtual 161, 3) := by decide +kernel
theorem dX11_account_127 : decode cX11_account 127 = .ok (.ireturn, 1) := by decide +kernel
theorem dX11_law_0 : decode cX11_law 0 = .ok (.aload_n 0, 1) := by decide +kernel
theorem dX11_law_1 : decode cX11_law 1 = .ok (.getfield 56, 3) := by decide +kernel
theorem dX11_law_4 : decode cX11_law 4 = .ok (.getfield 190, 3) := by decide +kernel
theorem dX11_law_7 : decode cX11_law 7 = .ok (.astore_n 3, 1) := by decide +kernel
theorem dX11_law_8 : decode cX11_law 8 = .ok (.aload_n 3, 1) := by decide +kernel
theorem dX11_law_9 : decode cX11_law 9 = .ok (.iload_n 1, 1) := by decide +kernel
theorem dX11_law_10 : decode cX11_law 10 = .ok (.invokevirtual 258, 3) := by decide +kernel
theorem dX11_law_13 : decode cX11_law 13 = .ok (.ifCond .ne 9, 3) := by decide +kernel
theorem dX11_law_16 : decode cX11_law 16 = .ok (.aload_n 0, 1) := by decide +kernel
theorem dX11_law_17 : decode cX11_law 17 = .ok (.iconst 2, 1) := by decide +kernel
theorem dX11_law_18 : decode cX11_law 18 = .ok (.invokevirtual 161, 3) := by decide +kernel
theorem dX11_law_21 : decode cX11_law 21 = .ok (.ireturn, 1) := by decide +kernel
theorem dX11_law_22 : decode cX11_law 22 = .ok (.iload_n 2, 1) := by decide +kernel
theorem dX11_law_23 : decode cX11_law 23 = .ok (.tableswitch 73 0 3 #[29, 40, 51, 62], 29) := by decide +kernel
theorem dX11_law_52 : decode cX11_law 52 = .ok (.aload_n 0, 1) := by decide +kernel
theorem dX11_law_53 : decode cX11_law 53 = .ok (.aload_n 3, 1) := by decide +kernel
theorem dX11_law_54 : decode cX11_law 54 = .ok (.getfield 261, 3) := by decide +kernel
theorem dX11_law_57 : decode cX11_law 57 = .ok (.iload_n 1, 1) := by decide +kernel
theorem dX11_law_58 : decode cX11_law 58 = .ok (.iaload, 1) := by decide +kernel
theorem dX11_law_59 : decode cX11_law 59 = .ok (.invokevirtual 175, 3) := by decide +kernel
theorem dX11_law_62 : decode cX11_law 62 = .ok (.ireturn, 1) := by decide +kernel
theorem dX11_law_63 : decode cX11_law 63 = .ok (.aload_n 0, 1) := by decide +kernel
theorem dX11_law_64 : decode cX11_law 64 = .ok (.aload_n 3, 1) := by decide +kernel
theorem dX11_law_65 : decode cX11_law 65 = .ok (.getfield 264, 3) := by decide +kernel
theorem dX11_law_68 : decode cX11_law 68 = .ok (.iload_n 1, 1) := by decide +kernel
theorem dX11_law_69 : decode cX11_law 69 = .ok (.iaload, 1) := by decide +kernel
theorem dX11_law_70 : decode cX11_law 70 = .ok (.invokevirtual 175, 3) := by decide +kernel
theorem dX11_law_73 : decode cX11_law 73 = .ok (.ireturn, 1) := by decide +kernel
theorem dX11_law_74 : decode cX11_law 74 = .ok (.aload_n 0, 1) := by decide +kernel
theorem dX11_law_75 : decode cX11_law 75 = .ok (.aload_n 3, 1) := by decide +kernel
theorem dX11_law_76 : decode cX11_law 76 = .ok (.getfield 267, 3) := by decide +kernel
theorem dX11_law_79 : decode cX11_law 79 = .ok (.iload_n 1, 1) := by decide +kernel
theorem dX11_law_80 : decode cX11_law 80 = .ok (.iaload, 1) := by decide +kernel
theorem dX11_law_81 : decode cX11_law 81 = .ok (.invokevirtual 175, 3) := by decide +kernel
theorem dX11_law_84 : decode cX11_law 84 = .ok (.ireturn, 1) := by decide +kernel
theorem dX11_law_85 : decode cX11_law 85 = .ok (.aload_n 0, 1) := by decide +kernel
theorem dX11_law_86 : decode cX11_law 86 = .ok (.aload_n 3, 1) := by decide +kernel
theorem dX11_law_87 : decode cX11_law 87 = .ok (.getfield 270, 3) := by decide +kernel
theorem dX11_law_90 : decode cX11_law 90 = .ok (.iload_n 1, 1) := by decide +kernel
theorem dX11_law_91 : decode cX11_law 91 = .ok (.iaload, 1) := by decide +kernel
theorem dX11_law_92 : decode cX11_law 92 = .ok (.invokevirtual 175, 3) := by decide +kernel
theorem dX11_law_95 : decode cX11_law 95 = .ok (.ireturn, 1) := by decide +kernel
theorem dX11_law_96 : decode cX11_law 96 = .ok (.aload_n 0, 1) := by decide +kernel
theorem dX11_law_97 : decode cX11_law 97 = .ok (.iconst 5, 1) := by decide +kernel
theorem dX11_law_98 : decode cX11_law 98 = .ok (.invokevirtual 161, 3) := by decide +kernel
theorem dX11_law_101 : decode cX11_law 101 = .ok (.ireturn, 1) := by decide +kernel
theorem dX11_balance_0 : decode cX11_balance 0 = .ok (.aload_n 0, 1) := by decide +kernel
theorem dX11_balance_1 : decode cX11_balance 1 = .ok (.aload_n 0, 1) := by decide +kernel
theorem dX11_balance_2 : decode cX11_balance 2 = .ok (.getfield 56, 3) := by decide +kernel
theorem dX11_balance_5 : decode cX11_balance 5 = .ok (.invokevirtual 224, 3) := by decide +kernel
theorem dX11_balance_8 : decode cX11_balance 8 = .ok (.invokevirtual 175, 3) := by decide +kernel
theorem dX11_balance_11 : decode cX11_balance 11 = .ok (.ireturn, 1) := by decide +kernel
theorem dX11_copyDigits_0 : decode cX11_copyDigits 0 = .ok (.aload_n 0, 1) := by decide +kernel
theorem dX11_copyDigits_1 : decode cX11_copyDigits 1 = .ok (.getfield 26, 3) := by decide +kernel
theorem dX11_copyDigits_4 : decode cX11_copyDigits 4 = .ok (.iload_n 1, 1) := by decide +kernel
theorem dX11_copyDigits_5 : decode cX11_copyDigits 5 = .ok (.invokevirtual 113, 3) := by decide +kernel
theorem dX11_copyDigits_8 : decode cX11_copyDigits 8 = .ok (.ifCond .ne 9, 3) := by decide +kernel
theorem dX11_copyDigits_11 : decode cX11_copyDigits 11 = .ok (.aload_n 0, 1) := by decide +kernel
theorem dX11_copyDigits_12 : decode cX11_copyDigits 12 = .ok (.iconst 1, 1) := by decide +kernel
theorem dX11_copyDigits_13 : decode cX11_copyDigits 13 = .ok (.invokevirtual 161, 3) := by decide +kernel
theorem dX11_copyDigits_16 : decode cX11_copyDigits 16 = .ok (.ireturn, 1) := by decide +kernel
theorem dX11_copyDigits_17 : decode cX11_copyDigits 17 = .ok (.aload_n 0, 1) := by decide +kernel
theorem dX11_copyDigits_18 : decode cX11_copyDigits 18 = .ok (.getfield 26, 3) := by decide +kernel
theorem dX11_copyDigits_21 : decode cX11_copyDigits 21 = .ok (.iload_n 1, 1) := by decide +kernel
theorem dX11_copyDigits_22 : decode cX11_copyDigits 22 = .ok (.invokevirtual 138, 3) := by decide +kernel
theorem dX11_copyDigits_25 : decode cX11_copyDigits 25 = .ok (.ifCond .eq 9, 3) := by decide +kernel
theorem dX11_copyDigits_28 : decode cX11_copyDigits 28 = .ok (.aload_n 0, 1) := by decide +kernel
theorem dX11_copyDigits_29 : decode cX11_copyDigits 29 = .ok (.iconst 3, 1) := by decide +kernel
theorem dX11_copyDigits_30 : decode cX11_copyDigits 30 = .ok (.invokevirtual 161, 3) := by decide +kernel
theorem dX11_copyDigits_33 : decode cX11_copyDigits 33 = .ok (.ireturn, 1) := by decide +kernel
theorem dX11_copyDigits_34 : decode cX11_copyDigits 34 = .ok (.aload_n 0, 1) := by decide +kernel
theorem dX11_copyDigits_35 : decode cX11_copyDigits 35 = .ok (.getfield 56, 3) := by decide +kernel
theorem dX11_copyDigits_38 : decode cX11_copyDigits 38 = .ok (.invokevirtual 211, 3) := by decide +kernel
theorem dX11_copyDigits_41 : decode cX11_copyDigits 41 = .ok (.istore_n 2, 1) := by decide +kernel
theorem dX11_copyDigits_42 : decode cX11_copyDigits 42 = .ok (.aload_n 0, 1) := by decide +kernel
theorem dX11_copyDigits_43 : decode cX11_copyDigits 43 = .ok (.getfield 26, 3) := by decide +kernel
theorem dX11_copyDigits_46 : decode cX11_copyDigits 46 = .ok (.iload_n 1, 1) := by decide +kernel
theorem dX11_copyDigits_47 : decode cX11_copyDigits 47 = .ok (.iconst 0, 1) := by decide +kernel
theorem dX11_copyDigits_48 : decode cX11_copyDigits 48 = .ok (.iload_n 2, 1) := by decide +kernel
theorem dX11_copyDigits_49 : decode cX11_copyDigits 49 = .ok (.invokevirtual 145, 3) := by decide +kernel
theorem dX11_copyDigits_52 : decode cX11_copyDigits 52 = .ok (.ifCond .ne 9, 3) := by decide +kernel
theorem dX11_copyDigits_55 : decode cX11_copyDigits 55 = .ok (.aload_n 0, 1) := by decide +kernel
theorem dX11_copyDigits_56 : decode cX11_copyDigits 56 = .ok (.iconst 4, 1) := by decide +kernel
theorem dX11_copyDigits_57 : decode cX11_copyDigits 57 = .ok (.invokevirtual 161, 3) := by decide +kernel
theorem dX11_copyDigits_60 : decode cX11_copyDigits 60 = .ok (.ireturn, 1) := by decide +kernel
theorem dX11_copyDigits_61 : decode cX11_copyDigits 61 = .ok (.iconst 0, 1) := by decide +kernel
theorem dX11_copyDigits_62 : decode cX11_copyDigits 62 = .ok (.istore_n 3, 1) := by decide +kernel
theorem dX11_copyDigits_63 : decode cX11_copyDigits 63 = .ok (.iload_n 3, 1) := by decide +kernel
theorem dX11_copyDigits_64 : decode cX11_copyDigits 64 = .ok (.iload_n 2, 1) := by decide +kernel
theorem dX11_copyDigits_65 : decode cX11_copyDigits 65 = .ok (.if_icmp .ge 28, 3) := by decide +kernel
theorem dX11_copyDigits_68 : decode cX11_copyDigits 68 = .ok (.aload_n 0, 1) := by decide +kernel
theorem dX11_copyDigits_69 : decode cX11_copyDigits 69 = .ok (.getfield 26, 3) := by decide +kernel
theorem dX11_copyDigits_72 : decode cX11_copyDigits 72 = .ok (.iload_n 1, 1) := by decide +kernel
theorem dX11_copyDigits_73 : decode cX11_copyDigits 73 = .ok (.iload_n 3, 1) := by decide +kernel
theorem dX11_copyDigits_74 : decode cX11_copyDigits 74 = .ok (.aload_n 0, 1) := by decide +kernel
theorem dX11_copyDigits_75 : decode cX11_copyDigits 75 = .ok (.getfield 56, 3) := by decide +kernel
theorem dX11_copyDigits_78 : decode cX11_copyDigits 78 = .ok (.getfield 230, 3) := by decide +kernel
theorem dX11_copyDigits_81 : decode cX11_copyDigits 81 = .ok (.iload_n 3, 1) := by decide +kernel
theorem dX11_copyDigits_82 : decode cX11_copyDigits 82 = .ok (.iaload, 1) := by decide +kernel
theorem dX11_copyDigits_83 : decode cX11_copyDigits 83 = .ok (.i2l, 1) := by decide +kernel
theorem dX11_copyDigits_84 : decode cX11_copyDigits 84 = .ok (.invokevirtual 128, 3) := by decide +kernel
theorem dX11_copyDigits_87 : decode cX11_copyDigits 87 = .ok (.iinc 3 1, 3) := by decide +kernel
theorem dX11_copyDigits_90 : decode cX11_copyDigits 90 = .ok (.goto (-27), 3) := by decide +kernel
theorem dX11_copyDigits_93 : decode cX11_copyDigits 93 = .ok (.aload_n 0, 1) := by decide +kernel
theorem dX11_copyDigits_94 : decode cX11_copyDigits 94 = .ok (.iload_n 2, 1) := by decide +kernel
theorem dX11_copyDigits_95 : decode cX11_copyDigits 95 = .ok (.invokevirtual 175, 3) := by decide +kernel
theorem dX11_copyDigits_98 : decode cX11_copyDigits 98 = .ok (.ireturn, 1) := by decide +kernel
theorem dX11_step_0 : decode cX11_step 0 = .ok (.iload_n 1, 1) := by decide +kernel
theorem dX11_step_1 : decode cX11_step 1 = .ok (.iconst 0, 1) := by decide +kernel
theorem dX11_step_2 : decode cX11_step 2 = .ok (.iconst 4, 1) := by decide +kernel
theorem dX11_step_3 : decode cX11_step 3 = .ok (.invokestatic 116, 3) := by decide +kernel
theorem dX11_step_6 : decode cX11_step 6 = .ok (.ifCond .ne 9, 3) := by decide +kernel
theorem dX11_step_9 : decode cX11_step 9 = .ok (.aload_n 0, 1) := by decide +kernel
theorem dX11_step_10 : decode cX11_step 10 = .ok (.iconst 5, 1) := by decide +kernel
theorem dX11_step_11 : decode cX11_step 11 = .ok (.invokevirtual 161, 3) := by decide +kernel
theorem dX11_step_14 : decode cX11_step 14 = .ok (.ireturn, 1) := by decide +kernel
theorem dX11_step_15 : decode cX11_step 15 = .ok (.aload_n 0, 1) := by decide +kernel
theorem dX11_step_16 : decode cX11_step 16 = .ok (.getfield 56, 3) := by decide +kernel
theorem dX11_step_19 : decode cX11_step 19 = .ok (.getfield 208, 3) := by decide +kernel
theorem dX11_step_22 : decode cX11_step 22 = .ok (.sipush 9999, 3) := by decide +kernel
theorem dX11_step_25 : decode cX11_step 25 = .ok (.if_icmp .lt 10, 3) := by decide +kernel
theorem dX11_step_28 : decode cX11_step 28 = .ok (.aload_n 0, 1) := by decide +kernel
theorem dX11_step_29 : decode cX11_step 29 = .ok (.bipush 7, 2) := by decide +kernel
theorem dX11_step_31 : decode cX11_step 31 = .ok (.invokevirtual 161, 3) := by decide +kernel
theorem dX11_step_34 : decode cX11_step 34 = .ok (.ireturn, 1) := by decide +kernel
theorem dX11_step_35 : decode cX11_step 35 = .ok (.aload_n 0, 1) := by decide +kernel
theorem dX11_step_36 : decode cX11_step 36 = .ok (.getfield 56, 3) := by decide +kernel
theorem dX11_step_39 : decode cX11_step 39 = .ok (.getfield 172, 3) := by decide +kernel
theorem dX11_step_42 : decode cX11_step 42 = .ok (.ifCond .ne 10, 3) := by decide +kernel
theorem dX11_step_45 : decode cX11_step 45 = .ok (.aload_n 0, 1) := by decide +kernel
theorem dX11_step_46 : decode cX11_step 46 = .ok (.bipush 8, 2) := by decide +kernel
theorem dX11_step_48 : decode cX11_step 48 = .ok (.invokevirtual 161, 3) := by decide +kernel
theorem dX11_step_51 : decode cX11_step 51 = .ok (.ireturn, 1) := by decide +kernel
theorem dX11_step_52 : decode cX11_step 52 = .ok (.aload_n 0, 1) := by decide +kernel
theorem dX11_step_53 : decode cX11_step 53 = .ok (.getfield 56, 3) := by decide +kernel
theorem dX11_step_56 : decode cX11_step 56 = .ok (.aload_n 0, 1) := by decide +kernel
theorem dX11_step_57 : decode cX11_step 57 = .ok (.getfield 56, 3) := by decide +kernel
theorem dX11_step_60 : decode cX11_step 60 = .ok (.getfield 242, 3) := by decide +kernel
theorem dX11_step_63 : decode cX11_step 63 = .ok (.iload_n 1, 1) := by decide +kernel
theorem dX11_step_64 : decode cX11_step 64 = .ok (.invokevirtual 273, 3) := by decide +kernel
theorem dX11_step_67 : decode cX11_step 67 = .ok (.istore_n 2, 1) := by decide +kernel
theorem dX11_step_68 : decode cX11_step 68 = .ok (.iload_n 2, 1) := by decide +kernel
theorem dX11_step_69 : decode cX11_step 69 = .ok (.iconst (-1), 1) := by decide +kernel
theorem dX11_step_70 : decode cX11_step 70 = .ok (.if_icmp .ne 10, 3) := by decide +kernel
theorem dX11_step_73 : decode cX11_step 73 = .ok (.aload_n 0, 1) := by decide +kernel
theorem dX11_step_74 : decode cX11_step 74 = .ok (.bipush 9, 2) := by decide +kernel
theorem dX11_step_76 : decode cX11_step 76 = .ok (.invokevirtual 161, 3) := by decide +kernel
theorem dX11_step_79 : decode cX11_step 79 = .ok (.ireturn, 1) := by decide +kernel
theorem dX11_step_80 : decode cX11_step 80 = .ok (.aload_n 0, 1) := by decide +kernel
theorem dX11_step_81 : decode cX11_step 81 = .ok (.getfield 56, 3) := by decide +kernel
theorem dX11_step_84 : decode cX11_step 84 = .ok (.iload_n 2, 1) := by decide +kernel
theorem dX11_step_85 : decode cX11_step 85 = .ok (.invokevirtual 276, 3) := by decide +kernel
theorem dX11_step_88 : decode cX11_step 88 = .ok (.aload_n 0, 1) := by decide +kernel
theorem dX11_step_89 : decode cX11_step 89 = .ok (.getfield 56, 3) := by decide +kernel
theorem dX11_step_92 : decode cX11_step 92 = .ok (.iconst 1, 1) := by decide +kernel
theorem dX11_step_93 : decode cX11_step 93 = .ok (.invokevirtual 279, 3) := by decide +kernel
theorem dX11_step_96 : decode cX11_step 96 = .ok (.pop, 1) := by decide +kernel
theorem dX11_step_97 : decode cX11_step 97 = .ok (.aload_n 0, 1) := by decide +kernel
theorem dX11_step_98 : decode cX11_step 98 = .ok (.iload_n 2, 1) := by decide +kernel
theorem dX11_step_99 : decode cX11_step 99 = .ok (.invokevirtual 175, 3) := by decide +kernel
theorem dX11_step_102 : decode cX11_step 102 = .ok (.ireturn, 1) := by decide +kernel
theorem dX11_doze_0 : decode cX11_doze 0 = .ok (.iload_n 1, 1) := by decide +kernel
theorem dX11_doze_1 : decode cX11_doze 1 = .ok (.iconst 1, 1) := by decide +kernel
theorem dX11_doze_2 : decode cX11_doze 2 = .ok (.bipush 99, 2) := by decide +kernel
theorem dX11_doze_4 : decode cX11_doze 4 = .ok (.invokestatic 116, 3) := by decide +kernel
theorem dX11_doze_7 : decode cX11_doze 7 = .ok (.ifCond .ne 9, 3) := by decide +kernel
theorem dX11_doze_10 : decode cX11_doze 10 = .ok (.aload_n 0, 1) := by decide +kernel
theorem dX11_doze_11 : decode cX11_doze 11 = .ok (.iconst 5, 1) := by decide +kernel
theorem dX11_doze_12 : decode cX11_doze 12 = .ok (.invokevirtual 161, 3) := by decide +kernel
theorem dX11_doze_15 : decode cX11_doze 15 = .ok (.ireturn, 1) := by decide +kernel
theorem dX11_doze_16 : decode cX11_doze 16 = .ok (.aload_n 0, 1) := by decide +kernel
theorem dX11_doze_17 : decode cX11_doze 17 = .ok (.getfield 56, 3) := by decide +kernel
theorem dX11_doze_20 : decode cX11_doze 20 = .ok (.getfield 208, 3) := by decide +kernel
theorem dX11_doze_23 : decode cX11_doze 23 = .ok (.iload_n 1, 1) := by decide +kernel
theorem dX11_doze_24 : decode cX11_doze 24 = .ok (.iadd, 1) := by decide +kernel
theorem dX11_doze_25 : decode cX11_doze 25 = .ok (.sipush 9999, 3) := by decide +kernel
theorem dX11_doze_28 : decode cX11_doze 28 = .ok (.if_icmp .le 10, 3) := by decide +kernel
theorem dX11_doze_31 : decode cX11_doze 31 = .ok (.aload_n 0, 1) := by decide +kernel
theorem dX11_doze_32 : decode cX11_doze 32 = .ok (.bipush 7, 2) := by decide +kernel
theorem dX11_doze_34 : decode cX11_doze 34 = .ok (.invokevirtual 161, 3) := by decide +kernel
theorem dX11_doze_37 : decode cX11_doze 37 = .ok (.ireturn, 1) := by decide +kernel
theorem dX11_doze_38 : decode cX11_doze 38 = .ok (.aload_n 0, 1) := by decide +kernel
theorem dX11_doze_39 : decode cX11_doze 39 = .ok (.getfield 56, 3) := by decide +kernel
theorem dX11_doze_42 : decode cX11_doze 42 = .ok (.iload_n 1, 1) := by decide +kernel
theorem dX11_doze_43 : decode cX11_doze 43 = .ok (.invokevirtual 279, 3) := by decide +kernel
theorem dX11_doze_46 : decode cX11_doze 46 = .ok (.pop, 1) := by decide +kernel
theorem dX11_doze_47 : decode cX11_doze 47 = .ok (.aload_n 0, 1) := by decide +kernel
theorem dX11_doze_48 : decode cX11_doze 48 = .ok (.aload_n 0, 1) := by decide +kernel
theorem dX11_doze_49 : decode cX11_doze 49 = .ok (.getfield 56, 3) := by decide +kernel
theorem dX11_doze_52 : decode cX11_doze 52 = .ok (.invokevirtual 215, 3) := by decide +kernel
theorem dX11_doze_55 : decode cX11_doze 55 = .ok (.invokevirtual 175, 3) := by decide +kernel
theorem dX11_doze_58 : decode cX11_doze 58 = .ok (.ireturn, 1) := by decide +kernel
theorem dX11_mend_0 : decode cX11_mend 0 = .ok (.aload_n 0, 1) := by decide +kernel
theorem dX11_mend_1 : decode cX11_mend 1 = .ok (.getfield 56, 3) := by decide +kernel
theorem dX11_mend_4 : decode cX11_mend 4 = .ok (.iload_n 1, 1) := by decide +kernel
theorem dX11_mend_5 : decode cX11_mend 5 = .ok (.invokevirtual 227, 3) := by decide +kernel
theorem dX11_mend_8 : decode cX11_mend 8 = .ok (.ifCond .ne 9, 3) := by decide +kernel
theorem dX11_mend_11 : decode cX11_mend 11 = .ok (.aload_n 0, 1) := by decide +kernel
theorem dX11_mend_12 : decode cX11_mend 12 = .ok (.iconst 2, 1) := by decide +kernel
theorem dX11_mend_13 : decode cX11_mend 13 = .ok (.invokevirtual 161, 3) := by decide +kernel
theorem dX11_mend_16 : decode cX11_mend 16 = .ok (.ireturn, 1) := by decide +kernel
theorem dX11_mend_17 : decode cX11_mend 17 = .ok (.aload_n 0, 1) := by decide +kernel
theorem dX11_mend_18 : decode cX11_mend 18 = .ok (.getfield 56, 3) := by decide +kernel
theorem dX11_mend_21 : decode cX11_mend 21 = .ok (.iload_n 1, 1) := by decide +kernel
theorem dX11_mend_22 : decode cX11_mend 22 = .ok (.invokevirtual 239, 3) := by decide +kernel
theorem dX11_mend_25 : decode cX11_mend 25 = .ok (.ifCond .ne 10, 3) := by decide +kernel
theorem dX11_mend_28 : decode cX11_mend 28 = .ok (.aload_n 0, 1) := by decide +kernel
theorem dX11_mend_29 : decode cX11_mend 29 = .ok (.bipush 9, 2) := by decide +kernel
theorem dX11_mend_31 : decode cX11_mend 31 = .ok (.invokevirtual 161, 3) := by decide +kernel
theorem dX11_mend_34 : decode cX11_mend 34 = .ok (.ireturn, 1) := by decide +kernel
theorem dX11_mend_35 : decode cX11_mend 35 = .ok (.aload_n 0, 1) := by decide +kernel
theorem dX11_mend_36 : decode cX11_mend 36 = .ok (.aload_n 0, 1) := by decide +kernel
theorem dX11_mend_37 : decode cX11_mend 37 = .ok (.getfield 56, 3) := by decide +kernel
theorem dX11_mend_40 : decode cX11_mend 40 = .ok (.iload_n 1, 1) := by decide +kernel
theorem dX11_mend_41 : decode cX11_mend 41 = .ok (.aload_n 0, 1) := by decide +kernel
theorem dX11_mend_42 : decode cX11_mend 42 = .ok (.getfield 56, 3) := by decide +kernel
theorem dX11_mend_45 : decode cX11_mend 45 = .ok (.getfield 233, 3) := by decide +kernel
theorem dX11_mend_48 : decode cX11_mend 48 = .ok (.iload_n 1, 1) := by decide +kernel
theorem dX11_mend_49 : decode cX11_mend 49 = .ok (.iaload, 1) := by decide +kernel
theorem dX11_mend_50 : decode cX11_mend 50 = .ok (.invokevirtual 282, 3) := by decide +kernel
theorem dX11_mend_53 : decode cX11_mend 53 = .ok (.invokevirtual 175, 3) := by decide +kernel
theorem dX11_mend_56 : decode cX11_mend 56 = .ok (.ireturn, 1) := by decide +kernel
theorem dX11_steal_0 : decode cX11_steal 0 = .ok (.aload_n 0, 1) := by decide +kernel
theorem dX11_steal_1 : decode cX11_steal 1 = .ok (.getfield 56, 3) := by decide +kernel
theorem dX11_steal_4 : decode cX11_steal 4 = .ok (.iload_n 1, 1) := by decide +kernel
theorem dX11_steal_5 : decode cX11_steal 5 = .ok (.invokevirtual 227, 3) := by decide +kernel
theorem dX11_steal_8 : decode cX11_steal 8 = .ok (.ifCond .ne 9, 3) := by decide +kernel
theorem dX11_steal_11 : decode cX11_steal 11 = .ok (.aload_n 0, 1) := by decide +kernel
theorem dX11_steal_12 : decode cX11_steal 12 = .ok (.iconst 2, 1) := by decide +kernel
theorem dX11_steal_13 : decode cX11_steal 13 = .ok (.invokevirtual 161, 3) := by decide +kernel
theorem dX11_steal_16 : decode cX11_steal 16 = .ok (.ireturn, 1) := by decide +kernel
theorem dX11_steal_17 : decode cX11_steal 17 = .ok (.aload_n 0, 1) := by decide +kernel
theorem dX11_steal_18 : decode cX11_steal 18 = .ok (.getfield 56, 3) := by decide +kernel
theorem dX11_steal_21 : decode cX11_steal 21 = .ok (.getfield 230, 3) := by decide +kernel
theorem dX11_steal_24 : decode cX11_steal 24 = .ok (.iload_n 1, 1) := by decide +kernel
theorem dX11_steal_25 : decode cX11_steal 25 = .ok (.iaload, 1) := by decide +kernel
theorem dX11_steal_26 : decode cX11_steal 26 = .ok (.ifCond .ne 10, 3) := by decide +kernel
theorem dX11_steal_29 : decode cX11_steal 29 = .ok (.aload_n 0, 1) := by decide +kernel
theorem dX11_steal_30 : decode cX11_steal 30 = .ok (.bipush 9, 2) := by decide +kernel
theorem dX11_steal_32 : decode cX11_steal 32 = .ok (.invokevirtual 161, 3) := by decide +kernel
theorem dX11_steal_35 : decode cX11_steal 35 = .ok (.ireturn, 1) := by decide +kernel
theorem dX11_steal_36 : decode cX11_steal 36 = .ok (.aload_n 0, 1) := by decide +kernel
theorem dX11_steal_37 : decode cX11_steal 37 = .ok (.aload_n 0, 1) := by decide +kernel
theorem dX11_steal_38 : decode cX11_steal 38 = .ok (.getfield 56, 3) := by decide +kernel
theorem dX11_steal_41 : decode cX11_steal 41 = .ok (.iload_n 1, 1) := by decide +kernel
theorem dX11_steal_42 : decode cX11_steal 42 = .ok (.invokevirtual 285, 3) := by decide +kernel
theorem dX11_steal_45 : decode cX11_steal 45 = .ok (.invokevirtual 175, 3) := by decide +kernel
theorem dX11_steal_48 : decode cX11_steal 48 = .ok (.ireturn, 1) := by decide +kernel
theorem dX11_scratch_0 : decode cX11_scratch 0 = .ok (.aload_n 0, 1) := by decide +kernel
theorem dX11_scratch_1 : decode cX11_scratch 1 = .ok (.getfield 56, 3) := by decide +kernel
theorem dX11_scratch_4 : decode cX11_scratch 4 = .ok (.iload_n 1, 1) := by decide +kernel
theorem dX11_scratch_5 : decode cX11_scratch 5 = .ok (.invokevirtual 227, 3) := by decide +kernel
theorem dX11_scratch_8 : decode cX11_scratch 8 = .ok (.ifCond .ne 9, 3) := by decide +kernel
theorem dX11_scratch_11 : decode cX11_scratch 11 = .ok (.aload_n 0, 1) := by decide +kernel
theorem dX11_scratch_12 : decode cX11_scratch 12 = .ok (.iconst 2, 1) := by decide +kernel
theorem dX11_scratch_13 : decode cX11_scratch 13 = .ok (.invokevirtual 161, 3) := by decide +kernel
theorem dX11_scratch_16 : decode cX11_scratch 16 = .ok (.ireturn, 1) := by decide +kernel
theorem dX11_scratch_17 : decode cX11_scratch 17 = .ok (.iload_n 2, 1) := by decide +kernel
theorem dX11_scratch_18 : decode cX11_scratch 18 = .ok (.iconst 0, 1) := by decide +kernel
theorem dX11_scratch_19 : decode cX11_scratch 19 = .ok (.bipush 9, 2) := by decide +kernel
theorem dX11_scratch_21 : decode cX11_scratch 21 = .ok (.invokestatic 116, 3) := by decide +kernel
theorem dX11_scratch_24 : decode cX11_scratch 24 = .ok (.ifCond .ne 9, 3) := by decide +kernel
theorem dX11_scratch_27 : decode cX11_scratch 27 = .ok (.aload_n 0, 1) := by decide +kernel
theorem dX11_scratch_28 : decode cX11_scratch 28 = .ok (.iconst 5, 1) := by decide +kernel
theorem dX11_scratch_29 : decode cX11_scratch 29 = .ok (.invokevirtual 161, 3) := by decide +kernel
theorem dX11_scratch_32 : decode cX11_scratch 32 = .ok (.ireturn, 1) := by decide +kernel
theorem dX11_scratch_33 : decode cX11_scratch 33 = .ok (.aload_n 0, 1) := by decide +kernel
theorem dX11_scratch_34 : decode cX11_scratch 34 = .ok (.getfield 56, 3) := by decide +kernel
theorem dX11_scratch_37 : decode cX11_scratch 37 = .ok (.getfield 230, 3) := by decide +kernel
theorem dX11_scratch_40 : decode cX11_scratch 40 = .ok (.iload_n 1, 1) := by decide +kernel
theorem dX11_scratch_41 : decode cX11_scratch 41 = .ok (.iaload, 1) := by decide +kernel
theorem dX11_scratch_42 : decode cX11_scratch 42 = .ok (.iload_n 2, 1) := by decide +kernel
theorem dX11_scratch_43 : decode cX11_scratch 43 = .ok (.if_icmp .ne 10, 3) := by decide +kernel
theorem dX11_scratch_46 : decode cX11_scratch 46 = .ok (.aload_n 0, 1) := by decide +kernel
theorem dX11_scratch_47 : decode cX11_scratch 47 = .ok (.bipush 9, 2) := by decide +kernel
theorem dX11_scratch_49 : decode cX11_scratch 49 = .ok (.invokevirtual 161, 3) := by decide +kernel
theorem dX11_scratch_52 : decode cX11_scratch 52 = .ok (.ireturn, 1) := by decide +kernel
theorem dX11_scratch_53 : decode cX11_scratch 53 = .ok (.aload_n 0, 1) := by decide +kernel
theorem dX11_scratch_54 : decode cX11_scratch 54 = .ok (.aload_n 0, 1) := by decide +kernel
theorem dX11_scratch_55 : decode cX11_scratch 55 = .ok (.getfield 56, 3) := by decide +kernel
theorem dX11_scratch_58 : decode cX11_scratch 58 = .ok (.iload_n 1, 1) := by decide +kernel
theorem dX11_scratch_59 : decode cX11_scratch 59 = .ok (.iload_n 2, 1) := by decide +kernel
theorem dX11_scratch_60 : decode cX11_scratch 60 = .ok (.invokevirtual 282, 3) := by decide +kernel
theorem dX11_scratch_63 : decode cX11_scratch 63 = .ok (.invokevirtual 175, 3) := by decide +kernel
theorem dX11_scratch_66 : decode cX11_scratch 66 = .ok (.ireturn, 1) := by decide +kernel
theorem dX11_vouch_0 : decode cX11_vouch 0 = .ok (.aload_n 0, 1) := by decide +kernel
theorem dX11_vouch_1 : decode cX11_vouch 1 = .ok (.getfield 56, 3) := by decide +kernel
theorem dX11_vouch_4 : decode cX11_vouch 4 = .ok (.iload_n 1, 1) := by decide +kernel
theorem dX11_vouch_5 : decode cX11_vouch 5 = .ok (.invokevirtual 227, 3) := by decide +kernel
theorem dX11_vouch_8 : decode cX11_vouch 8 = .ok (.ifCond .ne 9, 3) := by decide +kernel
theorem dX11_vouch_11 : decode cX11_vouch 11 = .ok (.aload_n 0, 1) := by decide +kernel
theorem dX11_vouch_12 : decode cX11_vouch 12 = .ok (.iconst 2, 1) := by decide +kernel
theorem dX11_vouch_13 : decode cX11_vouch 13 = .ok (.invokevirtual 161, 3) := by decide +kernel
theorem dX11_vouch_16 : decode cX11_vouch 16 = .ok (.ireturn, 1) := by decide +kernel
theorem dX11_vouch_17 : decode cX11_vouch 17 = .ok (.aload_n 0, 1) := by decide +kernel
theorem dX11_vouch_18 : decode cX11_vouch 18 = .ok (.getfield 56, 3) := by decide +kernel
theorem dX11_vouch_21 : decode cX11_vouch 21 = .ok (.iload_n 1, 1) := by decide +kernel
theorem dX11_vouch_22 : decode cX11_vouch 22 = .ok (.invokevirtual 239, 3) := by decide +kernel
theorem dX11_vouch_25 : decode cX11_vouch 25 = .ok (.ifCond .ne 10, 3) := by decide +kernel
theorem dX11_vouch_28 : decode cX11_vouch 28 = .ok (.aload_n 0, 1) := by decide +kernel
theorem dX11_vouch_29 : decode cX11_vouch 29 = .ok (.bipush 9, 2) := by decide +kernel
theorem dX11_vouch_31 : decode cX11_vouch 31 = .ok (.invokevirtual 161, 3) := by decide +kernel
theorem dX11_vouch_34 : decode cX11_vouch 34 = .ok (.ireturn, 1) := by decide +kernel
theorem dX11_vouch_35 : decode cX11_vouch 35 = .ok (.aload_n 0, 1) := by decide +kernel
theorem dX11_vouch_36 : decode cX11_vouch 36 = .ok (.getfield 56, 3) := by decide +kernel
theorem dX11_vouch_39 : decode cX11_vouch 39 = .ok (.getfield 233, 3) := by decide +kernel
theorem dX11_vouch_42 : decode cX11_vouch 42 = .ok (.iload_n 1, 1) := by decide +kernel
theorem dX11_vouch_43 : decode cX11_vouch 43 = .ok (.iaload, 1) := by decide +kernel
theorem dX11_vouch_44 : decode cX11_vouch 44 = .ok (.istore_n 2, 1) := by decide +kernel
theorem dX11_vouch_45 : decode cX11_vouch 45 = .ok (.aload_n 0, 1) := by decide +kernel
theorem dX11_vouch_46 : decode cX11_vouch 46 = .ok (.getfield 56, 3) := by decide +kernel
theorem dX11_vouch_49 : decode cX11_vouch 49 = .ok (.getfield 233, 3) := by decide +kernel
theorem dX11_vouch_52 : decode cX11_vouch 52 = .ok (.iload_n 1, 1) := by decide +kernel
theorem dX11_vouch_53 : decode cX11_vouch 53 = .ok (.aload_n 0, 1) := by decide +kernel
theorem dX11_vouch_54 : decode cX11_vouch 54 = .ok (.getfield 56, 3) := by decide +kernel
theorem dX11_vouch_57 : decode cX11_vouch 57 = .ok (.getfield 230, 3) := by decide +kernel
theorem dX11_vouch_60 : decode cX11_vouch 60 = .ok (.iload_n 1, 1) := by decide +kernel
theorem dX11_vouch_61 : decode cX11_vouch 61 = .ok (.iaload, 1) := by decide +kernel
theorem dX11_vouch_62 : decode cX11_vouch 62 = .ok (.iastore, 1) := by decide +kernel
theorem dX11_vouch_63 : decode cX11_vouch 63 = .ok (.aload_n 0, 1) := by decide +kernel
theorem dX11_vouch_64 : decode cX11_vouch 64 = .ok (.iload_n 2, 1) := by decide +kernel
theorem dX11_vouch_65 : decode cX11_vouch 65 = .ok (.invokevirtual 175, 3) := by decide +kernel
theorem dX11_vouch_68 : decode cX11_vouch 68 = .ok (.ireturn, 1) := by decide +kernel
theorem dX11_enact_0 : decode cX11_enact 0 = .ok (.iload_n 1, 1) := by decide +kernel
theorem dX11_enact_1 : decode cX11_enact 1 = .ok (.iconst 0, 1) := by decide +kernel
theorem dX11_enact_2 : decode cX11_enact 2 = .ok (.bipush 9, 2) := by decide +kernel
theorem dX11_enact_4 : decode cX11_enact 4 = .ok (.invokestatic 116, 3) := by decide +kernel
theorem dX11_enact_7 : decode cX11_enact 7 = .ok (.ifCond .eq 22, 3) := by decide +kernel
theorem dX11_enact_10 : decode cX11_enact 10 = .ok (.iload_n 2, 1) := by decide +kernel
theorem dX11_enact_11 : decode cX11_enact 11 = .ok (.iconst 0, 1) := by decide +kernel
theorem dX11_enact_12 : decode cX11_enact 12 = .ok (.bipush 9, 2) := by decide +kernel
theorem dX11_enact_14 : decode cX11_enact 14 = .ok (.invokestatic 116, 3) := by decide +kernel
theorem dX11_enact_17 : decode cX11_enact 17 = .ok (.ifCond .eq 12, 3) := by decide +kernel
theorem dX11_enact_20 : decode cX11_enact 20 = .ok (.iload_n 3, 1) := by decide +kernel
theorem dX11_enact_21 : decode cX11_enact 21 = .ok (.iconst 0, 1) := by decide +kernel
theorem dX11_enact_22 : decode cX11_enact 22 = .ok (.iconst 4, 1) := by decide +kernel
theorem dX11_enact_23 : decode cX11_enact 23 = .ok (.invokestatic 116, 3) := by decide +kernel
theorem dX11_enact_26 : decode cX11_enact 26 = .ok (.ifCond .ne 9, 3) := by decide +kernel
theorem dX11_enact_29 : decode cX11_enact 29 = .ok (.aload_n 0, 1) := by decide +kernel
theorem dX11_enact_30 : decode cX11_enact 30 = .ok (.iconst 5, 1) := by decide +kernel
theorem dX11_enact_31 : decode cX11_enact 31 = .ok (.invokevirtual 161, 3) := by decide +kernel
theorem dX11_enact_34 : decode cX11_enact 34 = .ok (.ireturn, 1) := by decide +kernel
theorem dX11_enact_35 : decode cX11_enact 35 = .ok (.iload_n 3, 1) := by decide +kernel
theorem dX11_enact_36 : decode cX11_enact 36 = .ok (.ifCond .eq 20, 3) := by decide +kernel
theorem dX11_enact_39 : decode cX11_enact 39 = .ok (.iload 4, 2) := by decide +kernel
theorem dX11_enact_41 : decode cX11_enact 41 = .ok (.iconst 0, 1) := by decide +kernel
theorem dX11_enact_42 : decode cX11_enact 42 = .ok (.bipush 9, 2) := by decide +kernel
theorem dX11_enact_44 : decode cX11_enact 44 = .ok (.invokestatic 116, 3) := by decide +kernel
theorem dX11_enact_47 : decode cX11_enact 47 = .ok (.ifCond .ne 9, 3) := by decide +kernel
theorem dX11_enact_50 : decode cX11_enact 50 = .ok (.aload_n 0, 1) := by decide +kernel
theorem dX11_enact_51 : decode cX11_enact 51 = .ok (.iconst 5, 1) := by decide +kernel
theorem dX11_enact_52 : decode cX11_enact 52 = .ok (.invokevirtual 161, 3) := by decide +kernel
theorem dX11_enact_55 : decode cX11_enact 55 = .ok (.ireturn, 1) := by decide +kernel
theorem dX11_enact_56 : decode cX11_enact 56 = .ok (.aload_n 0, 1) := by decide +kernel
theorem dX11_enact_57 : decode cX11_enact 57 = .ok (.getfield 56, 3) := by decide +kernel
theorem dX11_enact_60 : decode cX11_enact 60 = .ok (.getfield 190, 3) := by decide +kernel
theorem dX11_enact_63 : decode cX11_enact 63 = .ok (.getfield 194, 3) := by decide +kernel
theorem dX11_enact_66 : decode cX11_enact 66 = .ok (.bipush 10, 2) := by decide +kernel
theorem dX11_enact_68 : decode cX11_enact 68 = .ok (.if_icmp .lt 10, 3) := by decide +kernel
theorem dX11_enact_71 : decode cX11_enact 71 = .ok (.aload_n 0, 1) := by decide +kernel
theorem dX11_enact_72 : decode cX11_enact 72 = .ok (.bipush 7, 2) := by decide +kernel
theorem dX11_enact_74 : decode cX11_enact 74 = .ok (.invokevirtual 161, 3) := by decide +kernel
theorem dX11_enact_77 : decode cX11_enact 77 = .ok (.ireturn, 1) := by decide +kernel
theorem dX11_enact_78 : decode cX11_enact 78 = .ok (.aload_n 0, 1) := by decide +kernel
theorem dX11_enact_79 : decode cX11_enact 79 = .ok (.getfield 56, 3) := by decide +kernel
theorem dX11_enact_82 : decode cX11_enact 82 = .ok (.getfield 190, 3) := by decide +kernel
theorem dX11_enact_85 : decode cX11_enact 85 = .ok (.iload_n 1, 1) := by decide +kernel
theorem dX11_enact_86 : decode cX11_enact 86 = .ok (.iload_n 2, 1) := by decide +kernel
theorem dX11_enact_87 : decode cX11_enact 87 = .ok (.iload_n 3, 1) := by decide +kernel
theorem dX11_enact_88 : decode cX11_enact 88 = .ok (.iload 4, 2) := by decide +kernel
theorem dX11_enact_90 : decode cX11_enact 90 = .ok (.invokevirtual 288, 3) := by decide +kernel
theorem dX11_enact_93 : decode cX11_enact 93 = .ok (.aload_n 0, 1) := by decide +kernel
theorem dX11_enact_94 : decode cX11_enact 94 = .ok (.aload_n 0, 1) := by decide +kernel
theorem dX11_enact_95 : decode cX11_enact 95 = .ok (.getfield 56, 3) := by decide +kernel
theorem dX11_enact_98 : decode cX11_enact 98 = .ok (.getfield 190, 3) := by decide +kernel
theorem dX11_enact_101 : decode cX11_enact 101 = .ok (.getfield 194, 3) := by decide +kernel
theorem dX11_enact_104 : decode cX11_enact 104 = .ok (.iconst 1, 1) := by decide +kernel
theorem dX11_enact_105 : decode cX11_enact 105 = .ok (.isub, 1) := by decide +kernel
theorem dX11_enact_106 : decode cX11_enact 106 = .ok (.invokevirtual 175, 3) := by decide +kernel
theorem dX11_enact_109 : decode cX11_enact 109 = .ok (.ireturn, 1) := by decide +kernel
theorem dX11_repeal_0 : decode cX11_repeal 0 = .ok (.aload_n 0, 1) := by decide +kernel
theorem dX11_repeal_1 : decode cX11_repeal 1 = .ok (.getfield 56, 3) := by decide +kernel
theorem dX11_repeal_4 : decode cX11_repeal 4 = .ok (.getfield 190, 3) := by decide +kernel
theorem dX11_repeal_7 : decode cX11_repeal 7 = .ok (.iload_n 1, 1) := by decide +kernel
theorem dX11_repeal_8 : decode cX11_repeal 8 = .ok (.invokevirtual 258, 3) := by decide +kernel
theorem dX11_repeal_11 : decode cX11_repeal 11 = .ok (.ifCond .ne 9, 3) := by decide +kernel
theorem dX11_repeal_14 : decode cX11_repeal 14 = .ok (.aload_n 0, 1) := by decide +kernel
theorem dX11_repeal_15 : decode cX11_repeal 15 = .ok (.iconst 2, 1) := by decide +kernel
theorem dX11_repeal_16 : decode cX11_repeal 16 = .ok (.invokevirtual 161, 3) := by decide +kernel
theorem dX11_repeal_19 : decode cX11_repeal 19 = .ok (.ireturn, 1) := by decide +kernel
theorem dX11_repeal_20 : decode cX11_repeal 20 = .ok (.aload_n 0, 1) := by decide +kernel
theorem dX11_repeal_21 : decode cX11_repeal 21 = .ok (.getfield 56, 3) := by decide +kernel
theorem dX11_repeal_24 : decode cX11_repeal 24 = .ok (.getfield 190, 3) := by decide +kernel
theorem dX11_repeal_27 : decode cX11_repeal 27 = .ok (.iload_n 1, 1) := by decide +kernel
theorem dX11_repeal_28 : decode cX11_repeal 28 = .ok (.invokevirtual 292, 3) := by decide +kernel
theorem dX11_repeal_31 : decode cX11_repeal 31 = .ok (.aload_n 0, 1) := by decide +kernel
theorem dX11_repeal_32 : decode cX11_repeal 32 = .ok (.aload_n 0, 1) := by decide +kernel
theorem dX11_repeal_33 : decode cX11_repeal 33 = .ok (.getfield 56, 3) := by decide +kernel
theorem dX11_repeal_36 : decode cX11_repeal 36 = .ok (.getfield 190, 3) := by decide +kernel
theorem dX11_repeal_39 : decode cX11_repeal 39 = .ok (.getfield 194, 3) := by decide +kernel
theorem dX11_repeal_42 : decode cX11_repeal 42 = .ok (.invokevirtual 175, 3) := by decide +kernel
theorem dX11_repeal_45 : decode cX11_repeal 45 = .ok (.ireturn, 1) := by decide +kernel
theorem dX11_rule_0 : decode cX11_rule 0 = .ok (.iload_n 1, 1) := by decide +kernel
theorem dX11_rule_1 : decode cX11_rule 1 = .ok (.iconst 3, 1) := by decide +kernel
theorem dX11_rule_2 : decode cX11_rule 2 = .ok (.if_icmp .ne 27, 3) := by decide +kernel
theorem dX11_rule_5 : decode cX11_rule 5 = .ok (.iload_n 2, 1) := by decide +kernel
theorem dX11_rule_6 : decode cX11_rule 6 = .ok (.iconst 1, 1) := by decide +kernel
theorem dX11_rule_7 : decode cX11_rule 7 = .ok (.bipush 9, 2) := by decide +kernel
theorem dX11_rule_9 : decode cX11_rule 9 = .ok (.invokestatic 116, 3) := by decide +kernel
theorem dX11_rule_12 : decode cX11_rule 12 = .ok (.ifCond .eq 17, 3) := by decide +kernel
theorem dX11_rule_15 : decode cX11_rule 15 = .ok (.aload_n 0, 1) := by decide +kernel
theorem dX11_rule_16 : decode cX11_rule 16 = .ok (.getfield 56, 3) := by decide +kernel
theorem dX11_rule_19 : decode cX11_rule 19 = .ok (.iload_n 2, 1) := by decide +kernel
theorem dX11_rule_20 : decode cX11_rule 20 = .ok (.putfield 202, 3) := by decide +kernel
theorem dX11_rule_23 : decode cX11_rule 23 = .ok (.aload_n 0, 1) := by decide +kernel
theorem dX11_rule_24 : decode cX11_rule 24 = .ok (.iconst 0, 1) := by decide +kernel
theorem dX11_rule_25 : decode cX11_rule 25 = .ok (.invokevirtual 109, 3) := by decide +kernel
theorem dX11_rule_28 : decode cX11_rule 28 = .ok (.ireturn, 1) := by decide +kernel
theorem dX11_rule_29 : decode cX11_rule 29 = .ok (.iload_n 1, 1) := by decide +kernel
theorem dX11_rule_30 : decode cX11_rule 30 = .ok (.iconst 4, 1) := by decide +kernel
theorem dX11_rule_31 : decode cX11_rule 31 = .ok (.if_icmp .ne 27, 3) := by decide +kernel
theorem dX11_rule_34 : decode cX11_rule 34 = .ok (.iload_n 2, 1) := by decide +kernel
theorem dX11_rule_35 : decode cX11_rule 35 = .ok (.iconst 0, 1) := by decide +kernel
theorem dX11_rule_36 : decode cX11_rule 36 = .ok (.bipush 16, 2) := by decide +kernel
theorem dX11_rule_38 : decode cX11_rule 38 = .ok (.invokestatic 116, 3) := by decide +kernel
theorem dX11_rule_41 : decode cX11_rule 41 = .ok (.ifCond .eq 17, 3) := by decide +kernel
theorem dX11_rule_44 : decode cX11_rule 44 = .ok (.aload_n 0, 1) := by decide +kernel
theorem dX11_rule_45 : decode cX11_rule 45 = .ok (.getfield 56, 3) := by decide +kernel
theorem dX11_rule_48 : decode cX11_rule 48 = .ok (.iload_n 2, 1) := by decide +kernel
theorem dX11_rule_49 : decode cX11_rule 49 = .ok (.putfield 205, 3) := by decide +kernel
theorem dX11_rule_52 : decode cX11_rule 52 = .ok (.aload_n 0, 1) := by decide +kernel
theorem dX11_rule_53 : decode cX11_rule 53 = .ok (.iconst 0, 1) := by decide +kernel
theorem dX11_rule_54 : decode cX11_rule 54 = .ok (.invokevirtual 109, 3) := by decide +kernel
theorem dX11_rule_57 : decode cX11_rule 57 = .ok (.ireturn, 1) := by decide +kernel
theorem dX11_rule_58 : decode cX11_rule 58 = .ok (.aload_n 0, 1) := by decide +kernel
theorem dX11_rule_59 : decode cX11_rule 59 = .ok (.iconst 5, 1) := by decide +kernel
theorem dX11_rule_60 : decode cX11_rule 60 = .ok (.invokevirtual 109, 3) := by decide +kernel
theorem dX11_rule_63 : decode cX11_rule 63 = .ok (.ireturn, 1) := by decide +kernel
theorem dX11_spareAhead_0 : decode cX11_spareAhead 0 = .ok (.aload_n 0, 1) := by decide +kernel
theorem dX11_spareAhead_1 : decode cX11_spareAhead 1 = .ok (.getfield 60, 3) := by decide +kernel
theorem dX11_spareAhead_4 : decode cX11_spareAhead 4 = .ok (.aload_n 0, 1) := by decide +kernel
theorem dX11_spareAhead_5 : decode cX11_spareAhead 5 = .ok (.getfield 56, 3) := by decide +kernel
theorem dX11_spareAhead_8 : decode cX11_spareAhead 8 = .ok (.invokevirtual 295, 3) := by decide +kernel
theorem dX11_spareAhead_11 : decode cX11_spareAhead 11 = .ok (.aload_n 0, 1) := by decide +kernel
theorem dX11_spareAhead_12 : decode cX11_spareAhead 12 = .ok (.getfield 60, 3) := by decide +kernel
theorem dX11_spareAhead_15 : decode cX11_spareAhead 15 = .ok (.iload_n 1, 1) := by decide +kernel
theorem dX11_spareAhead_16 : decode cX11_spareAhead 16 = .ok (.invokevirtual 279, 3) := by decide +kernel
theorem dX11_spareAhead_19 : decode cX11_spareAhead 19 = .ok (.pop, 1) := by decide +kernel
theorem dX11_spareAhead_20 : decode cX11_spareAhead 20 = .ok (.aload_n 0, 1) := by decide +kernel
theorem dX11_spareAhead_21 : decode cX11_spareAhead 21 = .ok (.getfield 60, 3) := by decide +kernel
theorem dX11_spareAhead_24 : decode cX11_spareAhead 24 = .ok (.areturn, 1) := by decide +kernel
theorem dX11_digitIn_0 : decode cX11_digitIn 0 = .ok (.aload_n 0, 1) := by decide +kernel
theorem dX11_digitIn_1 : decode cX11_digitIn 1 = .ok (.getfield 56, 3) := by decide +kernel
theorem dX11_digitIn_4 : decode cX11_digitIn 4 = .ok (.iload_n 1, 1) := by decide +kernel
theorem dX11_digitIn_5 : decode cX11_digitIn 5 = .ok (.invokevirtual 227, 3) := by decide +kernel
theorem dX11_digitIn_8 : decode cX11_digitIn 8 = .ok (.ifCond .ne 9, 3) := by decide +kernel
theorem dX11_digitIn_11 : decode cX11_digitIn 11 = .ok (.aload_n 0, 1) := by decide +kernel
theorem dX11_digitIn_12 : decode cX11_digitIn 12 = .ok (.iconst 2, 1) := by decide +kernel
theorem dX11_digitIn_13 : decode cX11_digitIn 13 = .ok (.invokevirtual 161, 3) := by decide +kernel
theorem dX11_digitIn_16 : decode cX11_digitIn 16 = .ok (.ireturn, 1) := by decide +kernel
theorem dX11_digitIn_17 : decode cX11_digitIn 17 = .ok (.iload_n 2, 1) := by decide +kernel
theorem dX11_digitIn_18 : decode cX11_digitIn 18 = .ok (.iconst 0, 1) := by decide +kernel
theorem dX11_digitIn_19 : decode cX11_digitIn 19 = .ok (.sipush 300, 3) := by decide +kernel
theorem dX11_digitIn_22 : decode cX11_digitIn 22 = .ok (.invokestatic 116, 3) := by decide +kernel
theorem dX11_digitIn_25 : decode cX11_digitIn 25 = .ok (.ifCond .ne 9, 3) := by decide +kernel
theorem dX11_digitIn_28 : decode cX11_digitIn 28 = .ok (.aload_n 0, 1) := by decide +kernel
theorem dX11_digitIn_29 : decode cX11_digitIn 29 = .ok (.iconst 5, 1) := by decide +kernel
theorem dX11_digitIn_30 : decode cX11_digitIn 30 = .ok (.invokevirtual 161, 3) := by decide +kernel
theorem dX11_digitIn_33 : decode cX11_digitIn 33 = .ok (.ireturn, 1) := by decide +kernel
theorem dX11_digitIn_34 : decode cX11_digitIn 34 = .ok (.aload_n 0, 1) := by decide +kernel
theorem dX11_digitIn_35 : decode cX11_digitIn 35 = .ok (.aload_n 0, 1) := by decide +kernel
theorem dX11_digitIn_36 : decode cX11_digitIn 36 = .ok (.iload_n 2, 1) := by decide +kernel
theorem dX11_digitIn_37 : decode cX11_digitIn 37 = .ok (.invokevirtual 299, 3) := by decide +kernel
theorem dX11_digitIn_40 : decode cX11_digitIn 40 = .ok (.getfield 230, 3) := by decide +kernel
theorem dX11_digitIn_43 : decode cX11_digitIn 43 = .ok (.iload_n 1, 1) := by decide +kernel
theorem dX11_digitIn_44 : decode cX11_digitIn 44 = .ok (.iaload, 1) := by decide +kernel
theorem dX11_digitIn_45 : decode cX11_digitIn 45 = .ok (.invokevirtual 175, 3) := by decide +kernel
theorem dX11_digitIn_48 : decode cX11_digitIn 48 = .ok (.ireturn, 1) := by decide +kernel
theorem dX11_wrongIn_0 : decode cX11_wrongIn 0 = .ok (.iload_n 1, 1) := by decide +kernel
theorem dX11_wrongIn_1 : decode cX11_wrongIn 1 = .ok (.iconst 0, 1) := by decide +kernel
theorem dX11_wrongIn_2 : decode cX11_wrongIn 2 = .ok (.sipush 300, 3) := by decide +kernel
theorem dX11_wrongIn_5 : decode cX11_wrongIn 5 = .ok (.invokestatic 116, 3) := by decide +kernel
theorem dX11_wrongIn_8 : decode cX11_wrongIn 8 = .ok (.ifCond .ne 9, 3) := by decide +kernel
theorem dX11_wrongIn_11 : decode cX11_wrongIn 11 = .ok (.aload_n 0, 1) := by decide +kernel
theorem dX11_wrongIn_12 : decode cX11_wrongIn 12 = .ok (.iconst 5, 1) := by decide +kernel
theorem dX11_wrongIn_13 : decode cX11_wrongIn 13 = .ok (.invokevirtual 161, 3) := by decide +kernel
theorem dX11_wrongIn_16 : decode cX11_wrongIn 16 = .ok (.ireturn, 1) := by decide +kernel
theorem dX11_wrongIn_17 : decode cX11_wrongIn 17 = .ok (.aload_n 0, 1) := by decide +kernel
theorem dX11_wrongIn_18 : decode cX11_wrongIn 18 = .ok (.aload_n 0, 1) := by decide +kernel
theorem dX11_wrongIn_19 : decode cX11_wrongIn 19 = .ok (.iload_n 1, 1) := by decide +kernel
theorem dX11_wrongIn_20 : decode cX11_wrongIn 20 = .ok (.invokevirtual 299, 3) := by decide +kernel
theorem dX11_wrongIn_23 : decode cX11_wrongIn 23 = .ok (.invokevirtual 215, 3) := by decide +kernel
theorem dX11_wrongIn_26 : decode cX11_wrongIn 26 = .ok (.invokevirtual 175, 3) := by decide +kernel
theorem dX11_wrongIn_29 : decode cX11_wrongIn 29 = .ok (.ireturn, 1) := by decide +kernel
theorem dX11_wrongBy_0 : decode cX11_wrongBy 0 = .ok (.aload_n 0, 1) := by decide +kernel
theorem dX11_wrongBy_1 : decode cX11_wrongBy 1 = .ok (.getfield 56, 3) := by decide +kernel
theorem dX11_wrongBy_4 : decode cX11_wrongBy 4 = .ok (.iload_n 1, 1) := by decide +kernel
theorem dX11_wrongBy_5 : decode cX11_wrongBy 5 = .ok (.invokevirtual 227, 3) := by decide +kernel
theorem dX11_wrongBy_8 : decode cX11_wrongBy 8 = .ok (.ifCond .ne 9, 3) := by decide +kernel
theorem dX11_wrongBy_11 : decode cX11_wrongBy 11 = .ok (.aload_n 0, 1) := by decide +kernel
theorem dX11_wrongBy_12 : decode cX11_wrongBy 12 = .ok (.iconst 2, 1) := by decide +kernel
theorem dX11_wrongBy_13 : decode cX11_wrongBy 13 = .ok (.invokevirtual 161, 3) := by decide +kernel
theorem dX11_wrongBy_16 : decode cX11_wrongBy 16 = .ok (.ireturn, 1) := by decide +kernel
theorem dX11_wrongBy_17 : decode cX11_wrongBy 17 = .ok (.aload_n 0, 1) := by decide +kernel
theorem dX11_wrongBy_18 : decode cX11_wrongBy 18 = .ok (.iconst 0, 1) := by decide +kernel
theorem dX11_wrongBy_19 : decode cX11_wrongBy 19 = .ok (.invokevirtual 299, 3) := by decide +kernel
theorem dX11_wrongBy_22 : decode cX11_wrongBy 22 = .ok (.astore_n 2, 1) := by decide +kernel
theorem dX11_wrongBy_23 : decode cX11_wrongBy 23 = .ok (.iconst 0, 1) := by decide +kernel
theorem dX11_wrongBy_24 : decode cX11_wrongBy 24 = .ok (.istore_n 3, 1) := by decide +kernel
theorem dX11_wrongBy_25 : decode cX11_wrongBy 25 = .ok (.iload_n 3, 1) := by decide +kernel
theorem dX11_wrongBy_26 : decode cX11_wrongBy 26 = .ok (.sipush 300, 3) := by decide +kernel
theorem dX11_wrongBy_29 : decode cX11_wrongBy 29 = .ok (.if_icmp .gt 29, 3) := by decide +kernel
theorem dX11_wrongBy_32 : decode cX11_wrongBy 32 = .ok (.aload_n 2, 1) := by decide +kernel
theorem dX11_wrongBy_33 : decode cX11_wrongBy 33 = .ok (.iload_n 1, 1) := by decide +kernel
theorem dX11_wrongBy_34 : decode cX11_wrongBy 34 = .ok (.invokevirtual 239, 3) := by decide +kernel
theorem dX11_wrongBy_37 : decode cX11_wrongBy 37 = .ok (.ifCond .eq 9, 3) := by decide +kernel
theorem dX11_wrongBy_40 : decode cX11_wrongBy 40 = .ok (.aload_n 0, 1) := by decide +kernel
theorem dX11_wrongBy_41 : decode cX11_wrongBy 41 = .ok (.iload_n 3, 1) := by decide +kernel
theorem dX11_wrongBy_42 : decode cX11_wrongBy 42 = .ok (.invokevirtual 175, 3) := by decide +kernel
theorem dX11_wrongBy_45 : decode cX11_wrongBy 45 = .ok (.ireturn, 1) := by decide +kernel
theorem dX11_wrongBy_46 : decode cX11_wrongBy 46 = .ok (.aload_n 2, 1) := by decide +kernel
theorem dX11_wrongBy_47 : decode cX11_wrongBy 47 = .ok (.iconst 1, 1) := by decide +kernel
theorem dX11_wrongBy_48 : decode cX11_wrongBy 48 = .ok (.invokevirtual 279, 3) := by decide +kernel
theorem dX11_wrongBy_51 : decode cX11_wrongBy 51 = .ok (.pop, 1) := by decide +kernel
theorem dX11_wrongBy_52 : decode cX11_wrongBy 52 = .ok (.iinc 3 1, 3) := by decide +kernel
theorem dX11_wrongBy_55 : decode cX11_wrongBy 55 = .ok (.goto (-30), 3) := by decide +kernel
theorem dX11_wrongBy_58 : decode cX11_wrongBy 58 = .ok (.aload_n 0, 1) := by decide +kernel
theorem dX11_wrongBy_59 : decode cX11_wrongBy 59 = .ok (.bipush 8, 2) := by decide +kernel
theorem dX11_wrongBy_61 : decode cX11_wrongBy 61 = .ok (.invokevirtual 161, 3) := by decide +kernel
theorem dX11_wrongBy_64 : decode cX11_wrongBy 64 = .ok (.ireturn, 1) := by decide +kernel
theorem dX11_evenIn_0 : decode cX11_evenIn 0 = .ok (.aload_n 0, 1) := by decide +kernel
theorem dX11_evenIn_1 : decode cX11_evenIn 1 = .ok (.iconst 0, 1) := by decide +kernel
theorem dX11_evenIn_2 : decode cX11_evenIn 2 = .ok (.invokevirtual 299, 3) := by decide +kernel
theorem dX11_evenIn_5 : decode cX11_evenIn 5 = .ok (.astore_n 1, 1) := by decide +kernel
theorem dX11_evenIn_6 : decode cX11_evenIn 6 = .ok (.iconst 0, 1) := by decide +kernel
theorem dX11_evenIn_7 : decode cX11_evenIn 7 = .ok (.istore_n 2, 1) := by decide +kernel
theorem dX11_evenIn_8 : decode cX11_evenIn 8 = .ok (.iload_n 2, 1) := by decide +kernel
theorem dX11_evenIn_9 : decode cX11_evenIn 9 = .ok (.sipush 300, 3) := by decide +kernel
theorem dX11_evenIn_12 : decode cX11_evenIn 12 = .ok (.if_icmp .gt 28, 3) := by decide +kernel
theorem dX11_evenIn_15 : decode cX11_evenIn 15 = .ok (.aload_n 1, 1) := by decide +kernel
theorem dX11_evenIn_16 : decode cX11_evenIn 16 = .ok (.invokevirtual 224, 3) := by decide +kernel
theorem dX11_evenIn_19 : decode cX11_evenIn 19 = .ok (.ifCond .ne 9, 3) := by decide +kernel
theorem dX11_evenIn_22 : decode cX11_evenIn 22 = .ok (.aload_n 0, 1) := by decide +kernel
theorem dX11_evenIn_23 : decode cX11_evenIn 23 = .ok (.iload_n 2, 1) := by decide +kernel
theorem dX11_evenIn_24 : decode cX11_evenIn 24 = .ok (.invokevirtual 175, 3) := by decide +kernel
theorem dX11_evenIn_27 : decode cX11_evenIn 27 = .ok (.ireturn, 1) := by decide +kernel
theorem dX11_evenIn_28 : decode cX11_evenIn 28 = .ok (.aload_n 1, 1) := by decide +kernel
theorem dX11_evenIn_29 : decode cX11_evenIn 29 = .ok (.iconst 1, 1) := by decide +kernel
theorem dX11_evenIn_30 : decode cX11_evenIn 30 = .ok (.invokevirtual 279, 3) := by decide +kernel
theorem dX11_evenIn_33 : decode cX11_evenIn 33 = .ok (.pop, 1) := by decide +kernel
theorem dX11_evenIn_34 : decode cX11_evenIn 34 = .ok (.iinc 2 1, 3) := by decide +kernel
theorem dX11_evenIn_37 : decode cX11_evenIn 37 = .ok (.goto (-29), 3) := by decide +kernel
theorem dX11_evenIn_40 : decode cX11_evenIn 40 = .ok (.aload_n 0, 1) := by decide +kernel
theorem dX11_evenIn_41 : decode cX11_evenIn 41 = .ok (.bipush 8, 2) := by decide +kernel
theorem dX11_evenIn_43 : decode cX11_evenIn 43 = .ok (.invokevirtual 161, 3) := by decide +kernel
theorem dX11_evenIn_46 : decode cX11_evenIn 46 = .ok (.ireturn, 1) := by decide +kernel
theorem dX11_stillIn_0 : decode cX11_stillIn 0 = .ok (.aload_n 0, 1) := by decide +kernel
theorem dX11_stillIn_1 : decode cX11_stillIn 1 = .ok (.iconst 0, 1) := by decide +kernel
theorem dX11_stillIn_2 : decode cX11_stillIn 2 = .ok (.invokevirtual 299, 3) := by decide +kernel
theorem dX11_stillIn_5 : decode cX11_stillIn 5 = .ok (.astore_n 1, 1) := by decide +kernel
theorem dX11_stillIn_6 : decode cX11_stillIn 6 = .ok (.iconst 0, 1) := by decide +kernel
theorem dX11_stillIn_7 : decode cX11_stillIn 7 = .ok (.istore_n 2, 1) := by decide +kernel
theorem dX11_stillIn_8 : decode cX11_stillIn 8 = .ok (.iload_n 2, 1) := by decide +kernel
theorem dX11_stillIn_9 : decode cX11_stillIn 9 = .ok (.sipush 300, 3) := by decide +kernel
theorem dX11_stillIn_12 : decode cX11_stillIn 12 = .ok (.if_icmp .gt 23, 3) := by decide +kernel
theorem dX11_stillIn_15 : decode cX11_stillIn 15 = .ok (.aload_n 1, 1) := by decide +kernel
theorem dX11_stillIn_16 : decode cX11_stillIn 16 = .ok (.iconst 1, 1) := by decide +kernel
theorem dX11_stillIn_17 : decode cX11_stillIn 17 = .ok (.invokevirtual 279, 3) := by decide +kernel
theorem dX11_stillIn_20 : decode cX11_stillIn 20 = .ok (.ifCond .ne 9, 3) := by decide +kernel
theorem dX11_stillIn_23 : decode cX11_stillIn 23 = .ok (.aload_n 0, 1) := by decide +kernel
theorem dX11_stillIn_24 : decode cX11_stillIn 24 = .ok (.iload_n 2, 1) := by decide +kernel
theorem dX11_stillIn_25 : decode cX11_stillIn 25 = .ok (.invokevirtual 175, 3) := by decide +kernel
theorem dX11_stillIn_28 : decode cX11_stillIn 28 = .ok (.ireturn, 1) := by decide +kernel
theorem dX11_stillIn_29 : decode cX11_stillIn 29 = .ok (.iinc 2 1, 3) := by decide +kernel
theorem dX11_stillIn_32 : decode cX11_stillIn 32 = .ok (.goto (-24), 3) := by decide +kernel
theorem dX11_stillIn_35 : decode cX11_stillIn 35 = .ok (.aload_n 0, 1) := by decide +kernel
theorem dX11_stillIn_36 : decode cX11_stillIn 36 = .ok (.bipush 8, 2) := by decide +kernel
theorem dX11_stillIn_38 : decode cX11_stillIn 38 = .ok (.invokevirtual 161, 3) := by decide +kernel
theorem dX11_stillIn_41 : decode cX11_stillIn 41 = .ok (.ireturn, 1) := by decide +kernel
theorem dX11_bears_0 : decode cX11_bears 0 = .ok (.aload_n 0, 1) := by decide +kernel
theorem dX11_bears_1 : decode cX11_bears 1 = .ok (.getfield 56, 3) := by decide +kernel
theorem dX11_bears_4 : decode cX11_bears 4 = .ok (.iload_n 1, 1) := by decide +kernel
theorem dX11_bears_5 : decode cX11_bears 5 = .ok (.invokevirtual 227, 3) := by decide +kernel
theorem dX11_bears_8 : decode cX11_bears 8 = .ok (.ifCond .ne 9, 3) := by decide +kernel
theorem dX11_bears_11 : decode cX11_bears 11 = .ok (.aload_n 0, 1) := by decide +kernel
theorem dX11_bears_12 : decode cX11_bears 12 = .ok (.iconst 2, 1) := by decide +kernel
theorem dX11_bears_13 : decode cX11_bears 13 = .ok (.invokevirtual 161, 3) := by decide +kernel
theorem dX11_bears_16 : decode cX11_bears 16 = .ok (.ireturn, 1) := by decide +kernel
theorem dX11_bears_17 : decode cX11_bears 17 = .ok (.aload_n 0, 1) := by decide +kernel
theorem dX11_bears_18 : decode cX11_bears 18 = .ok (.getfield 56, 3) := by decide +kernel
theorem dX11_bears_21 : decode cX11_bears 21 = .ok (.aload_n 0, 1) := by decide +kernel
theorem dX11_bears_22 : decode cX11_bears 22 = .ok (.getfield 56, 3) := by decide +kernel
theorem dX11_bears_25 : decode cX11_bears 25 = .ok (.getfield 230, 3) := by decide +kernel
theorem dX11_bears_28 : decode cX11_bears 28 = .ok (.iload_n 1, 1) := by decide +kernel
theorem dX11_bears_29 : decode cX11_bears 29 = .ok (.invokevirtual 303, 3) := by decide +kernel
theorem dX11_bears_32 : decode cX11_bears 32 = .ok (.istore_n 2, 1) := by decide +kernel
theorem dX11_bears_33 : decode cX11_bears 33 = .ok (.iload_n 2, 1) := by decide +kernel
theorem dX11_bears_34 : decode cX11_bears 34 = .ok (.iconst (-1), 1) := by decide +kernel
theorem dX11_bears_35 : decode cX11_bears 35 = .ok (.if_icmp .ne 12, 3) := by decide +kernel
theorem dX11_bears_38 : decode cX11_bears 38 = .ok (.aload_n 0, 1) := by decide +kernel
theorem dX11_bears_39 : decode cX11_bears 39 = .ok (.bipush 8, 2) := by decide +kernel
theorem dX11_bears_41 : decode cX11_bears 41 = .ok (.invokevirtual 161, 3) := by decide +kernel
theorem dX11_bears_44 : decode cX11_bears 44 = .ok (.goto 8, 3) := by decide +kernel
theorem dX11_bears_47 : decode cX11_bears 47 = .ok (.aload_n 0, 1) := by decide +kernel
theorem dX11_bears_48 : decode cX11_bears 48 = .ok (.iload_n 2, 1) := by decide +kernel
theorem dX11_bears_49 : decode cX11_bears 49 = .ok (.invokevirtual 175, 3) := by decide +kernel
theorem dX11_bears_52 : decode cX11_bears 52 = .ok (.ireturn, 1) := by decide +kernel
theorem dX11_lookAtRound_0 : decode cX11_lookAtRound 0 = .ok (.iload_n 2, 1) := by decide +kernel
theorem dX11_lookAtRound_1 : decode cX11_lookAtRound 1 = .ok (.iconst 1, 1) := by decide +kernel
theorem dX11_lookAtRound_2 : decode cX11_lookAtRound 2 = .ok (.iconst 5, 1) := by decide +kernel
theorem dX11_lookAtRound_3 : decode cX11_lookAtRound 3 = .ok (.invokestatic 116, 3) := by decide +kernel
theorem dX11_lookAtRound_6 : decode cX11_lookAtRound 6 = .ok (.ifCond .eq 22, 3) := by decide +kernel
theorem dX11_lookAtRound_9 : decode cX11_lookAtRound 9 = .ok (.iload_n 1, 1) := by decide +kernel
theorem dX11_lookAtRound_10 : decode cX11_lookAtRound 10 = .ok (.iconst 0, 1) := by decide +kernel
theorem dX11_lookAtRound_11 : decode cX11_lookAtRound 11 = .ok (.iconst 1, 1) := by decide +kernel
theorem dX11_lookAtRound_12 : decode cX11_lookAtRound 12 = .ok (.aload_n 0, 1) := by decide +kernel
theorem dX11_lookAtRound_13 : decode cX11_lookAtRound 13 = .ok (.getfield 56, 3) := by decide +kernel
theorem dX11_lookAtRound_16 : decode cX11_lookAtRound 16 = .ok (.invokevirtual 211, 3) := by decide +kernel
theorem dX11_lookAtRound_19 : decode cX11_lookAtRound 19 = .ok (.ishl, 1) := by decide +kernel
theorem dX11_lookAtRound_20 : decode cX11_lookAtRound 20 = .ok (.iconst 1, 1) := by decide +kernel
theorem dX11_lookAtRound_21 : decode cX11_lookAtRound 21 = .ok (.isub, 1) := by decide +kernel
theorem dX11_lookAtRound_22 : decode cX11_lookAtRound 22 = .ok (.invokestatic 116, 3) := by decide +kernel
theorem dX11_lookAtRound_25 : decode cX11_lookAtRound 25 = .ok (.ifCond .ne 5, 3) := by decide +kernel
theorem dX11_lookAtRound_28 : decode cX11_lookAtRound 28 = .ok (.iconst 5, 1) := by decide +kernel
theorem dX11_lookAtRound_29 : decode cX11_lookAtRound 29 = .ok (.ireturn, 1) := by decide +kernel
theorem dX11_lookAtRound_30 : decode cX11_lookAtRound 30 = .ok (.aload_n 0, 1) := by decide +kernel
theorem dX11_lookAtRound_31 : decode cX11_lookAtRound 31 = .ok (.getfield 56, 3) := by decide +kernel
theorem dX11_lookAtRound_34 : decode cX11_lookAtRound 34 = .ok (.getfield 172, 3) := by decide +kernel
theorem dX11_lookAtRound_37 : decode cX11_lookAtRound 37 = .ok (.ifCond .ne 8, 3) := by decide +kernel
theorem dX11_lookAtRound_40 : decode cX11_lookAtRound 40 = .ok (.bipush 8, 2) := by decide +kernel
theorem dX11_lookAtRound_42 : decode cX11_lookAtRound 42 = .ok (.goto 4, 3) := by decide +kernel
theorem dX11_lookAtRound_45 : decode cX11_lookAtRound 45 = .ok (.iconst 0, 1) := by decide +kernel
theorem dX11_lookAtRound_46 : decode cX11_lookAtRound 46 = .ok (.ireturn, 1) := by decide +kernel
theorem dX11_round_0 : decode cX11_round 0 = .ok (.aload_n 0, 1) := by decide +kernel
theorem dX11_round_1 : decode cX11_round 1 = .ok (.iload_n 1, 1) := by decide +kernel
theorem dX11_round_2 : decode cX11_round 2 = .ok (.iload_n 2, 1) := by decide +kernel
theorem dX11_round_3 : decode cX11_round 3 = .ok (.invokevirtual 306, 3) := by decide +kernel
theorem dX11_round_6 : decode cX11_round 6 = .ok (.istore_n 3, 1) := by decide +kernel
theorem dX11_round_7 : decode cX11_round 7 = .ok (.iload_n 3, 1) := by decide +kernel
theorem dX11_round_8 : decode cX11_round 8 = .ok (.ifCond .eq 9, 3) := by decide +kernel
theorem dX11_round_11 : decode cX11_round 11 = .ok (.aload_n 0, 1) := by decide +kernel
theorem dX11_round_12 : decode cX11_round 12 = .ok (.iload_n 3, 1) := by decide +kernel
theorem dX11_round_13 : decode cX11_round 13 = .ok (.invokevirtual 161, 3) := by decide +kernel
theorem dX11_round_16 : decode cX11_round 16 = .ok (.ireturn, 1) := by decide +kernel
theorem dX11_round_17 : decode cX11_round 17 = .ok (.aload_n 0, 1) := by decide +kernel
theorem dX11_round_18 : decode cX11_round 18 = .ok (.getfield 84, 3) := by decide +kernel
theorem dX11_round_21 : decode cX11_round 21 = .ok (.aload_n 0, 1) := by decide +kernel
theorem dX11_round_22 : decode cX11_round 22 = .ok (.getfield 56, 3) := by decide +kernel
theorem dX11_round_25 : decode cX11_round 25 = .ok (.iload_n 1, 1) := by decide +kernel
theorem dX11_round_26 : decode cX11_round 26 = .ok (.iload_n 2, 1) := by decide +kernel
theorem dX11_round_27 : decode cX11_round 27 = .ok (.invokevirtual 309, 3) := by decide +kernel
theorem dX11_round_30 : decode cX11_round 30 = .ok (.aload_n 0, 1) := by decide +kernel
theorem dX11_round_31 : decode cX11_round 31 = .ok (.aload_n 0, 1) := by decide +kernel
theorem dX11_round_32 : decode cX11_round 32 = .ok (.getfield 84, 3) := by decide +kernel
theorem dX11_round_35 : decode cX11_round 35 = .ok (.getfield 313, 3) := by decide +kernel
theorem dX11_round_38 : decode cX11_round 38 = .ok (.invokevirtual 175, 3) := by decide +kernel
theorem dX11_round_41 : decode cX11_round 41 = .ok (.ireturn, 1) := by decide +kernel
theorem dX11_roundAt_0 : decode cX11_roundAt 0 = .ok (.iload_n 3, 1) := by decide +kernel
theorem dX11_roundAt_1 : decode cX11_roundAt 1 = .ok (.iconst 0, 1) := by decide +kernel
theorem dX11_roundAt_2 : decode cX11_roundAt 2 = .ok (.iconst 4, 1) := by decide +kernel
theorem dX11_roundAt_3 : decode cX11_roundAt 3 = .ok (.invokestatic 116, 3) := by decide +kernel
theorem dX11_roundAt_6 : decode cX11_roundAt 6 = .ok (.ifCond .eq 17, 3) := by decide +kernel
theorem dX11_roundAt_9 : decode cX11_roundAt 9 = .ok (.iload_n 3, 1) := by decide +kernel
theorem dX11_roundAt_10 : decode cX11_roundAt 10 = .ok (.iload_n 2, 1) := by decide +kernel
theorem dX11_roundAt_11 : decode cX11_roundAt 11 = .ok (.if_icmp .ge 12, 3) := by decide +kernel
theorem dX11_roundAt_14 : decode cX11_roundAt 14 = .ok (.aload_n 0, 1) := by decide +kernel
theorem dX11_roundAt_15 : decode cX11_roundAt 15 = .ok (.iload_n 1, 1) := by decide +kernel
theorem dX11_roundAt_16 : decode cX11_roundAt 16 = .ok (.iload_n 2, 1) := by decide +kernel
theorem dX11_roundAt_17 : decode cX11_roundAt 17 = .ok (.invokevirtual 306, 3) := by decide +kernel
theorem dX11_roundAt_20 : decode cX11_roundAt 20 = .ok (.goto 4, 3) := by decide +kernel
theorem dX11_roundAt_23 : decode cX11_roundAt 23 = .ok (.iconst 5, 1) := by decide +kernel
theorem dX11_roundAt_24 : decode cX11_roundAt 24 = .ok (.istore 4, 2) := by decide +kernel
theorem dX11_roundAt_26 : decode cX11_roundAt 26 = .ok (.iload 4, 2) := by decide +kernel
theorem dX11_roundAt_28 : decode cX11_roundAt 28 = .ok (.ifCond .eq 10, 3) := by decide +kernel
theorem dX11_roundAt_31 : decode cX11_roundAt 31 = .ok (.aload_n 0, 1) := by decide +kernel
theorem dX11_roundAt_32 : decode cX11_roundAt 32 = .ok (.iload 4, 2) := by decide +kernel
theorem dX11_roundAt_34 : decode cX11_roundAt 34 = .ok (.invokevirtual 161, 3) := by decide +kernel
theorem dX11_roundAt_37 : decode cX11_roundAt 37 = .ok (.ireturn, 1) := by decide +kernel
theorem dX11_roundAt_38 : decode cX11_roundAt 38 = .ok (.aload_n 0, 1) := by decide +kernel
theorem dX11_roundAt_39 : decode cX11_roundAt 39 = .ok (.getfield 84, 3) := by decide +kernel
theorem dX11_roundAt_42 : decode cX11_roundAt 42 = .ok (.aload_n 0, 1) := by decide +kernel
theorem dX11_roundAt_43 : decode cX11_roundAt 43 = .ok (.getfield 56, 3) := by decide +kernel
theorem dX11_roundAt_46 : decode cX11_roundAt 46 = .ok (.iload_n 1, 1) := by decide +kernel
theorem dX11_roundAt_47 : decode cX11_roundAt 47 = .ok (.iload_n 2, 1) := by decide +kernel
theorem dX11_roundAt_48 : decode cX11_roundAt 48 = .ok (.invokevirtual 309, 3) := by decide +kernel
theorem dX11_roundAt_51 : decode cX11_roundAt 51 = .ok (.aload_n 0, 1) := by decide +kernel
theorem dX11_roundAt_52 : decode cX11_roundAt 52 = .ok (.aload_n 0, 1) := by decide +kernel
theorem dX11_roundAt_53 : decode cX11_roundAt 53 = .ok (.getfield 84, 3) := by decide +kernel
theorem dX11_roundAt_56 : decode cX11_roundAt 56 = .ok (.getfield 316, 3) := by decide +kernel
theorem dX11_roundAt_59 : decode cX11_roundAt 59 = .ok (.iload_n 3, 1) := by decide +kernel
theorem dX11_roundAt_60 : decode cX11_roundAt 60 = .ok (.iaload, 1) := by decide +kernel
theorem dX11_roundAt_61 : decode cX11_roundAt 61 = .ok (.invokevirtual 175, 3) := by decide +kernel
theorem dX11_roundAt_64 : decode cX11_roundAt 64 = .ok (.ireturn, 1) := by decide +kernel
theorem dX11_far_0 : decode cX11_far 0 = .ok (.aload_n 0, 1) := by decide +kernel
theorem dX11_far_1 : decode cX11_far 1 = .ok (.getfield 56, 3) := by decide +kernel
theorem dX11_far_4 : decode cX11_far 4 = .ok (.iload_n 1, 1) := by decide +kernel
theorem dX11_far_5 : decode cX11_far 5 = .ok (.invokevirtual 227, 3) := by decide +kernel
theorem dX11_far_8 : decode cX11_far 8 = .ok (.ifCond .ne 9, 3) := by decide +kernel
theorem dX11_far_11 : decode cX11_far 11 = .ok (.aload_n 0, 1) := by decide +kernel
theorem dX11_far_12 : decode cX11_far 12 = .ok (.iconst 2, 1) := by decide +kernel
theorem dX11_far_13 : decode cX11_far 13 = .ok (.invokevirtual 161, 3) := by decide +kernel
theorem dX11_far_16 : decode cX11_far 16 = .ok (.ireturn, 1) := by decide +kernel
theorem dX11_far_17 : decode cX11_far 17 = .ok (.aload_n 0, 1) := by decide +kernel
theorem dX11_far_18 : decode cX11_far 18 = .ok (.aload_n 0, 1) := by decide +kernel
theorem dX11_far_19 : decode cX11_far 19 = .ok (.getfield 56, 3) := by decide +kernel
theorem dX11_far_22 : decode cX11_far 22 = .ok (.aload_n 0, 1) := by decide +kernel
theorem dX11_far_23 : decode cX11_far 23 = .ok (.getfield 56, 3) := by decide +kernel
theorem dX11_far_26 : decode cX11_far 26 = .ok (.getfield 242, 3) := by decide +kernel
theorem dX11_far_29 : decode cX11_far 29 = .ok (.iload_n 1, 1) := by decide +kernel
theorem dX11_far_30 : decode cX11_far 30 = .ok (.invokevirtual 319, 3) := by decide +kernel
theorem dX11_far_33 : decode cX11_far 33 = .ok (.invokevirtual 175, 3) := by decide +kernel
theorem dX11_far_36 : decode cX11_far 36 = .ok (.ireturn, 1) := by decide +kernel
theorem dX11_past_0 : decode cX11_past 0 = .ok (.aload_n 0, 1) := by decide +kernel
theorem dX11_past_1 : decode cX11_past 1 = .ok (.getfield 56, 3) := by decide +kernel
theorem dX11_past_4 : decode cX11_past 4 = .ok (.iload_n 1, 1) := by decide +kernel
theorem dX11_past_5 : decode cX11_past 5 = .ok (.invokevirtual 245, 3) := by decide +kernel
theorem dX11_past_8 : decode cX11_past 8 = .ok (.ifCond .ne 9, 3) := by decide +kernel
theorem dX11_past_11 : decode cX11_past 11 = .ok (.aload_n 0, 1) := by decide +kernel
theorem dX11_past_12 : decode cX11_past 12 = .ok (.iconst 2, 1) := by decide +kernel
theorem dX11_past_13 : decode cX11_past 13 = .ok (.invokevirtual 161, 3) := by decide +kernel
theorem dX11_past_16 : decode cX11_past 16 = .ok (.ireturn, 1) := by decide +kernel
theorem dX11_past_17 : decode cX11_past 17 = .ok (.aload_n 0, 1) := by decide +kernel
theorem dX11_past_18 : decode cX11_past 18 = .ok (.getfield 91, 3) := by decide +kernel
theorem dX11_past_21 : decode cX11_past 21 = .ok (.aload_n 0, 1) := by decide +kernel
theorem dX11_past_22 : decode cX11_past 22 = .ok (.getfield 56, 3) := by decide +kernel
theorem dX11_past_25 : decode cX11_past 25 = .ok (.iload_n 1, 1) := by decide +kernel
theorem dX11_past_26 : decode cX11_past 26 = .ok (.invokevirtual 322, 3) := by decide +kernel
theorem dX11_past_29 : decode cX11_past 29 = .ok (.aload_n 0, 1) := by decide +kernel
theorem dX11_past_30 : decode cX11_past 30 = .ok (.aload_n 0, 1) := by decide +kernel
theorem dX11_past_31 : decode cX11_past 31 = .ok (.getfield 91, 3) := by decide +kernel
theorem dX11_past_34 : decode cX11_past 34 = .ok (.getfield 326, 3) := by decide +kernel
theorem dX11_past_37 : decode cX11_past 37 = .ok (.invokevirtual 175, 3) := by decide +kernel
theorem dX11_past_40 : decode cX11_past 40 = .ok (.ireturn, 1) := by decide +kernel
theorem dX11_likely_0 : decode cX11_likely 0 = .ok (.aload_n 0, 1) := by decide +kernel
theorem dX11_likely_1 : decode cX11_likely 1 = .ok (.getfield 56, 3) := by decide +kernel
theorem dX11_likely_4 : decode cX11_likely 4 = .ok (.iload_n 1, 1) := by decide +kernel
theorem dX11_likely_5 : decode cX11_likely 5 = .ok (.invokevirtual 245, 3) := by decide +kernel
theorem dX11_likely_8 : decode cX11_likely 8 = .ok (.ifCond .ne 9, 3) := by decide +kernel
theorem dX11_likely_11 : decode cX11_likely 11 = .ok (.aload_n 0, 1) := by decide +kernel
theorem dX11_likely_12 : decode cX11_likely 12 = .ok (.iconst 2, 1) := by decide +kernel
theorem dX11_likely_13 : decode cX11_likely 13 = .ok (.invokevirtual 161, 3) := by decide +kernel
theorem dX11_likely_16 : decode cX11_likely 16 = .ok (.ireturn, 1) := by decide +kernel
theorem dX11_likely_17 : decode cX11_likely 17 = .ok (.iload_n 2, 1) := by decide +kernel
theorem dX11_likely_18 : decode cX11_likely 18 = .ok (.ifCond .ge 9, 3) := by decide +kernel
theorem dX11_likely_21 : decode cX11_likely 21 = .ok (.aload_n 0, 1) := by decide +kernel
theorem dX11_likely_22 : decode cX11_likely 22 = .ok (.iconst 5, 1) := by decide +kernel
theorem dX11_likely_23 : decode cX11_likely 23 = .ok (.invokevirtual 161, 3) := by decide +kernel
theorem dX11_likely_26 : decode cX11_likely 26 = .ok (.ireturn, 1) := by decide +kernel
theorem dX11_likely_27 : decode cX11_likely 27 = .ok (.aload_n 0, 1) := by decide +kernel
theorem dX11_likely_28 : decode cX11_likely 28 = .ok (.aload_n 0, 1) := by decide +kernel
theorem dX11_likely_29 : decode cX11_likely 29 = .ok (.getfield 91, 3) := by decide +kernel
theorem dX11_likely_32 : decode cX11_likely 32 = .ok (.aload_n 0, 1) := by decide +kernel
theorem dX11_likely_33 : decode cX11_likely 33 = .ok (.getfield 56, 3) := by decide +kernel
theorem dX11_likely_36 : decode cX11_likely 36 = .ok (.iload_n 1, 1) := by decide +kernel
theorem dX11_likely_37 : decode cX11_likely 37 = .ok (.iload_n 2, 1) := by decide +kernel
theorem dX11_likely_38 : decode cX11_likely 38 = .ok (.invokevirtual 329, 3) := by decide +kernel
theorem dX11_likely_41 : decode cX11_likely 41 = .ok (.ifCond .eq 7, 3) := by decide +kernel
theorem dX11_likely_44 : decode cX11_likely 44 = .ok (.iconst 1, 1) := by decide +kernel
theorem dX11_likely_45 : decode cX11_likely 45 = .ok (.goto 4, 3) := by decide +kernel
theorem dX11_likely_48 : decode cX11_likely 48 = .ok (.iconst 0, 1) := by decide +kernel
theorem dX11_likely_49 : decode cX11_likely 49 = .ok (.invokevirtual 175, 3) := by decide +kernel
theorem dX11_likely_52 : decode cX11_likely 52 = .ok (.ireturn, 1) := by decide +kernel
theorem dX11_leastPast_0 : decode cX11_leastPast 0 = .ok (.aload_n 0, 1) := by decide +kernel
theorem dX11_leastPast_1 : decode cX11_leastPast 1 = .ok (.getfield 56, 3) := by decide +kernel
theorem dX11_leastPast_4 : decode cX11_leastPast 4 = .ok (.iload_n 1, 1) := by decide +kernel
theorem dX11_leastPast_5 : decode cX11_leastPast 5 = .ok (.invokevirtual 245, 3) := by decide +kernel
theorem dX11_leastPast_8 : decode cX11_leastPast 8 = .ok (.ifCond .ne 9, 3) := by decide +kernel
theorem dX11_leastPast_11 : decode cX11_leastPast 11 = .ok (.aload_n 0, 1) := by decide +kernel
theorem dX11_leastPast_12 : decode cX11_leastPast 12 = .ok (.iconst 2, 1) := by decide +kernel
theorem dX11_leastPast_13 : decode cX11_leastPast 13 = .ok (.invokevirtual 161, 3) := by decide +kernel
theorem dX11_leastPast_16 : decode cX11_leastPast 16 = .ok (.ireturn, 1) := by decide +kernel
theorem dX11_leastPast_17 : decode cX11_leastPast 17 = .ok (.aload_n 0, 1) := by decide +kernel
theorem dX11_leastPast_18 : decode cX11_leastPast 18 = .ok (.getfield 91, 3) := by decide +kernel
theorem dX11_leastPast_21 : decode cX11_leastPast 21 = .ok (.aload_n 0, 1) := by decide +kernel
theorem dX11_leastPast_22 : decode cX11_leastPast 22 = .ok (.getfield 56, 3) := by decide +kernel
theorem dX11_leastPast_25 : decode cX11_leastPast 25 = .ok (.iload_n 1, 1) := by decide +kernel
theorem dX11_leastPast_26 : decode cX11_leastPast 26 = .ok (.invokevirtual 322, 3) := by decide +kernel
theorem dX11_leastPast_29 : decode cX11_leastPast 29 = .ok (.aload_n 0, 1) := by decide +kernel
theorem dX11_leastPast_30 : decode cX11_leastPast 30 = .ok (.getfield 91, 3) := by decide +kernel
theorem dX11_leastPast_33 : decode cX11_leastPast 33 = .ok (.getfield 326, 3) := by decide +kernel
theorem dX11_leastPast_36 : decode cX11_leastPast 36 = .ok (.ifCond .ne 12, 3) := by decide +kernel
theorem dX11_leastPast_39 : decode cX11_leastPast 39 = .ok (.aload_n 0, 1) := by decide +kernel
theorem dX11_leastPast_40 : decode cX11_leastPast 40 = .ok (.bipush 8, 2) := by decide +kernel
theorem dX11_leastPast_42 : decode cX11_leastPast 42 = .ok (.invokevirtual 161, 3) := by decide +kernel
theorem dX11_leastPast_45 : decode cX11_leastPast 45 = .ok (.goto 14, 3) := by decide +kernel
theorem dX11_leastPast_48 : decode cX11_leastPast 48 = .ok (.aload_n 0, 1) := by decide +kernel
theorem dX11_leastPast_49 : decode cX11_leastPast 49 = .ok (.aload_n 0, 1) := by decide +kernel
theorem dX11_leastPast_50 : decode cX11_leastPast 50 = .ok (.getfield 91, 3) := by decide +kernel
theorem dX11_leastPast_53 : decode cX11_leastPast 53 = .ok (.getfield 333, 3) := by decide +kernel
theorem dX11_leastPast_56 : decode cX11_leastPast 56 = .ok (.invokevirtual 175, 3) := by decide +kernel
theorem dX11_leastPast_59 : decode cX11_leastPast 59 = .ok (.ireturn, 1) := by decide +kernel
theorem dX11_may_0 : decode cX11_may 0 = .ok (.iload_n 1, 1) := by decide +kernel
theorem dX11_may_1 : decode cX11_may 1 = .ok (.iconst 0, 1) := by decide +kernel
theorem dX11_may_2 : decode cX11_may 2 = .ok (.bipush 9, 2) := by decide +kernel
theorem dX11_may_4 : decode cX11_may 4 = .ok (.invokestatic 116, 3) := by decide +kernel
theorem dX11_may_7 : decode cX11_may 7 = .ok (.ifCond .eq 21, 3) := by decide +kernel
theorem dX11_may_10 : decode cX11_may 10 = .ok (.aload_n 0, 1) := by decide +kernel
theorem dX11_may_11 : decode cX11_may 11 = .ok (.aload_n 0, 1) := by decide +kernel
theorem dX11_may_12 : decode cX11_may 12 = .ok (.getfield 56, 3) := by decide +kernel
theorem dX11_may_15 : decode cX11_may 15 = .ok (.getfield 190, 3) := by decide +kernel
theorem dX11_may_18 : decode cX11_may 18 = .ok (.iload_n 1, 1) := by decide +kernel
theorem dX11_may_19 : decode cX11_may 19 = .ok (.invokevirtual 336, 3) := by decide +kernel
theorem dX11_may_22 : decode cX11_may 22 = .ok (.invokevirtual 175, 3) := by decide +kernel
theorem dX11_may_25 : decode cX11_may 25 = .ok (.goto 8, 3) := by decide +kernel
theorem dX11_may_28 : decode cX11_may 28 = .ok (.aload_n 0, 1) := by decide +kernel
theorem dX11_may_29 : decode cX11_may 29 = .ok (.iconst 5, 1) := by decide +kernel
theorem dX11_may_30 : decode cX11_may 30 = .ok (.invokevirtual 161, 3) := by decide +kernel
theorem dX11_may_33 : decode cX11_may 33 = .ok (.ireturn, 1) := by decide +kernel
theorem dX11_theft_0 : decode cX11_theft 0 = .ok (.iconst 0, 1) := by decide +kernel
theorem dX11_theft_1 : decode cX11_theft 1 = .ok (.istore_n 1, 1) := by decide +kernel
theorem dX11_theft_2 : decode cX11_theft 2 = .ok (.iconst 0, 1) := by decide +kernel
theorem dX11_theft_3 : decode cX11_theft 3 = .ok (.istore_n 2, 1) := by decide +kernel
theorem dX11_theft_4 : decode cX11_theft 4 = .ok (.iload_n 2, 1) := by decide +kernel
theorem dX11_theft_5 : decode cX11_theft 5 = .ok (.aload_n 0, 1) := by decide +kernel
theorem dX11_theft_6 : decode cX11_theft 6 = .ok (.getfield 56, 3) := by decide +kernel
theorem dX11_theft_9 : decode cX11_theft 9 = .ok (.invokevirtual 211, 3) := by decide +kernel
theorem dX11_theft_12 : decode cX11_theft 12 = .ok (.if_icmp .ge 49, 3) := by decide +kernel
theorem dX11_theft_15 : decode cX11_theft 15 = .ok (.aload_n 0, 1) := by decide +kernel
theorem dX11_theft_16 : decode cX11_theft 16 = .ok (.getfield 56, 3) := by decide +kernel
theorem dX11_theft_19 : decode cX11_theft 19 = .ok (.getfield 190, 3) := by decide +kernel
theorem dX11_theft_22 : decode cX11_theft 22 = .ok (.aload_n 0, 1) := by decide +kernel
theorem dX11_theft_23 : decode cX11_theft 23 = .ok (.getfield 56, 3) := by decide +kernel
theorem dX11_theft_26 : decode cX11_theft 26 = .ok (.getfield 233, 3) := by decide +kernel
theorem dX11_theft_29 : decode cX11_theft 29 = .ok (.iload_n 2, 1) := by decide +kernel
theorem dX11_theft_30 : decode cX11_theft 30 = .ok (.iaload, 1) := by decide +kernel
theorem dX11_theft_31 : decode cX11_theft 31 = .ok (.invokevirtual 336, 3) := by decide +kernel
theorem dX11_theft_34 : decode cX11_theft 34 = .ok (.aload_n 0, 1) := by decide +kernel
theorem dX11_theft_35 : decode cX11_theft 35 = .ok (.getfield 56, 3) := by decide +kernel
theorem dX11_theft_38 : decode cX11_theft 38 = .ok (.getfield 230, 3) := by decide +kernel
theorem dX11_theft_41 : decode cX11_theft 41 = .ok (.iload_n 2, 1) := by decide +kernel
theorem dX11_theft_42 : decode cX11_theft 42 = .ok (.iaload, 1) := by decide +kernel
theorem dX11_theft_43 : decode cX11_theft 43 = .ok (.ishr, 1) := by decide +kernel
theorem dX11_theft_44 : decode cX11_theft 44 = .ok (.iconst 1, 1) := by decide +kernel
theorem dX11_theft_45 : decode cX11_theft 45 = .ok (.iand, 1) := by decide +kernel
theorem dX11_theft_46 : decode cX11_theft 46 = .ok (.ifCond .ne 9, 3) := by decide +kernel
theorem dX11_theft_49 : decode cX11_theft 49 = .ok (.iload_n 1, 1) := by decide +kernel
theorem dX11_theft_50 : decode cX11_theft 50 = .ok (.iconst 1, 1) := by decide +kernel
theorem dX11_theft_51 : decode cX11_theft 51 = .ok (.iload_n 2, 1) := by decide +kernel
theorem dX11_theft_52 : decode cX11_theft 52 = .ok (.ishl, 1) := by decide +kernel
theorem dX11_theft_53 : decode cX11_theft 53 = .ok (.ior, 1) := by decide +kernel
theorem dX11_theft_54 : decode cX11_theft 54 = .ok (.istore_n 1, 1) := by decide +kernel
theorem dX11_theft_55 : decode cX11_theft 55 = .ok (.iinc 2 1, 3) := by decide +kernel
theorem dX11_theft_58 : decode cX11_theft 58 = .ok (.goto (-54), 3) := by decide +kernel
theorem dX11_theft_61 : decode cX11_theft 61 = .ok (.aload_n 0, 1) := by decide +kernel
theorem dX11_theft_62 : decode cX11_theft 62 = .ok (.iload_n 1, 1) := by decide +kernel
theorem dX11_theft_63 : decode cX11_theft 63 = .ok (.invokevirtual 175, 3) := by decide +kernel
theorem dX11_theft_66 : decode cX11_theft 66 = .ok (.ireturn, 1) := by decide +kernel
theorem dX11_told_0 : decode cX11_told 0 = .ok (.aload_n 0, 1) := by decide +kernel
theorem dX11_told_1 : decode cX11_told 1 = .ok (.getfield 56, 3) := by decide +kernel
theorem dX11_told_4 : decode cX11_told 4 = .ok (.invokevirtual 339, 3) := by decide +kernel
theorem dX11_told_7 : decode cX11_told 7 = .ok (.istore_n 1, 1) := by decide +kernel
theorem dX11_told_8 : decode cX11_told 8 = .ok (.iload_n 1, 1) := by decide +kernel
theorem dX11_told_9 : decode cX11_told 9 = .ok (.iconst (-1), 1) := by decide +kernel
theorem dX11_told_10 : decode cX11_told 10 = .ok (.if_icmp .ne 12, 3) := by decide +kernel
theorem dX11_told_13 : decode cX11_told 13 = .ok (.aload_n 0, 1) := by decide +kernel
theorem dX11_told_14 : decode cX11_told 14 = .ok (.bipush 8, 2) := by decide +kernel
theorem dX11_told_16 : decode cX11_told 16 = .ok (.invokevirtual 161, 3) := by decide +kernel
theorem dX11_told_19 : decode cX11_told 19 = .ok (.goto 8, 3) := by decide +kernel
theorem dX11_told_22 : decode cX11_told 22 = .ok (.aload_n 0, 1) := by decide +kernel
theorem dX11_told_23 : decode cX11_told 23 = .ok (.iload_n 1, 1) := by decide +kernel
theorem dX11_told_24 : decode cX11_told 24 = .ok (.invokevirtual 175, 3) := by decide +kernel
theorem dX11_told_27 : decode cX11_told 27 = .ok (.ireturn, 1) := by decide +kernel
theorem dX11_rubbed_0 : decode cX11_rubbed 0 = .ok (.aload_n 0, 1) := by decide +kernel
theorem dX11_rubbed_1 : decode cX11_rubbed 1 = .ok (.getfield 56, 3) := by decide +kernel
theorem dX11_rubbed_4 : decode cX11_rubbed 4 = .ok (.invokevirtual 342, 3) := by decide +kernel
theorem dX11_rubbed_7 : decode cX11_rubbed 7 = .ok (.istore_n 1, 1) := by decide +kernel
theorem dX11_rubbed_8 : decode cX11_rubbed 8 = .ok (.iload_n 1, 1) := by decide +kernel
theorem dX11_rubbed_9 : decode cX11_rubbed 9 = .ok (.iconst (-1), 1) := by decide +kernel
theorem dX11_rubbed_10 : decode cX11_rubbed 10 = .ok (.if_icmp .ne 12, 3) := by decide +kernel
theorem dX11_rubbed_13 : decode cX11_rubbed 13 = .ok (.aload_n 0, 1) := by decide +kernel
theorem dX11_rubbed_14 : decode cX11_rubbed 14 = .ok (.bipush 8, 2) := by decide +kernel
theorem dX11_rubbed_16 : decode cX11_rubbed 16 = .ok (.invokevirtual 161, 3) := by decide +kernel
theorem dX11_rubbed_19 : decode cX11_rubbed 19 = .ok (.goto 11, 3) := by decide +kernel
theorem dX11_rubbed_22 : decode cX11_rubbed 22 = .ok (.aload_n 0, 1) := by decide +kernel
theorem dX11_rubbed_23 : decode cX11_rubbed 23 = .ok (.iload_n 1, 1) := by decide +kernel
theorem dX11_rubbed_24 : decode cX11_rubbed 24 = .ok (.invokestatic 345, 3) := by decide +kernel
theorem dX11_rubbed_27 : decode cX11_rubbed 27 = .ok (.invokevirtual 175, 3) := by decide +kernel
theorem dX11_rubbed_30 : decode cX11_rubbed 30 = .ok (.ireturn, 1) := by decide +kernel
theorem dX11_rubbedSet_0 : decode cX11_rubbedSet 0 = .ok (.aload_n 0, 1) := by decide +kernel
theorem dX11_rubbedSet_1 : decode cX11_rubbedSet 1 = .ok (.getfield 56, 3) := by decide +kernel
theorem dX11_rubbedSet_4 : decode cX11_rubbedSet 4 = .ok (.invokevirtual 342, 3) := by decide +kernel
theorem dX11_rubbedSet_7 : decode cX11_rubbedSet 7 = .ok (.istore_n 1, 1) := by decide +kernel
theorem dX11_rubbedSet_8 : decode cX11_rubbedSet 8 = .ok (.iload_n 1, 1) := by decide +kernel
theorem dX11_rubbedSet_9 : decode cX11_rubbedSet 9 = .ok (.iconst (-1), 1) := by decide +kernel
theorem dX11_rubbedSet_10 : decode cX11_rubbedSet 10 = .ok (.if_icmp .ne 12, 3) := by decide +kernel
theorem dX11_rubbedSet_13 : decode cX11_rubbedSet 13 = .ok (.aload_n 0, 1) := by decide +kernel
theorem dX11_rubbedSet_14 : decode cX11_rubbedSet 14 = .ok (.bipush 8, 2) := by decide +kernel
theorem dX11_rubbedSet_16 : decode cX11_rubbedSet 16 = .ok (.invokevirtual 161, 3) := by decide +kernel
theorem dX11_rubbedSet_19 : decode cX11_rubbedSet 19 = .ok (.goto 8, 3) := by decide +kernel
theorem dX11_rubbedSet_22 : decode cX11_rubbedSet 22 = .ok (.aload_n 0, 1) := by decide +kernel
theorem dX11_rubbedSet_23 : decode cX11_rubbedSet 23 = .ok (.iload_n 1, 1) := by decide +kernel
theorem dX11_rubbedSet_24 : decode cX11_rubbedSet 24 = .ok (.invokevirtual 175, 3) := by decide +kernel
theorem dX11_rubbedSet_27 : decode cX11_rubbedSet 27 = .ok (.ireturn, 1) := by decide +kernel
theorem dX11_game_0 : decode cX11_game 0 = .ok (.iload_n 1, 1) := by decide +kernel
theorem dX11_game_1 : decode cX11_game 1 = .ok (.iconst 0, 1) := by decide +kernel
theorem dX11_game_2 : decode cX11_game 2 = .ok (.iconst 2, 1) := by decide +kernel
theorem dX11_game_3 : decode cX11_game 3 = .ok (.invokestatic 116, 3) := by decide +kernel
theorem dX11_game_6 : decode cX11_game 6 = .ok (.ifCond .ne 9, 3) := by decide +kernel
theorem dX11_game_9 : decode cX11_game 9 = .ok (.aload_n 0, 1) := by decide +kernel
theorem dX11_game_10 : decode cX11_game 10 = .ok (.iconst 5, 1) := by decide +kernel
theorem dX11_game_11 : decode cX11_game 11 = .ok (.invokevirtual 161, 3) := by decide +kernel
theorem dX11_game_14 : decode cX11_game 14 = .ok (.ireturn, 1) := by decide +kernel
theorem dX11_game_15 : decode cX11_game 15 = .ok (.aload_n 0, 1) := by decide +kernel
theorem dX11_game_16 : decode cX11_game 16 = .ok (.getfield 56, 3) := by decide +kernel
theorem dX11_game_19 : decode cX11_game 19 = .ok (.getfield 172, 3) := by decide +kernel
theorem dX11_game_22 : decode cX11_game 22 = .ok (.ifCond .ne 10, 3) := by decide +kernel
theorem dX11_game_25 : decode cX11_game 25 = .ok (.aload_n 0, 1) := by decide +kernel
theorem dX11_game_26 : decode cX11_game 26 = .ok (.bipush 8, 2) := by decide +kernel
theorem dX11_game_28 : decode cX11_game 28 = .ok (.invokevirtual 161, 3) := by decide +kernel
theorem dX11_game_31 : decode cX11_game 31 = .ok (.ireturn, 1) := by decide +kernel
theorem dX11_game_32 : decode cX11_game 32 = .ok (.aload_n 0, 1) := by decide +kernel
theorem dX11_game_33 : decode cX11_game 33 = .ok (.aload_n 0, 1) := by decide +kernel
theorem dX11_game_34 : decode cX11_game 34 = .ok (.getfield 56, 3) := by decide +kernel
theorem dX11_game_37 : decode cX11_game 37 = .ok (.iload_n 1, 1) := by decide +kernel
theorem dX11_game_38 : decode cX11_game 38 = .ok (.aload_n 0, 1) := by decide +kernel
theorem dX11_game_39 : decode cX11_game 39 = .ok (.getfield 56, 3) := by decide +kernel
theorem dX11_game_42 : decode cX11_game 42 = .ok (.getfield 242, 3) := by decide +kernel
theorem dX11_game_45 : decode cX11_game 45 = .ok (.iconst 0, 1) := by decide +kernel
theorem dX11_game_46 : decode cX11_game 46 = .ok (.invokestatic 350, 3) := by decide +kernel
theorem dX11_game_49 : decode cX11_game 49 = .ok (.invokevirtual 175, 3) := by decide +kernel
theorem dX11_game_52 : decode cX11_game 52 = .ok (.ireturn, 1) := by decide +kernel
theorem dX11_moveOf_0 : decode cX11_moveOf 0 = .ok (.iload_n 1, 1) := by decide +kernel
theorem dX11_moveOf_1 : decode cX11_moveOf 1 = .ok (.iconst 1, 1) := by decide +kernel
theorem dX11_moveOf_2 : decode cX11_moveOf 2 = .ok (.iconst 2, 1) := by decide +kernel
theorem dX11_moveOf_3 : decode cX11_moveOf 3 = .ok (.invokestatic 116, 3) := by decide +kernel
theorem dX11_moveOf_6 : decode cX11_moveOf 6 = .ok (.ifCond .ne 9, 3) := by decide +kernel
theorem dX11_moveOf_9 : decode cX11_moveOf 9 = .ok (.aload_n 0, 1) := by decide +kernel
theorem dX11_moveOf_10 : decode cX11_moveOf 10 = .ok (.iconst 5, 1) := by decide +kernel
theorem dX11_moveOf_11 : decode cX11_moveOf 11 = .ok (.invokevirtual 161, 3) := by decide +kernel
theorem dX11_moveOf_14 : decode cX11_moveOf 14 = .ok (.ireturn, 1) := by decide +kernel
theorem dX11_moveOf_15 : decode cX11_moveOf 15 = .ok (.aload_n 0, 1) := by decide +kernel
theorem dX11_moveOf_16 : decode cX11_moveOf 16 = .ok (.getfield 56, 3) := by decide +kernel
theorem dX11_moveOf_19 : decode cX11_moveOf 19 = .ok (.getfield 172, 3) := by decide +kernel
theorem dX11_moveOf_22 : decode cX11_moveOf 22 = .ok (.ifCond .ne 10, 3) := by decide +kernel
theorem dX11_moveOf_25 : decode cX11_moveOf 25 = .ok (.aload_n 0, 1) := by decide +kernel
theorem dX11_moveOf_26 : decode cX11_moveOf 26 = .ok (.bipush 8, 2) := by decide +kernel
theorem dX11_moveOf_28 : decode cX11_moveOf 28 = .ok (.invokevirtual 161, 3) := by decide +kernel
theorem dX11_moveOf_31 : decode cX11_moveOf 31 = .ok (.ireturn, 1) := by decide +kernel
theorem dX11_moveOf_32 : decode cX11_moveOf 32 = .ok (.aload_n 0, 1) := by decide +kernel
theorem dX11_moveOf_33 : decode cX11_moveOf 33 = .ok (.getfield 56, 3) := by decide +kernel
theorem dX11_moveOf_36 : decode cX11_moveOf 36 = .ok (.iload_n 1, 1) := by decide +kernel
theorem dX11_moveOf_37 : decode cX11_moveOf 37 = .ok (.invokestatic 356, 3) := by decide +kernel
theorem dX11_moveOf_40 : decode cX11_moveOf 40 = .ok (.istore_n 2, 1) := by decide +kernel
theorem dX11_moveOf_41 : decode cX11_moveOf 41 = .ok (.iload_n 2, 1) := by decide +kernel
theorem dX11_moveOf_42 : decode cX11_moveOf 42 = .ok (.iconst (-1), 1) := by decide +kernel
theorem dX11_moveOf_43 : decode cX11_moveOf 43 = .ok (.if_icmp .ne 12, 3) := by decide +kernel
theorem dX11_moveOf_46 : decode cX11_moveOf 46 = .ok (.aload_n 0, 1) := by decide +kernel
theorem dX11_moveOf_47 : decode cX11_moveOf 47 = .ok (.bipush 8, 2) := by decide +kernel
theorem dX11_moveOf_49 : decode cX11_moveOf 49 = .ok (.invokevirtual 161, 3) := by decide +kernel
theorem dX11_moveOf_52 : decode cX11_moveOf 52 = .ok (.goto 8, 3) := by decide +kernel
theorem dX11_moveOf_55 : decode cX11_moveOf 55 = .ok (.aload_n 0, 1) := by decide +kernel
theorem dX11_moveOf_56 : decode cX11_moveOf 56 = .ok (.iload_n 2, 1) := by decide +kernel
theorem dX11_moveOf_57 : decode cX11_moveOf 57 = .ok (.invokevirtual 175, 3) := by decide +kernel
theorem dX11_moveOf_60 : decode cX11_moveOf 60 = .ok (.ireturn, 1) := by decide +kernel
theorem dX11_dozes_0 : decode cX11_dozes 0 = .ok (.iload_n 1, 1) := by decide +kernel
theorem dX11_dozes_1 : decode cX11_dozes 1 = .ok (.iconst 0, 1) := by decide +kernel
theorem dX11_dozes_2 : decode cX11_dozes 2 = .ok (.bipush 12, 2) := by decide +kernel
theorem dX11_dozes_4 : decode cX11_dozes 4 = .ok (.invokestatic 116, 3) := by decide +kernel
theorem dX11_dozes_7 : decode cX11_dozes 7 = .ok (.ifCond .eq 13, 3) := by decide +kernel
theorem dX11_dozes_10 : decode cX11_dozes 10 = .ok (.iload_n 2, 1) := by decide +kernel
theorem dX11_dozes_11 : decode cX11_dozes 11 = .ok (.iconst 0, 1) := by decide +kernel
theorem dX11_dozes_12 : decode cX11_dozes 12 = .ok (.bipush 12, 2) := by decide +kernel
theorem dX11_dozes_14 : decode cX11_dozes 14 = .ok (.invokestatic 116, 3) := by decide +kernel
theorem dX11_dozes_17 : decode cX11_dozes 17 = .ok (.ifCond .ne 9, 3) := by decide +kernel
theorem dX11_dozes_20 : decode cX11_dozes 20 = .ok (.aload_n 0, 1) := by decide +kernel
theorem dX11_dozes_21 : decode cX11_dozes 21 = .ok (.iconst 5, 1) := by decide +kernel
theorem dX11_dozes_22 : decode cX11_dozes 22 = .ok (.invokevirtual 109, 3) := by decide +kernel
theorem dX11_dozes_25 : decode cX11_dozes 25 = .ok (.ireturn, 1) := by decide +kernel
theorem dX11_dozes_26 : decode cX11_dozes 26 = .ok (.aload_n 0, 1) := by decide +kernel
theorem dX11_dozes_27 : decode cX11_dozes 27 = .ok (.aload_n 0, 1) := by decide +kernel
theorem dX11_dozes_28 : decode cX11_dozes 28 = .ok (.getfield 56, 3) := by decide +kernel
theorem dX11_dozes_31 : decode cX11_dozes 31 = .ok (.getfield 205, 3) := by decide +kernel
theorem dX11_dozes_34 : decode cX11_dozes 34 = .ok (.iload_n 1, 1) := by decide +kernel
theorem dX11_dozes_35 : decode cX11_dozes 35 = .ok (.iload_n 2, 1) := by decide +kernel
theorem dX11_dozes_36 : decode cX11_dozes 36 = .ok (.invokestatic 360, 3) := by decide +kernel
theorem dX11_dozes_39 : decode cX11_dozes 39 = .ok (.bipush 16, 2) := by decide +kernel
theorem dX11_dozes_41 : decode cX11_dozes 41 = .ok (.iload_n 1, 1) := by decide +kernel
theorem dX11_dozes_42 : decode cX11_dozes 42 = .ok (.invokestatic 364, 3) := by decide +kernel
theorem dX11_dozes_45 : decode cX11_dozes 45 = .ok (.invokevirtual 368, 3) := by decide +kernel
theorem dX11_dozes_48 : decode cX11_dozes 48 = .ok (.ireturn, 1) := by decide +kernel
theorem dX11_waysToDoze_0 : decode cX11_waysToDoze 0 = .ok (.lconst 0, 1) := by decide +kernel
theorem dX11_waysToDoze_1 : decode cX11_waysToDoze 1 = .ok (.lstore_n 3, 1) := by decide +kernel
theorem dX11_waysToDoze_2 : decode cX11_waysToDoze 2 = .ok (.lconst 1, 1) := by decide +kernel
theorem dX11_waysToDoze_3 : decode cX11_waysToDoze 3 = .ok (.lstore 5, 2) := by decide +kernel
theorem dX11_waysToDoze_5 : decode cX11_waysToDoze 5 = .ok (.iconst 0, 1) := by decide +kernel
theorem dX11_waysToDoze_6 : decode cX11_waysToDoze 6 = .ok (.istore 7, 2) := by decide +kernel
theorem dX11_waysToDoze_8 : decode cX11_waysToDoze 8 = .ok (.iload 7, 2) := by decide +kernel
theorem dX11_waysToDoze_10 : decode cX11_waysToDoze 10 = .ok (.iload_n 1, 1) := by decide +kernel
theorem dX11_waysToDoze_11 : decode cX11_waysToDoze 11 = .ok (.if_icmp .gt 55, 3) := by decide +kernel
theorem dX11_waysToDoze_14 : decode cX11_waysToDoze 14 = .ok (.iload 7, 2) := by decide +kernel
theorem dX11_waysToDoze_16 : decode cX11_waysToDoze 16 = .ok (.iload_n 2, 1) := by decide +kernel
theorem dX11_waysToDoze_17 : decode cX11_waysToDoze 17 = .ok (.if_icmp .lt 27, 3) := by decide +kernel
theorem dX11_waysToDoze_20 : decode cX11_waysToDoze 20 = .ok (.lload_n 3, 1) := by decide +kernel
theorem dX11_waysToDoze_21 : decode cX11_waysToDoze 21 = .ok (.lload 5, 2) := by decide +kernel
theorem dX11_waysToDoze_23 : decode cX11_waysToDoze 23 = .ok (.iload_n 0, 1) := by decide +kernel
theorem dX11_waysToDoze_24 : decode cX11_waysToDoze 24 = .ok (.iload 7, 2) := by decide +kernel
theorem dX11_waysToDoze_26 : decode cX11_waysToDoze 26 = .ok (.invokestatic 364, 3) := by decide +kernel
theorem dX11_waysToDoze_29 : decode cX11_waysToDoze 29 = .ok (.lmul, 1) := by decide +kernel
theorem dX11_waysToDoze_30 : decode cX11_waysToDoze 30 = .ok (.bipush 16, 2) := by decide +kernel
theorem dX11_waysToDoze_32 : decode cX11_waysToDoze 32 = .ok (.iload_n 0, 1) := by decide +kernel
theorem dX11_waysToDoze_33 : decode cX11_waysToDoze 33 = .ok (.isub, 1) := by decide +kernel
theorem dX11_waysToDoze_34 : decode cX11_waysToDoze 34 = .ok (.iload_n 1, 1) := by decide +kernel
theorem dX11_waysToDoze_35 : decode cX11_waysToDoze 35 = .ok (.iload 7, 2) := by decide +kernel
theorem dX11_waysToDoze_37 : decode cX11_waysToDoze 37 = .ok (.isub, 1) := by decide +kernel
theorem dX11_waysToDoze_38 : decode cX11_waysToDoze 38 = .ok (.invokestatic 364, 3) := by decide +kernel
theorem dX11_waysToDoze_41 : decode cX11_waysToDoze 41 = .ok (.lmul, 1) := by decide +kernel
theorem dX11_waysToDoze_42 : decode cX11_waysToDoze 42 = .ok (.ladd, 1) := by decide +kernel
theorem dX11_waysToDoze_43 : decode cX11_waysToDoze 43 = .ok (.lstore_n 3, 1) := by decide +kernel
theorem dX11_waysToDoze_44 : decode cX11_waysToDoze 44 = .ok (.lload 5, 2) := by decide +kernel
theorem dX11_waysToDoze_46 : decode cX11_waysToDoze 46 = .ok (.iload_n 1, 1) := by decide +kernel
theorem dX11_waysToDoze_47 : decode cX11_waysToDoze 47 = .ok (.iload 7, 2) := by decide +kernel
theorem dX11_waysToDoze_49 : decode cX11_waysToDoze 49 = .ok (.isub, 1) := by decide +kernel
theorem dX11_waysToDoze_50 : decode cX11_waysToDoze 50 = .ok (.i2l, 1) := by decide +kernel
theorem dX11_waysToDoze_51 : decode cX11_waysToDoze 51 = .ok (.lmul, 1) := by decide +kernel
theorem dX11_waysToDoze_52 : decode cX11_waysToDoze 52 = .ok (.iload 7, 2) := by decide +kernel
theorem dX11_waysToDoze_54 : decode cX11_waysToDoze 54 = .ok (.iconst 1, 1) := by decide +kernel
theorem dX11_waysToDoze_55 : decode cX11_waysToDoze 55 = .ok (.iadd, 1) := by decide +kernel
theorem dX11_waysToDoze_56 : decode cX11_waysToDoze 56 = .ok (.i2l, 1) := by decide +kernel
theorem dX11_waysToDoze_57 : decode cX11_waysToDoze 57 = .ok (.ldiv, 1) := by decide +kernel
theorem dX11_waysToDoze_58 : decode cX11_waysToDoze 58 = .ok (.lstore 5, 2) := by decide +kernel
theorem dX11_waysToDoze_60 : decode cX11_waysToDoze 60 = .ok (.iinc 7 1, 3) := by decide +kernel
theorem dX11_waysToDoze_63 : decode cX11_waysToDoze 63 = .ok (.goto (-55), 3) := by decide +kernel
theorem dX11_waysToDoze_66 : decode cX11_waysToDoze 66 = .ok (.lload_n 3, 1) := by decide +kernel
theorem dX11_waysToDoze_67 : decode cX11_waysToDoze 67 = .ok (.lreturn, 1) := by decide +kernel
theorem dX11_power_0 : decode cX11_power 0 = .ok (.lconst 1, 1) := by decide +kernel
theorem dX11_power_1 : decode cX11_power 1 = .ok (.lstore_n 2, 1) := by decide +kernel
theorem dX11_power_2 : decode cX11_power 2 = .ok (.iconst 0, 1) := by decide +kernel
theorem dX11_power_3 : decode cX11_power 3 = .ok (.istore 4, 2) := by decide +kernel
theorem dX11_power_5 : decode cX11_power 5 = .ok (.iload 4, 2) := by decide +kernel
theorem dX11_power_7 : decode cX11_power 7 = .ok (.iload_n 1, 1) := by decide +kernel
theorem dX11_power_8 : decode cX11_power 8 = .ok (.if_icmp .ge 14, 3) := by decide +kernel
theorem dX11_power_11 : decode cX11_power 11 = .ok (.lload_n 2, 1) := by decide +kernel
theorem dX11_power_12 : decode cX11_power 12 = .ok (.iload_n 0, 1) := by decide +kernel
theorem dX11_power_13 : decode cX11_power 13 = .ok (.i2l, 1) := by decide +kernel
theorem dX11_power_14 : decode cX11_power 14 = .ok (.lmul, 1) := by decide +kernel
theorem dX11_power_15 : decode cX11_power 15 = .ok (.lstore_n 2, 1) := by decide +kernel
theorem dX11_power_16 : decode cX11_power 16 = .ok (.iinc 4 1, 3) := by decide +kernel
theorem dX11_power_19 : decode cX11_power 19 = .ok (.goto (-14), 3) := by decide +kernel
theorem dX11_power_22 : decode cX11_power 22 = .ok (.lload_n 2, 1) := by decide +kernel
theorem dX11_power_23 : decode cX11_power 23 = .ok (.lreturn, 1) := by decide +kernel
theorem dX11_shame_0 : decode cX11_shame 0 = .ok (.aload_n 0, 1) := by decide +kernel
theorem dX11_shame_1 : decode cX11_shame 1 = .ok (.getfield 56, 3) := by decide +kernel
theorem dX11_shame_4 : decode cX11_shame 4 = .ok (.invokevirtual 211, 3) := by decide +kernel
theorem dX11_shame_7 : decode cX11_shame 7 = .ok (.istore_n 1, 1) := by decide +kernel
theorem dX11_shame_8 : decode cX11_shame 8 = .ok (.iload_n 1, 1) := by decide +kernel
theorem dX11_shame_9 : decode cX11_shame 9 = .ok (.ifCond .ne 12, 3) := by decide +kernel
theorem dX11_shame_12 : decode cX11_shame 12 = .ok (.aload_n 0, 1) := by decide +kernel
theorem dX11_shame_13 : decode cX11_shame 13 = .ok (.bipush 8, 2) := by decide +kernel
theorem dX11_shame_15 : decode cX11_shame 15 = .ok (.invokevirtual 109, 3) := by decide +kernel
theorem dX11_shame_18 : decode cX11_shame 18 = .ok (.goto 17, 3) := by decide +kernel
theorem dX11_shame_21 : decode cX11_shame 21 = .ok (.aload_n 0, 1) := by decide +kernel
theorem dX11_shame_22 : decode cX11_shame 22 = .ok (.aload_n 0, 1) := by decide +kernel
theorem dX11_shame_23 : decode cX11_shame 23 = .ok (.getfield 56, 3) := by decide +kernel
theorem dX11_shame_26 : decode cX11_shame 26 = .ok (.invokevirtual 215, 3) := by decide +kernel
theorem dX11_shame_29 : decode cX11_shame 29 = .ok (.i2l, 1) := by decide +kernel
theorem dX11_shame_30 : decode cX11_shame 30 = .ok (.iload_n 1, 1) := by decide +kernel
theorem dX11_shame_31 : decode cX11_shame 31 = .ok (.i2l, 1) := by decide +kernel
theorem dX11_shame_32 : decode cX11_shame 32 = .ok (.invokevirtual 368, 3) := by decide +kernel
theorem dX11_shame_35 : decode cX11_shame 35 = .ok (.ireturn, 1) := by decide +kernel
theorem dX11_live_0 : decode cX11_live 0 = .ok (.iload_n 1, 1) := by decide +kernel
theorem dX11_live_1 : decode cX11_live 1 = .ok (.iconst 0, 1) := by decide +kernel
theorem dX11_live_2 : decode cX11_live 2 = .ok (.sipush 9999, 3) := by decide +kernel
theorem dX11_live_5 : decode cX11_live 5 = .ok (.invokestatic 116, 3) := by decide +kernel
theorem dX11_live_8 : decode cX11_live 8 = .ok (.ifCond .ne 9, 3) := by decide +kernel
theorem dX11_live_11 : decode cX11_live 11 = .ok (.aload_n 0, 1) := by decide +kernel
theorem dX11_live_12 : decode cX11_live 12 = .ok (.iconst 5, 1) := by decide +kernel
theorem dX11_live_13 : decode cX11_live 13 = .ok (.invokevirtual 161, 3) := by decide +kernel
theorem dX11_live_16 : decode cX11_live 16 = .ok (.ireturn, 1) := by decide +kernel
theorem dX11_live_17 : decode cX11_live 17 = .ok (.aload_n 0, 1) := by decide +kernel
theorem dX11_live_18 : decode cX11_live 18 = .ok (.getfield 66, 3) := by decide +kernel
theorem dX11_live_21 : decode cX11_live 21 = .ok (.getfield 372, 3) := by decide +kernel
theorem dX11_live_24 : decode cX11_live 24 = .ok (.ifCond .ne 10, 3) := by decide +kernel
theorem dX11_live_27 : decode cX11_live 27 = .ok (.aload_n 0, 1) := by decide +kernel
theorem dX11_live_28 : decode cX11_live 28 = .ok (.bipush 8, 2) := by decide +kernel
theorem dX11_live_30 : decode cX11_live 30 = .ok (.invokevirtual 161, 3) := by decide +kernel
theorem dX11_live_33 : decode cX11_live 33 = .ok (.ireturn, 1) := by decide +kernel
theorem dX11_live_34 : decode cX11_live 34 = .ok (.aload_n 0, 1) := by decide +kernel
theorem dX11_live_35 : decode cX11_live 35 = .ok (.getfield 98, 3) := by decide +kernel
theorem dX11_live_38 : decode cX11_live 38 = .ok (.aload_n 0, 1) := by decide +kernel
theorem dX11_live_39 : decode cX11_live 39 = .ok (.getfield 56, 3) := by decide +kernel
theorem dX11_live_42 : decode cX11_live 42 = .ok (.aload_n 0, 1) := by decide +kernel
theorem dX11_live_43 : decode cX11_live 43 = .ok (.getfield 66, 3) := by decide +kernel
theorem dX11_live_46 : decode cX11_live 46 = .ok (.iload_n 1, 1) := by decide +kernel
theorem dX11_live_47 : decode cX11_live 47 = .ok (.invokevirtual 376, 3) := by decide +kernel
theorem dX11_live_50 : decode cX11_live 50 = .ok (.aload_n 0, 1) := by decide +kernel
theorem dX11_live_51 : decode cX11_live 51 = .ok (.aload_n 0, 1) := by decide +kernel
theorem dX11_live_52 : decode cX11_live 52 = .ok (.getfield 98, 3) := by decide +kernel
theorem dX11_live_55 : decode cX11_live 55 = .ok (.getfield 380, 3) := by decide +kernel
theorem dX11_live_58 : decode cX11_live 58 = .ok (.invokevirtual 175, 3) := by decide +kernel
theorem dX11_live_61 : decode cX11_live 61 = .ok (.ireturn, 1) := by decide +kernel
theorem dX11_lived_0 : decode cX11_lived 0 = .ok (.iload_n 1, 1) := by decide +kernel
theorem dX11_lived_1 : decode cX11_lived 1 = .ok (.iconst 0, 1) := by decide +kernel
theorem dX11_lived_2 : decode cX11_lived 2 = .ok (.iconst 4, 1) := by decide +kernel
theorem dX11_lived_3 : decode cX11_lived 3 = .ok (.invokestatic 116, 3) := by decide +kernel
theorem dX11_lived_6 : decode cX11_lived 6 = .ok (.ifCond .ne 9, 3) := by decide +kernel
theorem dX11_lived_9 : decode cX11_lived 9 = .ok (.aload_n 0, 1) := by decide +kernel
theorem dX11_lived_10 : decode cX11_lived 10 = .ok (.iconst 5, 1) := by decide +kernel
theorem dX11_lived_11 : decode cX11_lived 11 = .ok (.invokevirtual 161, 3) := by decide +kernel
theorem dX11_lived_14 : decode cX11_lived 14 = .ok (.ireturn, 1) := by decide +kernel
theorem dX11_lived_15 : decode cX11_lived 15 = .ok (.aload_n 0, 1) := by decide +kernel
theorem dX11_lived_16 : decode cX11_lived 16 = .ok (.getfield 98, 3) := by decide +kernel
theorem dX11_lived_19 : decode cX11_lived 19 = .ok (.getfield 383, 3) := by decide +kernel
theorem dX11_lived_22 : decode cX11_lived 22 = .ok (.ifCond .ne 10, 3) := by decide +kernel
theorem dX11_lived_25 : decode cX11_lived 25 = .ok (.aload_n 0, 1) := by decide +kernel
theorem dX11_lived_26 : decode cX11_lived 26 = .ok (.bipush 8, 2) := by decide +kernel
theorem dX11_lived_28 : decode cX11_lived 28 = .ok (.invokevirtual 161, 3) := by decide +kernel
theorem dX11_lived_31 : decode cX11_lived 31 = .ok (.ireturn, 1) := by decide +kernel
theorem dX11_lived_32 : decode cX11_lived 32 = .ok (.iload_n 1, 1) := by decide +kernel
theorem dX11_lived_33 : decode cX11_lived 33 = .ok (.tableswitch 79 0 3 #[31, 43, 55, 67], 31) := by decide +kernel
theorem dX11_lived_64 : decode cX11_lived 64 = .ok (.aload_n 0, 1) := by decide +kernel
theorem dX11_lived_65 : decode cX11_lived 65 = .ok (.aload_n 0, 1) := by decide +kernel
theorem dX11_lived_66 : decode cX11_lived 66 = .ok (.getfield 98, 3) := by decide +kernel
theorem dX11_lived_69 : decode cX11_lived 69 = .ok (.getfield 386, 3) := by decide +kernel
theorem dX11_lived_72 : decode cX11_lived 72 = .ok (.invokevirtual 175, 3) := by decide +kernel
theorem dX11_lived_75 : decode cX11_lived 75 = .ok (.ireturn, 1) := by decide +kernel
theorem dX11_lived_76 : decode cX11_lived 76 = .ok (.aload_n 0, 1) := by decide +kernel
theorem dX11_lived_77 : decode cX11_lived 77 = .ok (.aload_n 0, 1) := by decide +kernel
theorem dX11_lived_78 : decode cX11_lived 78 = .ok (.getfield 98, 3) := by decide +kernel
theorem dX11_lived_81 : decode cX11_lived 81 = .ok (.getfield 389, 3) := by decide +kernel
theorem dX11_lived_84 : decode cX11_lived 84 = .ok (.invokevirtual 175, 3) := by decide +kernel
theorem dX11_lived_87 : decode cX11_lived 87 = .ok (.ireturn, 1) := by decide +kernel
theorem dX11_lived_88 : decode cX11_lived 88 = .ok (.aload_n 0, 1) := by decide +kernel
theorem dX11_lived_89 : decode cX11_lived 89 = .ok (.aload_n 0, 1) := by decide +kernel
theorem dX11_lived_90 : decode cX11_lived 90 = .ok (.getfield 98, 3) := by decide +kernel
theorem dX11_lived_93 : decode cX11_lived 93 = .ok (.getfield 392, 3) := by decide +kernel
theorem dX11_lived_96 : decode cX11_lived 96 = .ok (.invokevirtual 175, 3) := by decide +kernel
theorem dX11_lived_99 : decode cX11_lived 99 = .ok (.ireturn, 1) := by decide +kernel
theorem dX11_lived_100 : decode cX11_lived 100 = .ok (.aload_n 0, 1) := by decide +kernel
theorem dX11_lived_101 : decode cX11_lived 101 = .ok (.aload_n 0, 1) := by decide +kernel
theorem dX11_lived_102 : decode cX11_lived 102 = .ok (.getfield 98, 3) := by decide +kernel
theorem dX11_lived_105 : decode cX11_lived 105 = .ok (.getfield 395, 3) := by decide +kernel
theorem dX11_lived_108 : decode cX11_lived 108 = .ok (.invokevirtual 175, 3) := by decide +kernel
theorem dX11_lived_111 : decode cX11_lived 111 = .ok (.ireturn, 1) := by decide +kernel
theorem dX11_lived_112 : decode cX11_lived 112 = .ok (.aload_n 0, 1) := by decide +kernel
theorem dX11_lived_113 : decode cX11_lived 113 = .ok (.aload_n 0, 1) := by decide +kernel
theorem dX11_lived_114 : decode cX11_lived 114 = .ok (.getfield 98, 3) := by decide +kernel
theorem dX11_lived_117 : decode cX11_lived 117 = .ok (.getfield 396, 3) := by decide +kernel
theorem dX11_lived_120 : decode cX11_lived 120 = .ok (.invokevirtual 175, 3) := by decide +kernel
theorem dX11_lived_123 : decode cX11_lived 123 = .ok (.ireturn, 1) := by decide +kernel
theorem dX11_mean_0 : decode cX11_mean 0 = .ok (.iload_n 2, 1) := by decide +kernel
theorem dX11_mean_1 : decode cX11_mean 1 = .ok (.iconst 1, 1) := by decide +kernel
theorem dX11_mean_2 : decode cX11_mean 2 = .ok (.bipush 20, 2) := by decide +kernel
theorem dX11_mean_4 : decode cX11_mean 4 = .ok (.invokestatic 116, 3) := by decide +kernel
theorem dX11_mean_7 : decode cX11_mean 7 = .ok (.ifCond .eq 18, 3) := by decide +kernel
theorem dX11_mean_10 : decode cX11_mean 10 = .ok (.iload_n 1, 1) := by decide +kernel
theorem dX11_mean_11 : decode cX11_mean 11 = .ok (.iconst 0, 1) := by decide +kernel
theorem dX11_mean_12 : decode cX11_mean 12 = .ok (.sipush 9999, 3) := by decide +kernel
theorem dX11_mean_15 : decode cX11_mean 15 = .ok (.iload_n 2, 1) := by decide +kernel
theorem dX11_mean_16 : decode cX11_mean 16 = .ok (.isub, 1) := by decide +kernel
theorem dX11_mean_17 : decode cX11_mean 17 = .ok (.iconst 1, 1) := by decide +kernel
theorem dX11_mean_18 : decode cX11_mean 18 = .ok (.iadd, 1) := by decide +kernel
theorem dX11_mean_19 : decode cX11_mean 19 = .ok (.invokestatic 116, 3) := by decide +kernel
theorem dX11_mean_22 : decode cX11_mean 22 = .ok (.ifCond .ne 9, 3) := by decide +kernel
theorem dX11_mean_25 : decode cX11_mean 25 = .ok (.aload_n 0, 1) := by decide +kernel
theorem dX11_mean_26 : decode cX11_mean 26 = .ok (.iconst 5, 1) := by decide +kernel
theorem dX11_mean_27 : decode cX11_mean 27 = .ok (.invokevirtual 109, 3) := by decide +kernel
theorem dX11_mean_30 : decode cX11_mean 30 = .ok (.ireturn, 1) := by decide +kernel
theorem dX11_mean_31 : decode cX11_mean 31 = .ok (.aload_n 0, 1) := by decide +kernel
theorem dX11_mean_32 : decode cX11_mean 32 = .ok (.getfield 66, 3) := by decide +kernel
theorem dX11_mean_35 : decode cX11_mean 35 = .ok (.getfield 372, 3) := by decide +kernel
theorem dX11_mean_38 : decode cX11_mean 38 = .ok (.ifCond .ne 10, 3) := by decide +kernel
theorem dX11_mean_41 : decode cX11_mean 41 = .ok (.aload_n 0, 1) := by decide +kernel
theorem dX11_mean_42 : decode cX11_mean 42 = .ok (.bipush 8, 2) := by decide +kernel
theorem dX11_mean_44 : decode cX11_mean 44 = .ok (.invokevirtual 109, 3) := by decide +kernel
theorem dX11_mean_47 : decode cX11_mean 47 = .ok (.ireturn, 1) := by decide +kernel
theorem dX11_mean_48 : decode cX11_mean 48 = .ok (.lconst 0, 1) := by decide +kernel
theorem dX11_mean_49 : decode cX11_mean 49 = .ok (.lstore_n 3, 1) := by decide +kernel
theorem dX11_mean_50 : decode cX11_mean 50 = .ok (.iconst 0, 1) := by decide +kernel
theorem dX11_mean_51 : decode cX11_mean 51 = .ok (.istore 5, 2) := by decide +kernel
theorem dX11_mean_53 : decode cX11_mean 53 = .ok (.iload 5, 2) := by decide +kernel
theorem dX11_mean_55 : decode cX11_mean 55 = .ok (.iload_n 2, 1) := by decide +kernel
theorem dX11_mean_56 : decode cX11_mean 56 = .ok (.if_icmp .ge 50, 3) := by decide +kernel
theorem dX11_mean_59 : decode cX11_mean 59 = .ok (.aload_n 0, 1) := by decide +kernel
theorem dX11_mean_60 : decode cX11_mean 60 = .ok (.getfield 60, 3) := by decide +kernel
theorem dX11_mean_63 : decode cX11_mean 63 = .ok (.aload_n 0, 1) := by decide +kernel
theorem dX11_mean_64 : decode cX11_mean 64 = .ok (.getfield 56, 3) := by decide +kernel
theorem dX11_mean_67 : decode cX11_mean 67 = .ok (.invokevirtual 295, 3) := by decide +kernel
theorem dX11_mean_70 : decode cX11_mean 70 = .ok (.aload_n 0, 1) := by decide +kernel
theorem dX11_mean_71 : decode cX11_mean 71 = .ok (.getfield 102, 3) := by decide +kernel
theorem dX11_mean_74 : decode cX11_mean 74 = .ok (.aload_n 0, 1) := by decide +kernel
theorem dX11_mean_75 : decode cX11_mean 75 = .ok (.getfield 60, 3) := by decide +kernel
theorem dX11_mean_78 : decode cX11_mean 78 = .ok (.aload_n 0, 1) := by decide +kernel
theorem dX11_mean_79 : decode cX11_mean 79 = .ok (.getfield 66, 3) := by decide +kernel
theorem dX11_mean_82 : decode cX11_mean 82 = .ok (.iload_n 1, 1) := by decide +kernel
theorem dX11_mean_83 : decode cX11_mean 83 = .ok (.iload 5, 2) := by decide +kernel
theorem dX11_mean_85 : decode cX11_mean 85 = .ok (.iadd, 1) := by decide +kernel
theorem dX11_mean_86 : decode cX11_mean 86 = .ok (.invokevirtual 376, 3) := by decide +kernel
theorem dX11_mean_89 : decode cX11_mean 89 = .ok (.lload_n 3, 1) := by decide +kernel
theorem dX11_mean_90 : decode cX11_mean 90 = .ok (.aload_n 0, 1) := by decide +kernel
theorem dX11_mean_91 : decode cX11_mean 91 = .ok (.getfield 60, 3) := by decide +kernel
theorem dX11_mean_94 : decode cX11_mean 94 = .ok (.invokevirtual 215, 3) := by decide +kernel
theorem dX11_mean_97 : decode cX11_mean 97 = .ok (.i2l, 1) := by decide +kernel
theorem dX11_mean_98 : decode cX11_mean 98 = .ok (.ladd, 1) := by decide +kernel
theorem dX11_mean_99 : decode cX11_mean 99 = .ok (.lstore_n 3, 1) := by decide +kernel
theorem dX11_mean_100 : decode cX11_mean 100 = .ok (.iinc 5 1, 3) := by decide +kernel
theorem dX11_mean_103 : decode cX11_mean 103 = .ok (.goto (-50), 3) := by decide +kernel
theorem dX11_mean_106 : decode cX11_mean 106 = .ok (.aload_n 0, 1) := by decide +kernel
theorem dX11_mean_107 : decode cX11_mean 107 = .ok (.lload_n 3, 1) := by decide +kernel
theorem dX11_mean_108 : decode cX11_mean 108 = .ok (.iload_n 2, 1) := by decide +kernel
theorem dX11_mean_109 : decode cX11_mean 109 = .ok (.i2l, 1) := by decide +kernel
theorem dX11_mean_110 : decode cX11_mean 110 = .ok (.invokevirtual 368, 3) := by decide +kernel
theorem dX11_mean_113 : decode cX11_mean 113 = .ok (.ireturn, 1) := by decide +kernel
theorem dX11_mark_0 : decode cX11_mark 0 = .ok (.aload_n 0, 1) := by decide +kernel
theorem dX11_mark_1 : decode cX11_mark 1 = .ok (.getfield 20, 3) := by decide +kernel
theorem dX11_mark_4 : decode cX11_mark 4 = .ok (.iconst 3, 1) := by decide +kernel
theorem dX11_mark_5 : decode cX11_mark 5 = .ok (.if_icmp .lt 10, 3) := by decide +kernel
theorem dX11_mark_8 : decode cX11_mark 8 = .ok (.aload_n 0, 1) := by decide +kernel
theorem dX11_mark_9 : decode cX11_mark 9 = .ok (.bipush 7, 2) := by decide +kernel
theorem dX11_mark_11 : decode cX11_mark 11 = .ok (.invokevirtual 161, 3) := by decide +kernel
theorem dX11_mark_14 : decode cX11_mark 14 = .ok (.ireturn, 1) := by decide +kernel
theorem dX11_mark_15 : decode cX11_mark 15 = .ok (.aload_n 0, 1) := by decide +kernel
theorem dX11_mark_16 : decode cX11_mark 16 = .ok (.getfield 73, 3) := by decide +kernel
theorem dX11_mark_19 : decode cX11_mark 19 = .ok (.aload_n 0, 1) := by decide +kernel
theorem dX11_mark_20 : decode cX11_mark 20 = .ok (.getfield 20, 3) := by decide +kernel
theorem dX11_mark_23 : decode cX11_mark 23 = .ok (.aaload, 1) := by decide +kernel
theorem dX11_mark_24 : decode cX11_mark 24 = .ok (.aload_n 0, 1) := by decide +kernel
theorem dX11_mark_25 : decode cX11_mark 25 = .ok (.getfield 56, 3) := by decide +kernel
theorem dX11_mark_28 : decode cX11_mark 28 = .ok (.invokevirtual 295, 3) := by decide +kernel
theorem dX11_mark_31 : decode cX11_mark 31 = .ok (.aload_n 0, 1) := by decide +kernel
theorem dX11_mark_32 : decode cX11_mark 32 = .ok (.getfield 77, 3) := by decide +kernel
theorem dX11_mark_35 : decode cX11_mark 35 = .ok (.aload_n 0, 1) := by decide +kernel
theorem dX11_mark_36 : decode cX11_mark 36 = .ok (.getfield 20, 3) := by decide +kernel
theorem dX11_mark_39 : decode cX11_mark 39 = .ok (.aaload, 1) := by decide +kernel
theorem dX11_mark_40 : decode cX11_mark 40 = .ok (.aload_n 0, 1) := by decide +kernel
theorem dX11_mark_41 : decode cX11_mark 41 = .ok (.getfield 66, 3) := by decide +kernel
theorem dX11_mark_44 : decode cX11_mark 44 = .ok (.invokevirtual 399, 3) := by decide +kernel
theorem dX11_mark_47 : decode cX11_mark 47 = .ok (.aload_n 0, 1) := by decide +kernel
theorem dX11_mark_48 : decode cX11_mark 48 = .ok (.dup, 1) := by decide +kernel
theorem dX11_mark_49 : decode cX11_mark 49 = .ok (.getfield 20, 3) := by decide +kernel
theorem dX11_mark_52 : decode cX11_mark 52 = .ok (.iconst 1, 1) := by decide +kernel
theorem dX11_mark_53 : decode cX11_mark 53 = .ok (.iadd, 1) := by decide +kernel
theorem dX11_mark_54 : decode cX11_mark 54 = .ok (.putfield 20, 3) := by decide +kernel
theorem dX11_mark_57 : decode cX11_mark 57 = .ok (.aload_n 0, 1) := by decide +kernel
theorem dX11_mark_58 : decode cX11_mark 58 = .ok (.aload_n 0, 1) := by decide +kernel
theorem dX11_mark_59 : decode cX11_mark 59 = .ok (.getfield 20, 3) := by decide +kernel
theorem dX11_mark_62 : decode cX11_mark 62 = .ok (.invokevirtual 175, 3) := by decide +kernel
theorem dX11_mark_65 : decode cX11_mark 65 = .ok (.ireturn, 1) := by decide +kernel
theorem dX11_back_0 : decode cX11_back 0 = .ok (.aload_n 0, 1) := by decide +kernel
theorem dX11_back_1 : decode cX11_back 1 = .ok (.getfield 20, 3) := by decide +kernel
theorem dX11_back_4 : decode cX11_back 4 = .ok (.ifCond .gt 10, 3) := by decide +kernel
theorem dX11_back_7 : decode cX11_back 7 = .ok (.aload_n 0, 1) := by decide +kernel
theorem dX11_back_8 : decode cX11_back 8 = .ok (.bipush 8, 2) := by decide +kernel
theorem dX11_back_10 : decode cX11_back 10 = .ok (.invokevirtual 161, 3) := by decide +kernel
theorem dX11_back_13 : decode cX11_back 13 = .ok (.ireturn, 1) := by decide +kernel
theorem dX11_back_14 : decode cX11_back 14 = .ok (.aload_n 0, 1) := by decide +kernel
theorem dX11_back_15 : decode cX11_back 15 = .ok (.dup, 1) := by decide +kernel
theorem dX11_back_16 : decode cX11_back 16 = .ok (.getfield 20, 3) := by decide +kernel
theorem dX11_back_19 : decode cX11_back 19 = .ok (.iconst 1, 1) := by decide +kernel
theorem dX11_back_20 : decode cX11_back 20 = .ok (.isub, 1) := by decide +kernel
theorem dX11_back_21 : decode cX11_back 21 = .ok (.putfield 20, 3) := by decide +kernel
theorem dX11_back_24 : decode cX11_back 24 = .ok (.aload_n 0, 1) := by decide +kernel
theorem dX11_back_25 : decode cX11_back 25 = .ok (.getfield 56, 3) := by decide +kernel
theorem dX11_back_28 : decode cX11_back 28 = .ok (.aload_n 0, 1) := by decide +kernel
theorem dX11_back_29 : decode cX11_back 29 = .ok (.getfield 73, 3) := by decide +kernel
theorem dX11_back_32 : decode cX11_back 32 = .ok (.aload_n 0, 1) := by decide +kernel
theorem dX11_back_33 : decode cX11_back 33 = .ok (.getfield 20, 3) := by decide +kernel
theorem dX11_back_36 : decode cX11_back 36 = .ok (.aaload, 1) := by decide +kernel
theorem dX11_back_37 : decode cX11_back 37 = .ok (.invokevirtual 295, 3) := by decide +kernel
theorem dX11_back_40 : decode cX11_back 40 = .ok (.aload_n 0, 1) := by decide +kernel
theorem dX11_back_41 : decode cX11_back 41 = .ok (.getfield 66, 3) := by decide +kernel
theorem dX11_back_44 : decode cX11_back 44 = .ok (.aload_n 0, 1) := by decide +kernel
theorem dX11_back_45 : decode cX11_back 45 = .ok (.getfield 77, 3) := by decide +kernel
theorem dX11_back_48 : decode cX11_back 48 = .ok (.aload_n 0, 1) := by decide +kernel
theorem dX11_back_49 : decode cX11_back 49 = .ok (.getfield 20, 3) := by decide +kernel
theorem dX11_back_52 : decode cX11_back 52 = .ok (.aaload, 1) := by decide +kernel
theorem dX11_back_53 : decode cX11_back 53 = .ok (.invokevirtual 399, 3) := by decide +kernel
theorem dX11_back_56 : decode cX11_back 56 = .ok (.aload_n 0, 1) := by decide +kernel
theorem dX11_back_57 : decode cX11_back 57 = .ok (.aload_n 0, 1) := by decide +kernel
theorem dX11_back_58 : decode cX11_back 58 = .ok (.getfield 20, 3) := by decide +kernel
theorem dX11_back_61 : decode cX11_back 61 = .ok (.invokevirtual 175, 3) := by decide +kernel
theorem dX11_back_64 : decode cX11_back 64 = .ok (.ireturn, 1) := by decide +kernel
theorem dX12_init_0 : decode cX12_init 0 = .ok (.aload_n 0, 1) := by decide +kernel
theorem dX12_init_1 : decode cX12_init 1 = .ok (.invokespecial 1, 3) := by decide +kernel
theorem dX12_init_4 : decode cX12_init 4 = .ok (.aload_n 0, 1) := by decide +kernel
theorem dX12_init_5 : decode cX12_init 5 = .ok (.lconst 1, 1) := by decide +kernel
theorem dX12_init_6 : decode cX12_init 6 = .ok (.putfield 7, 3) := by decide +kernel
theorem dX12_init_9 : decode cX12_init 9 = .ok (.aload_n 0, 1) := by decide +kernel
theorem dX12_init_10 : decode cX12_init 10 = .ok (.iconst 4, 1) := by decide +kernel
theorem dX12_init_11 : decode cX12_init 11 = .ok (.newarray .int, 2) := by decide +kernel
theorem dX12_init_13 : decode cX12_init 13 = .ok (.putfield 13, 3) := by decide +kernel
theorem dX12_init_16 : decode cX12_init 16 = .ok (.aload_n 0, 1) := by decide +kernel
theorem dX12_init_17 : decode cX12_init 17 = .ok (.iconst 4, 1) := by decide +kernel
theorem dX12_init_18 : decode cX12_init 18 = .ok (.newarray .int, 2) := by decide +kernel
theorem dX12_init_20 : decode cX12_init 20 = .ok (.putfield 17, 3) := by decide +kernel
theorem dX12_init_23 : decode cX12_init 23 = .ok (.aload_n 0, 1) := by decide +kernel
theorem dX12_init_24 : decode cX12_init 24 = .ok (.sipush 240, 3) := by decide +kernel
theorem dX12_init_27 : decode cX12_init 27 = .ok (.newarray .long, 2) := by decide +kernel
theorem dX12_init_29 : decode cX12_init 29 = .ok (.putfield 20, 3) := by decide +kernel
theorem dX12_init_32 : decode cX12_init 32 = .ok (.aload_n 0, 1) := by decide +kernel
theorem dX12_init_33 : decode cX12_init 33 = .ok (.sipush 900, 3) := by decide +kernel
theorem dX12_init_36 : decode cX12_init 36 = .ok (.newarray .byte, 2) := by decide +kernel
theorem dX12_init_38 : decode cX12_init 38 = .ok (.putfield 24, 3) := by decide +kernel
theorem dX12_init_41 : decode cX12_init 41 = .ok (.aload_n 0, 1) := by decide +kernel
theorem dX12_init_42 : decode cX12_init 42 = .ok (.iconst (-1), 1) := by decide +kernel
theorem dX12_init_43 : decode cX12_init 43 = .ok (.putfield 28, 3) := by decide +kernel
theorem dX12_init_46 : decode cX12_init 46 = .ok (.aload_n 0, 1) := by decide +kernel
theorem dX12_init_47 : decode cX12_init 47 = .ok (.iconst (-1), 1) := by decide +kernel
theorem dX12_init_48 : decode cX12_init 48 = .ok (.putfield 32, 3) := by decide +kernel
theorem dX12_init_51 : decode cX12_init 51 = .ok (.aload_n 0, 1) := by decide +kernel
theorem dX12_init_52 : decode cX12_init 52 = .ok (.sipush 2000, 3) := by decide +kernel
theorem dX12_init_55 : decode cX12_init 55 = .ok (.newarray .int, 2) := by decide +kernel
theorem dX12_init_57 : decode cX12_init 57 = .ok (.putfield 35, 3) := by decide +kernel
theorem dX12_init_60 : decode cX12_init 60 = .ok (.aload_n 0, 1) := by decide +kernel
theorem dX12_init_61 : decode cX12_init 61 = .ok (.sipush 128, 3) := by decide +kernel
theorem dX12_init_64 : decode cX12_init 64 = .ok (.newarray .int, 2) := by decide +kernel
theorem dX12_init_66 : decode cX12_init 66 = .ok (.putfield 38, 3) := by decide +kernel
theorem dX12_init_69 : decode cX12_init 69 = .ok (.aload_n 0, 1) := by decide +kernel
theorem dX12_init_70 : decode cX12_init 70 = .ok (.sipush 128, 3) := by decide +kernel
theorem dX12_init_73 : decode cX12_init 73 = .ok (.newarray .int, 2) := by decide +kernel
theorem dX12_init_75 : decode cX12_init 75 = .ok (.putfield 41, 3) := by decide +kernel
theorem dX12_init_78 : decode cX12_init 78 = .ok (.aload_n 0, 1) := by decide +kernel
theorem dX12_init_79 : decode cX12_init 79 = .ok (.bipush 25, 2) := by decide +kernel
theorem dX12_init_81 : decode cX12_init 81 = .ok (.newarray .long, 2) := by decide +kernel
theorem dX12_init_83 : decode cX12_init 83 = .ok (.putfield 44, 3) := by decide +kernel
theorem dX12_init_86 : decode cX12_init 86 = .ok (.aload_n 0, 1) := by decide +kernel
theorem dX12_init_87 : decode cX12_init 87 = .ok (.bipush 25, 2) := by decide +kernel
theorem dX12_init_89 : decode cX12_init 89 = .ok (.newarray .int, 2) := by decide +kernel
theorem dX12_init_91 : decode cX12_init 91 = .ok (.putfield 47, 3) := by decide +kernel
theorem dX12_init_94 : decode cX12_init 94 = .ok (.aload_n 0, 1) := by decide +kernel
theorem dX12_init_95 : decode cX12_init 95 = .ok (.sipush 768, 3) := by decide +kernel
theorem dX12_init_98 : decode cX12_init 98 = .ok (.newarray .int, 2) := by decide +kernel
theorem dX12_init_100 : decode cX12_init 100 = .ok (.putfield 50, 3) := by decide +kernel
theorem dX12_init_103 : decode cX12_init 103 = .ok (.aload_n 0, 1) := by decide +kernel
theorem dX12_init_104 : decode cX12_init 104 = .ok (.iconst 5, 1) := by decide +kernel
theorem dX12_init_105 : decode cX12_init 105 = .ok (.newarray .int, 2) := by decide +kernel
theorem dX12_init_107 : decode cX12_init 107 = .ok (.putfield 53, 3) := by decide +kernel
theorem dX12_init_110 : decode cX12_init 110 = .ok (.aload_n 0, 1) := by decide +kernel
theorem dX12_init_111 : decode cX12_init 111 = .ok (.iconst 5, 1) := by decide +kernel
theorem dX12_init_112 : decode cX12_init 112 = .ok (.newarray .int, 2) := by decide +kernel
theorem dX12_init_114 : decode cX12_init 114 = .ok (.putfield 56, 3) := by decide +kernel
theorem dX12_init_117 : decode cX12_init 117 = .ok (.aload_n 0, 1) := by decide +kernel
theorem dX12_init_118 : decode cX12_init 118 = .ok (.iconst 5, 1) := by decide +kernel
theorem dX12_init_119 : decode cX12_init 119 = .ok (.newarray .int, 2) := by decide +kernel
theorem dX12_init_121 : decode cX12_init 121 = .ok (.putfield 59, 3) := by decide +kernel
theorem dX12_init_124 : decode cX12_init 124 = .ok (.aload_n 0, 1) := by decide +kernel
theorem dX12_init_125 : decode cX12_init 125 = .ok (.bipush 13, 2) := by decide +kernel
theorem dX12_init_127 : decode cX12_init 127 = .ok (.newarray .long, 2) := by decide +kernel
theorem dX12_init_129 : decode cX12_init 129 = .ok (.putfield 62, 3) := by decide +kernel
theorem dX12_init_132 : decode cX12_init 132 = .ok (.aload_n 0, 1) := by decide +kernel
theorem dX12_init_133 : decode cX12_init 133 = .ok (.iconst 5, 1) := by decide +kernel
theorem dX12_init_134 : decode cX12_init 134 = .ok (.newarray .int, 2) := by decide +kernel
theorem dX12_init_136 : decode cX12_init 136 = .ok (.putfield 65, 3) := by decide +kernel
theorem dX12_init_139 : decode cX12_init 139 = .ok (.iconst 0, 1) := by decide +kernel
theorem dX12_init_140 : decode cX12_init 140 = .ok (.istore_n 1, 1) := by decide +kernel
theorem dX12_init_141 : decode cX12_init 141 = .ok (.iload_n 1, 1) := by decide +kernel
theorem dX12_init_142 : decode cX12_init 142 = .ok (.iconst 4, 1) := by decide +kernel
theorem dX12_init_143 : decode cX12_init 143 = .ok (.if_icmp .ge 16, 3) := by decide +kernel
theorem dX12_init_146 : decode cX12_init 146 = .ok (.aload_n 0, 1) := by decide +kernel
theorem dX12_init_147 : decode cX12_init 147 = .ok (.getfield 17, 3) := by decide +kernel
theorem dX12_init_150 : decode cX12_init 150 = .ok (.iload_n 1, 1) := by decide +kernel
theorem dX12_init_151 : decode cX12_init 151 = .ok (.iconst (-1), 1) := by decide +kernel
theorem dX12_init_152 : decode cX12_init 152 = .ok (.iastore, 1) := by decide +kernel
theorem dX12_init_153 : decode cX12_init 153 = .ok (.iinc 1 1, 3) := by decide +kernel
theorem dX12_init_156 : decode cX12_init 156 = .ok (.goto (-15), 3) := by decide +kernel
theorem dX12_init_159 : decode cX12_init 159 = .ok (.aload_n 0, 1) := by decide +kernel
theorem dX12_init_160 : decode cX12_init 160 = .ok (.iconst 0, 1) := by decide +kernel
theorem dX12_init_161 : decode cX12_init 161 = .ok (.invokevirtual 68, 3) := by decide +kernel
theorem dX12_init_164 : decode cX12_init 164 = .ok (.return_, 1) := by decide +kernel
theorem dX12_status_0 : decode cX12_status 0 = .ok (.aload_n 0, 1) := by decide +kernel
theorem dX12_status_1 : decode cX12_status 1 = .ok (.iconst 0, 1) := by decide +kernel
theorem dX12_status_2 : decode cX12_status 2 = .ok (.putfield 72, 3) := by decide +kernel
theorem dX12_status_5 : decode cX12_status 5 = .ok (.aload_n 0, 1) := by decide +kernel
theorem dX12_status_6 : decode cX12_status 6 = .ok (.getfield 75, 3) := by decide +kernel
theorem dX12_status_9 : decode cX12_status 9 = .ok (.ireturn, 1) := by decide +kernel
theorem dX12_top_0 : decode cX12_top 0 = .ok (.aload_n 0, 1) := by decide +kernel
theorem dX12_top_1 : decode cX12_top 1 = .ok (.iconst 0, 1) := by decide +kernel
theorem dX12_top_2 : decode cX12_top 2 = .ok (.putfield 72, 3) := by decide +kernel
theorem dX12_top_5 : decode cX12_top 5 = .ok (.aload_n 0, 1) := by decide +kernel
theorem dX12_top_6 : decode cX12_top 6 = .ok (.getfield 78, 3) := by decide +kernel
theorem dX12_top_9 : decode cX12_top 9 = .ok (.lreturn, 1) := by decide +kernel
theorem dX12_bottom_0 : decode cX12_bottom 0 = .ok (.aload_n 0, 1) := by decide +kernel
theorem dX12_bottom_1 : decode cX12_bottom 1 = .ok (.iconst 0, 1) := by decide +kernel
theorem dX12_bottom_2 : decode cX12_bottom 2 = .ok (.putfield 72, 3) := by decide +kernel
theorem dX12_bottom_5 : decode cX12_bottom 5 = .ok (.aload_n 0, 1) := by decide +kernel
theorem dX12_bottom_6 : decode cX12_bottom 6 = .ok (.getfield 7, 3) := by decide +kernel
theorem dX12_bottom_9 : decode cX12_bottom 9 = .ok (.lreturn, 1) := by decide +kernel
theorem dX12_refuse_0 : decode cX12_refuse 0 = .ok (.aload_n 0, 1) := by decide +kernel
theorem dX12_refuse_1 : decode cX12_refuse 1 = .ok (.iload_n 1, 1) := by decide +kernel
theorem dX12_refuse_2 : decode cX12_refuse 2 = .ok (.putfield 75, 3) := by decide +kernel
theorem dX12_refuse_5 : decode cX12_refuse 5 = .ok (.iconst (-1), 1) := by decide +kernel
theorem dX12_refuse_6 : decode cX12_refuse 6 = .ok (.ireturn, 1) := by decide +kernel
theorem dX12_no_0 : decode cX12_no 0 = .ok (.aload_n 0, 1) := by decide +kernel
theorem dX12_no_1 : decode cX12_no 1 = .ok (.iload_n 1, 1) := by decide +kernel
theorem dX12_no_2 : decode cX12_no 2 = .ok (.putfield 75, 3) := by decide +kernel
theorem dX12_no_5 : decode cX12_no 5 = .ok (.iconst 0, 1) := by decide +kernel
theorem dX12_no_6 : decode cX12_no 6 = .ok (.ireturn, 1) := by decide +kernel
theorem dX12_isIn_0 : decode cX12_isIn 0 = .ok (.lload_n 0, 1) := by decide +kernel
theorem dX12_isIn_1 : decode cX12_isIn 1 = .ok (.lload_n 2, 1) := by decide +kernel
theorem dX12_isIn_2 : decode cX12_isIn 2 = .ok (.lcmp, 1) := by decide +kernel
theorem dX12_isIn_3 : decode cX12_isIn 3 = .ok (.ifCond .lt 14, 3) := by decide +kernel
theorem dX12_isIn_6 : decode cX12_isIn 6 = .ok (.lload_n 0, 1) := by decide +kernel
theorem dX12_isIn_7 : decode cX12_isIn 7 = .ok (.lload 4, 2) := by decide +kernel
theorem dX12_isIn_9 : decode cX12_isIn 9 = .ok (.lcmp, 1) := by decide +kernel
theorem dX12_isIn_10 : decode cX12_isIn 10 = .ok (.ifCond .gt 7, 3) := by decide +kernel
theorem dX12_isIn_13 : decode cX12_isIn 13 = .ok (.iconst 1, 1) := by decide +kernel
theorem dX12_isIn_14 : decode cX12_isIn 14 = .ok (.goto 4, 3) := by decide +kernel
theorem dX12_isIn_17 : decode cX12_isIn 17 = .ok (.iconst 0, 1) := by decide +kernel
theorem dX12_isIn_18 : decode cX12_isIn 18 = .ok (.ireturn, 1) := by decide +kernel
theorem dX12_fraction_0 : decode cX12_fraction 0 = .ok (.lload_n 1, 1) := by decide +kernel
theorem dX12_fraction_1 : decode cX12_fraction 1 = .ok (.invokestatic 81, 3) := by decide +kernel
theorem dX12_fraction_4 : decode cX12_fraction 4 = .ok (.lstore 5, 2) := by decide +kernel
theorem dX12_fraction_6 : decode cX12_fraction 6 = .ok (.lload_n 3, 1) := by decide +kernel
theorem dX12_fraction_7 : decode cX12_fraction 7 = .ok (.lstore 7, 2) := by decide +kernel
theorem dX12_fraction_9 : decode cX12_fraction 9 = .ok (.lload 7, 2) := by decide +kernel
theorem dX12_fraction_11 : decode cX12_fraction 11 = .ok (.lconst 0, 1) := by decide +kernel
theorem dX12_fraction_12 : decode cX12_fraction 12 = .ok (.lcmp, 1) := by decide +kernel
theorem dX12_fraction_13 : decode cX12_fraction 13 = .ok (.ifCond .eq 21, 3) := by decide +kernel
theorem dX12_fraction_16 : decode cX12_fraction 16 = .ok (.lload 5, 2) := by decide +kernel
theorem dX12_fraction_18 : decode cX12_fraction 18 = .ok (.lload 7, 2) := by decide +kernel
theorem dX12_fraction_20 : decode cX12_fraction 20 = .ok (.lrem, 1) := by decide +kernel
theorem dX12_fraction_21 : decode cX12_fraction 21 = .ok (.lstore 9, 2) := by decide +kernel
theorem dX12_fraction_23 : decode cX12_fraction 23 = .ok (.lload 7, 2) := by decide +kernel
theorem dX12_fraction_25 : decode cX12_fraction 25 = .ok (.lstore 5, 2) := by decide +kernel
theorem dX12_fraction_27 : decode cX12_fraction 27 = .ok (.lload 9, 2) := by decide +kernel
theorem dX12_fraction_29 : decode cX12_fraction 29 = .ok (.lstore 7, 2) := by decide +kernel
theorem dX12_fraction_31 : decode cX12_fraction 31 = .ok (.goto (-22), 3) := by decide +kernel
theorem dX12_fraction_34 : decode cX12_fraction 34 = .ok (.aload_n 0, 1) := by decide +kernel
theorem dX12_fraction_35 : decode cX12_fraction 35 = .ok (.lload_n 1, 1) := by decide +kernel
theorem dX12_fraction_36 : decode cX12_fraction 36 = .ok (.lload 5, 2) := by decide +kernel
theorem dX12_fraction_38 : decode cX12_fraction 38 = .ok (.ldiv, 1) := by decide +kernel
theorem dX12_fraction_39 : decode cX12_fraction 39 = .ok (.putfield 78, 3) := by decide +kernel
theorem dX12_fraction_42 : decode cX12_fraction 42 = .ok (.aload_n 0, 1) := by decide +kernel
theorem dX12_fraction_43 : decode cX12_fraction 43 = .ok (.lload_n 3, 1) := by decide +kernel
theorem dX12_fraction_44 : decode cX12_fraction 44 = .ok (.lload 5, 2) := by decide +kernel
theorem dX12_fraction_46 : decode cX12_fraction 46 = .ok (.ldiv, 1) := by decide +kernel
theorem dX12_fraction_47 : decode cX12_fraction 47 = .ok (.putfield 7, 3) := by decide +kernel
theorem dX12_fraction_50 : decode cX12_fraction 50 = .ok (.iconst 1, 1) := by decide +kernel
theorem dX12_fraction_51 : decode cX12_fraction 51 = .ok (.ireturn, 1) := by decide +kernel
theorem dX12_cut_0 : decode cX12_cut 0 = .ok (.iload_n 0, 1) := by decide +kernel
theorem dX12_cut_1 : decode cX12_cut 1 = .ok (.ifCond .ne 10, 3) := by decide +kernel
theorem dX12_cut_4 : decode cX12_cut 4 = .ok (.lload_n 1, 1) := by decide +kernel
theorem dX12_cut_5 : decode cX12_cut 5 = .ok (.l2i, 1) := by decide +kernel
theorem dX12_cut_6 : decode cX12_cut 6 = .ok (.i2b, 1) := by decide +kernel
theorem dX12_cut_7 : decode cX12_cut 7 = .ok (.i2l, 1) := by decide +kernel
theorem dX12_cut_8 : decode cX12_cut 8 = .ok (.goto 27, 3) := by decide +kernel
theorem dX12_cut_11 : decode cX12_cut 11 = .ok (.iload_n 0, 1) := by decide +kernel
theorem dX12_cut_12 : decode cX12_cut 12 = .ok (.iconst 1, 1) := by decide +kernel
theorem dX12_cut_13 : decode cX12_cut 13 = .ok (.if_icmp .ne 10, 3) := by decide +kernel
theorem dX12_cut_16 : decode cX12_cut 16 = .ok (.lload_n 1, 1) := by decide +kernel
theorem dX12_cut_17 : decode cX12_cut 17 = .ok (.l2i, 1) := by decide +kernel
theorem dX12_cut_18 : decode cX12_cut 18 = .ok (.i2s, 1) := by decide +kernel
theorem dX12_cut_19 : decode cX12_cut 19 = .ok (.i2l, 1) := by decide +kernel
theorem dX12_cut_20 : decode cX12_cut 20 = .ok (.goto 15, 3) := by decide +kernel
theorem dX12_cut_23 : decode cX12_cut 23 = .ok (.iload_n 0, 1) := by decide +kernel
theorem dX12_cut_24 : decode cX12_cut 24 = .ok (.iconst 2, 1) := by decide +kernel
theorem dX12_cut_25 : decode cX12_cut 25 = .ok (.if_icmp .ne 9, 3) := by decide +kernel
theorem dX12_cut_28 : decode cX12_cut 28 = .ok (.lload_n 1, 1) := by decide +kernel
theorem dX12_cut_29 : decode cX12_cut 29 = .ok (.l2i, 1) := by decide +kernel
theorem dX12_cut_30 : decode cX12_cut 30 = .ok (.i2l, 1) := by decide +kernel
theorem dX12_cut_31 : decode cX12_cut 31 = .ok (.goto 4, 3) := by decide +kernel
theorem dX12_cut_34 : decode cX12_cut 34 = .ok (.lload_n 1, 1) := by decide +kernel
theorem dX12_cut_35 : decode cX12_cut 35 = .ok (.lreturn, 1) := by decide +kernel
theorem dX12_tray_0 : decode cX12_tray 0 = .ok (.aload_n 0, 1) := by decide +kernel
theorem dX12_tray_1 : decode cX12_tray 1 = .ok (.iconst 0, 1) := by decide +kernel
theorem dX12_tray_2 : decode cX12_tray 2 = .ok (.putfield 72, 3) := by decide +kernel
theorem dX12_tray_5 : decode cX12_tray 5 = .ok (.aload_n 0, 1) := by decide +kernel
theorem dX12_tray_6 : decode cX12_tray 6 = .ok (.iconst 0, 1) := by decide +kernel
theorem dX12_tray_7 : decode cX12_tray 7 = .ok (.putfield 75, 3) := by decide +kernel
theorem dX12_tray_10 : decode cX12_tray 10 = .ok (.iload_n 1, 1) := by decide +kernel
theorem dX12_tray_11 : decode cX12_tray 11 = .ok (.ifCond .lt 17, 3) := by decide +kernel
theorem dX12_tray_14 : decode cX12_tray 14 = .ok (.iload_n 1, 1) := by decide +kernel
theorem dX12_tray_15 : decode cX12_tray 15 = .ok (.iconst 4, 1) := by decide +kernel
theorem dX12_tray_16 : decode cX12_tray 16 = .ok (.if_icmp .ge 12, 3) := by decide +kernel
theorem dX12_tray_19 : decode cX12_tray 19 = .ok (.iload_n 2, 1) := by decide +kernel
theorem dX12_tray_20 : decode cX12_tray 20 = .ok (.ifCond .lt 8, 3) := by decide +kernel
theorem dX12_tray_23 : decode cX12_tray 23 = .ok (.iload_n 2, 1) := by decide +kernel
theorem dX12_tray_24 : decode cX12_tray 24 = .ok (.iconst 3, 1) := by decide +kernel
theorem dX12_tray_25 : decode cX12_tray 25 = .ok (.if_icmp .le 9, 3) := by decide +kernel
theorem dX12_tray_28 : decode cX12_tray 28 = .ok (.aload_n 0, 1) := by decide +kernel
theorem dX12_tray_29 : decode cX12_tray 29 = .ok (.iconst 1, 1) := by decide +kernel
theorem dX12_tray_30 : decode cX12_tray 30 = .ok (.invokevirtual 87, 3) := by decide +kernel
theorem dX12_tray_33 : decode cX12_tray 33 = .ok (.ireturn, 1) := by decide +kernel
theorem dX12_tray_34 : decode cX12_tray 34 = .ok (.iload_n 3, 1) := by decide +kernel
theorem dX12_tray_35 : decode cX12_tray 35 = .ok (.bipush 60, 2) := by decide +kernel
theorem dX12_tray_37 : decode cX12_tray 37 = .ok (.if_icmp .le 9, 3) := by decide +kernel
theorem dX12_tray_40 : decode cX12_tray 40 = .ok (.aload_n 0, 1) := by decide +kernel
theorem dX12_tray_41 : decode cX12_tray 41 = .ok (.iconst 5, 1) := by decide +kernel
theorem dX12_tray_42 : decode cX12_tray 42 = .ok (.invokevirtual 87, 3) := by decide +kernel
theorem dX12_tray_45 : decode cX12_tray 45 = .ok (.ireturn, 1) := by decide +kernel
theorem dX12_tray_46 : decode cX12_tray 46 = .ok (.iload_n 3, 1) := by decide +kernel
theorem dX12_tray_47 : decode cX12_tray 47 = .ok (.ifCond .ge 10, 3) := by decide +kernel
theorem dX12_tray_50 : decode cX12_tray 50 = .ok (.aload_n 0, 1) := by decide +kernel
theorem dX12_tray_51 : decode cX12_tray 51 = .ok (.bipush 6, 2) := by decide +kernel
theorem dX12_tray_53 : decode cX12_tray 53 = .ok (.invokevirtual 87, 3) := by decide +kernel
theorem dX12_tray_56 : decode cX12_tray 56 = .ok (.ireturn, 1) := by decide +kernel
theorem dX12_tray_57 : decode cX12_tray 57 = .ok (.aload_n 0, 1) := by decide +kernel
theorem dX12_tray_58 : decode cX12_tray 58 = .ok (.getfield 13, 3) := by decide +kernel
theorem dX12_tray_61 : decode cX12_tray 61 = .ok (.iload_n 1, 1) := by decide +kernel
theorem dX12_tray_62 : decode cX12_tray 62 = .ok (.iload_n 2, 1) := by decide +kernel
theorem dX12_tray_63 : decode cX12_tray 63 = .ok (.iastore, 1) := by decide +kernel
theorem dX12_tray_64 : decode cX12_tray 64 = .ok (.aload_n 0, 1) := by decide +kernel
theorem dX12_tray_65 : decode cX12_tray 65 = .ok (.getfield 17, 3) := by decide +kernel
theorem dX12_tray_68 : decode cX12_tray 68 = .ok (.iload_n 1, 1) := by decide +kernel
theorem dX12_tray_69 : decode cX12_tray 69 = .ok (.iload_n 3, 1) := by decide +kernel
theorem dX12_tray_70 : decode cX12_tray 70 = .ok (.iastore, 1) := by decide +kernel
theorem dX12_tray_71 : decode cX12_tray 71 = .ok (.iconst 0, 1) := by decide +kernel
theorem dX12_tray_72 : decode cX12_tray 72 = .ok (.istore 4, 2) := by decide +kernel
theorem dX12_tray_74 : decode cX12_tray 74 = .ok (.iload 4, 2) := by decide +kernel
theorem dX12_tray_76 : decode cX12_tray 76 = .ok (.iload_n 3, 1) := by decide +kernel
theorem dX12_tray_77 : decode cX12_tray 77 = .ok (.if_icmp .ge 22, 3) := by decide +kernel
theorem dX12_tray_80 : decode cX12_tray 80 = .ok (.aload_n 0, 1) := by decide +kernel
theorem dX12_tray_81 : decode cX12_tray 81 = .ok (.getfield 20, 3) := by decide +kernel
theorem dX12_tray_84 : decode cX12_tray 84 = .ok (.bipush 60, 2) := by decide +kernel
theorem dX12_tray_86 : decode cX12_tray 86 = .ok (.iload_n 1, 1) := by decide +kernel
theorem dX12_tray_87 : decode cX12_tray 87 = .ok (.imul, 1) := by decide +kernel
theorem dX12_tray_88 : decode cX12_tray 88 = .ok (.iload 4, 2) := by decide +kernel
theorem dX12_tray_90 : decode cX12_tray 90 = .ok (.iadd, 1) := by decide +kernel
theorem dX12_tray_91 : decode cX12_tray 91 = .ok (.lconst 0, 1) := by decide +kernel
theorem dX12_tray_92 : decode cX12_tray 92 = .ok (.lastore, 1) := by decide +kernel
theorem dX12_tray_93 : decode cX12_tray 93 = .ok (.iinc 4 1, 3) := by decide +kernel
theorem dX12_tray_96 : decode cX12_tray 96 = .ok (.goto (-22), 3) := by decide +kernel
theorem dX12_tray_99 : decode cX12_tray 99 = .ok (.iconst 1, 1) := by decide +kernel
theorem dX12_tray_100 : decode cX12_tray 100 = .ok (.ireturn, 1) := by decide +kernel
theorem dX12_trayed_0 : decode cX12_trayed 0 = .ok (.iload_n 1, 1) := by decide +kernel
theorem dX12_trayed_1 : decode cX12_trayed 1 = .ok (.ifCond .lt 8, 3) := by decide +kernel
theorem dX12_trayed_4 : decode cX12_trayed 4 = .ok (.iload_n 1, 1) := by decide +kernel
theorem dX12_trayed_5 : decode cX12_trayed 5 = .ok (.iconst 4, 1) := by decide +kernel
theorem dX12_trayed_6 : decode cX12_trayed 6 = .ok (.if_icmp .lt 7, 3) := by decide +kernel
theorem dX12_trayed_9 : decode cX12_trayed 9 = .ok (.iconst 1, 1) := by decide +kernel
theorem dX12_trayed_10 : decode cX12_trayed 10 = .ok (.goto 17, 3) := by decide +kernel
theorem dX12_trayed_13 : decode cX12_trayed 13 = .ok (.aload_n 0, 1) := by decide +kernel
theorem dX12_trayed_14 : decode cX12_trayed 14 = .ok (.getfield 17, 3) := by decide +kernel
theorem dX12_trayed_17 : decode cX12_trayed 17 = .ok (.iload_n 1, 1) := by decide +kernel
theorem dX12_trayed_18 : decode cX12_trayed 18 = .ok (.iaload, 1) := by decide +kernel
theorem dX12_trayed_19 : decode cX12_trayed 19 = .ok (.ifCond .ge 7, 3) := by decide +kernel
theorem dX12_trayed_22 : decode cX12_trayed 22 = .ok (.iconst 3, 1) := by decide +kernel
theorem dX12_trayed_23 : decode cX12_trayed 23 = .ok (.goto 4, 3) := by decide +kernel
theorem dX12_trayed_26 : decode cX12_trayed 26 = .ok (.iconst 0, 1) := by decide +kernel
theorem dX12_trayed_27 : decode cX12_trayed 27 = .ok (.ireturn, 1) := by decide +kernel
theorem dX12_placed_0 : decode cX12_placed 0 = .ok (.aload_n 0, 1) := by decide +kernel
theorem dX12_placed_1 : decode cX12_placed 1 = .ok (.iload_n 1, 1) := by decide +kernel
theorem dX12_placed_2 : decode cX12_placed 2 = .ok (.invokevirtual 91, 3) := by decide +kernel
theorem dX12_placed_5 : decode cX12_placed 5 = .ok (.istore_n 3, 1) := by decide +kernel
theorem dX12_placed_6 : decode cX12_placed 6 = .ok (.iload_n 3, 1) := by decide +kernel
theorem dX12_placed_7 : decode cX12_placed 7 = .ok (.ifCond .le 7, 3) := by decide +kernel
theorem dX12_placed_10 : decode cX12_placed 10 = .ok (.iload_n 3, 1) := by decide +kernel
theorem dX12_placed_11 : decode cX12_placed 11 = .ok (.goto 22, 3) := by decide +kernel
theorem dX12_placed_14 : decode cX12_placed 14 = .ok (.iload_n 2, 1) := by decide +kernel
theorem dX12_placed_15 : decode cX12_placed 15 = .ok (.ifCond .lt 13, 3) := by decide +kernel
theorem dX12_placed_18 : decode cX12_placed 18 = .ok (.iload_n 2, 1) := by decide +kernel
theorem dX12_placed_19 : decode cX12_placed 19 = .ok (.aload_n 0, 1) := by decide +kernel
theorem dX12_placed_20 : decode cX12_placed 20 = .ok (.getfield 17, 3) := by decide +kernel
theorem dX12_placed_23 : decode cX12_placed 23 = .ok (.iload_n 1, 1) := by decide +kernel
theorem dX12_placed_24 : decode cX12_placed 24 = .ok (.iaload, 1) := by decide +kernel
theorem dX12_placed_25 : decode cX12_placed 25 = .ok (.if_icmp .lt 7, 3) := by decide +kernel
theorem dX12_placed_28 : decode cX12_placed 28 = .ok (.iconst 4, 1) := by decide +kernel
theorem dX12_placed_29 : decode cX12_placed 29 = .ok (.goto 4, 3) := by decide +kernel
theorem dX12_placed_32 : decode cX12_placed 32 = .ok (.iconst 0, 1) := by decide +kernel
theorem dX12_placed_33 : decode cX12_placed 33 = .ok (.ireturn, 1) := by decide +kernel
theorem dX12_write_0 : decode cX12_write 0 = .ok (.aload_n 0, 1) := by decide +kernel
theorem dX12_write_1 : decode cX12_write 1 = .ok (.iconst 0, 1) := by decide +kernel
theorem dX12_write_2 : decode cX12_write 2 = .ok (.putfield 72, 3) := by decide +kernel
theorem dX12_write_5 : decode cX12_write 5 = .ok (.aload_n 0, 1) := by decide +kernel
theorem dX12_write_6 : decode cX12_write 6 = .ok (.aload_n 0, 1) := by decide +kernel
theorem dX12_write_7 : decode cX12_write 7 = .ok (.iload_n 1, 1) := by decide +kernel
theorem dX12_write_8 : decode cX12_write 8 = .ok (.iload_n 2, 1) := by decide +kernel
theorem dX12_write_9 : decode cX12_write 9 = .ok (.invokevirtual 95, 3) := by decide +kernel
theorem dX12_write_12 : decode cX12_write 12 = .ok (.putfield 75, 3) := by decide +kernel
theorem dX12_write_15 : decode cX12_write 15 = .ok (.aload_n 0, 1) := by decide +kernel
theorem dX12_write_16 : decode cX12_write 16 = .ok (.getfield 75, 3) := by decide +kernel
theorem dX12_write_19 : decode cX12_write 19 = .ok (.ifCond .le 5, 3) := by decide +kernel
theorem dX12_write_22 : decode cX12_write 22 = .ok (.iconst 0, 1) := by decide +kernel
theorem dX12_write_23 : decode cX12_write 23 = .ok (.ireturn, 1) := by decide +kernel
theorem dX12_write_24 : decode cX12_write 24 = .ok (.aload_n 0, 1) := by decide +kernel
theorem dX12_write_25 : decode cX12_write 25 = .ok (.getfield 20, 3) := by decide +kernel
theorem dX12_write_28 : decode cX12_write 28 = .ok (.bipush 60, 2) := by decide +kernel
theorem dX12_write_30 : decode cX12_write 30 = .ok (.iload_n 1, 1) := by decide +kernel
theorem dX12_write_31 : decode cX12_write 31 = .ok (.imul, 1) := by decide +kernel
theorem dX12_write_32 : decode cX12_write 32 = .ok (.iload_n 2, 1) := by decide +kernel
theorem dX12_write_33 : decode cX12_write 33 = .ok (.iadd, 1) := by decide +kernel
theorem dX12_write_34 : decode cX12_write 34 = .ok (.aload_n 0, 1) := by decide +kernel
theorem dX12_write_35 : decode cX12_write 35 = .ok (.getfield 13, 3) := by decide +kernel
theorem dX12_write_38 : decode cX12_write 38 = .ok (.iload_n 1, 1) := by decide +kernel
theorem dX12_write_39 : decode cX12_write 39 = .ok (.iaload, 1) := by decide +kernel
theorem dX12_write_40 : decode cX12_write 40 = .ok (.lload_n 3, 1) := by decide +kernel
theorem dX12_write_41 : decode cX12_write 41 = .ok (.invokestatic 99, 3) := by decide +kernel
theorem dX12_write_44 : decode cX12_write 44 = .ok (.lastore, 1) := by decide +kernel
theorem dX12_write_45 : decode cX12_write 45 = .ok (.iconst 1, 1) := by decide +kernel
theorem dX12_write_46 : decode cX12_write 46 = .ok (.ireturn, 1) := by decide +kernel
theorem dX12_read_0 : decode cX12_read 0 = .ok (.aload_n 0, 1) := by decide +kernel
theorem dX12_read_1 : decode cX12_read 1 = .ok (.iconst 0, 1) := by decide +kernel
theorem dX12_read_2 : decode cX12_read 2 = .ok (.putfield 72, 3) := by decide +kernel
theorem dX12_read_5 : decode cX12_read 5 = .ok (.aload_n 0, 1) := by decide +kernel
theorem dX12_read_6 : decode cX12_read 6 = .ok (.aload_n 0, 1) := by decide +kernel
theorem dX12_read_7 : decode cX12_read 7 = .ok (.iload_n 1, 1) := by decide +kernel
theorem dX12_read_8 : decode cX12_read 8 = .ok (.iload_n 2, 1) := by decide +kernel
theorem dX12_read_9 : decode cX12_read 9 = .ok (.invokevirtual 95, 3) := by decide +kernel
theorem dX12_read_12 : decode cX12_read 12 = .ok (.putfield 75, 3) := by decide +kernel
theorem dX12_read_15 : decode cX12_read 15 = .ok (.aload_n 0, 1) := by decide +kernel
theorem dX12_read_16 : decode cX12_read 16 = .ok (.getfield 75, 3) := by decide +kernel
theorem dX12_read_19 : decode cX12_read 19 = .ok (.ifCond .le 9, 3) := by decide +kernel
theorem dX12_read_22 : decode cX12_read 22 = .ok (.ldc2_w 103, 3) := by decide +kernel
theorem dX12_read_25 : decode cX12_read 25 = .ok (.goto 14, 3) := by decide +kernel
theorem dX12_read_28 : decode cX12_read 28 = .ok (.aload_n 0, 1) := by decide +kernel
theorem dX12_read_29 : decode cX12_read 29 = .ok (.getfield 20, 3) := by decide +kernel
theorem dX12_read_32 : decode cX12_read 32 = .ok (.bipush 60, 2) := by decide +kernel
theorem dX12_read_34 : decode cX12_read 34 = .ok (.iload_n 1, 1) := by decide +kernel
theorem dX12_read_35 : decode cX12_read 35 = .ok (.imul, 1) := by decide +kernel
theorem dX12_read_36 : decode cX12_read 36 = .ok (.iload_n 2, 1) := by decide +kernel
theorem dX12_read_37 : decode cX12_read 37 = .ok (.iadd, 1) := by decide +kernel
theorem dX12_read_38 : decode cX12_read 38 = .ok (.laload, 1) := by decide +kernel
theorem dX12_read_39 : decode cX12_read 39 = .ok (.lreturn, 1) := by decide +kernel
theorem dX12_pour_0 : decode cX12_pour 0 = .ok (.aload_n 0, 1) := by decide +kernel
theorem dX12_pour_1 : decode cX12_pour 1 = .ok (.iconst 0, 1) := by decide +kernel
theorem dX12_pour_2 : decode cX12_pour 2 = .ok (.putfield 72, 3) := by decide +kernel
theorem dX12_pour_5 : decode cX12_pour 5 = .ok (.aload_n 0, 1) := by decide +kernel
theorem dX12_pour_6 : decode cX12_pour 6 = .ok (.iconst 0, 1) := by decide +kernel
theorem dX12_pour_7 : decode cX12_pour 7 = .ok (.putfield 75, 3) := by decide +kernel
theorem dX12_pour_10 : decode cX12_pour 10 = .ok (.iload_n 1, 1) := by decide +kernel
theorem dX12_pour_11 : decode cX12_pour 11 = .ok (.ifCond .lt 17, 3) := by decide +kernel
theorem dX12_pour_14 : decode cX12_pour 14 = .ok (.iload_n 1, 1) := by decide +kernel
theorem dX12_pour_15 : decode cX12_pour 15 = .ok (.iconst 4, 1) := by decide +kernel
theorem dX12_pour_16 : decode cX12_pour 16 = .ok (.if_icmp .ge 12, 3) := by decide +kernel
theorem dX12_pour_19 : decode cX12_pour 19 = .ok (.iload_n 3, 1) := by decide +kernel
theorem dX12_pour_20 : decode cX12_pour 20 = .ok (.ifCond .lt 8, 3) := by decide +kernel
theorem dX12_pour_23 : decode cX12_pour 23 = .ok (.iload_n 3, 1) := by decide +kernel
theorem dX12_pour_24 : decode cX12_pour 24 = .ok (.iconst 4, 1) := by decide +kernel
theorem dX12_pour_25 : decode cX12_pour 25 = .ok (.if_icmp .lt 9, 3) := by decide +kernel
theorem dX12_pour_28 : decode cX12_pour 28 = .ok (.aload_n 0, 1) := by decide +kernel
theorem dX12_pour_29 : decode cX12_pour 29 = .ok (.iconst 1, 1) := by decide +kernel
theorem dX12_pour_30 : decode cX12_pour 30 = .ok (.invokevirtual 87, 3) := by decide +kernel
theorem dX12_pour_33 : decode cX12_pour 33 = .ok (.ireturn, 1) := by decide +kernel
theorem dX12_pour_34 : decode cX12_pour 34 = .ok (.aload_n 0, 1) := by decide +kernel
theorem dX12_pour_35 : decode cX12_pour 35 = .ok (.getfield 17, 3) := by decide +kernel
theorem dX12_pour_38 : decode cX12_pour 38 = .ok (.iload_n 1, 1) := by decide +kernel
theorem dX12_pour_39 : decode cX12_pour 39 = .ok (.iaload, 1) := by decide +kernel
theorem dX12_pour_40 : decode cX12_pour 40 = .ok (.ifCond .lt 12, 3) := by decide +kernel
theorem dX12_pour_43 : decode cX12_pour 43 = .ok (.aload_n 0, 1) := by decide +kernel
theorem dX12_pour_44 : decode cX12_pour 44 = .ok (.getfield 17, 3) := by decide +kernel
theorem dX12_pour_47 : decode cX12_pour 47 = .ok (.iload_n 3, 1) := by decide +kernel
theorem dX12_pour_48 : decode cX12_pour 48 = .ok (.iaload, 1) := by decide +kernel
theorem dX12_pour_49 : decode cX12_pour 49 = .ok (.ifCond .ge 9, 3) := by decide +kernel
theorem dX12_pour_52 : decode cX12_pour 52 = .ok (.aload_n 0, 1) := by decide +kernel
theorem dX12_pour_53 : decode cX12_pour 53 = .ok (.iconst 3, 1) := by decide +kernel
theorem dX12_pour_54 : decode cX12_pour 54 = .ok (.invokevirtual 87, 3) := by decide +kernel
theorem dX12_pour_57 : decode cX12_pour 57 = .ok (.ireturn, 1) := by decide +kernel
theorem dX12_pour_58 : decode cX12_pour 58 = .ok (.aload_n 0, 1) := by decide +kernel
theorem dX12_pour_59 : decode cX12_pour 59 = .ok (.getfield 13, 3) := by decide +kernel
theorem dX12_pour_62 : decode cX12_pour 62 = .ok (.iload_n 1, 1) := by decide +kernel
theorem dX12_pour_63 : decode cX12_pour 63 = .ok (.iaload, 1) := by decide +kernel
theorem dX12_pour_64 : decode cX12_pour 64 = .ok (.aload_n 0, 1) := by decide +kernel
theorem dX12_pour_65 : decode cX12_pour 65 = .ok (.getfield 13, 3) := by decide +kernel
theorem dX12_pour_68 : decode cX12_pour 68 = .ok (.iload_n 3, 1) := by decide +kernel
theorem dX12_pour_69 : decode cX12_pour 69 = .ok (.iaload, 1) := by decide +kernel
theorem dX12_pour_70 : decode cX12_pour 70 = .ok (.if_icmp .eq 10, 3) := by decide +kernel
theorem dX12_pour_73 : decode cX12_pour 73 = .ok (.aload_n 0, 1) := by decide +kernel
theorem dX12_pour_74 : decode cX12_pour 74 = .ok (.bipush 11, 2) := by decide +kernel
theorem dX12_pour_76 : decode cX12_pour 76 = .ok (.invokevirtual 87, 3) := by decide +kernel
theorem dX12_pour_79 : decode cX12_pour 79 = .ok (.ireturn, 1) := by decide +kernel
theorem dX12_pour_80 : decode cX12_pour 80 = .ok (.iload 5, 2) := by decide +kernel
theorem dX12_pour_82 : decode cX12_pour 82 = .ok (.ifCond .ge 10, 3) := by decide +kernel
theorem dX12_pour_85 : decode cX12_pour 85 = .ok (.aload_n 0, 1) := by decide +kernel
theorem dX12_pour_86 : decode cX12_pour 86 = .ok (.bipush 6, 2) := by decide +kernel
theorem dX12_pour_88 : decode cX12_pour 88 = .ok (.invokevirtual 87, 3) := by decide +kernel
theorem dX12_pour_91 : decode cX12_pour 91 = .ok (.ireturn, 1) := by decide +kernel
theorem dX12_pour_92 : decode cX12_pour 92 = .ok (.iload_n 2, 1) := by decide +kernel
theorem dX12_pour_93 : decode cX12_pour 93 = .ok (.ifCond .lt 43, 3) := by decide +kernel
theorem dX12_pour_96 : decode cX12_pour 96 = .ok (.iload 4, 2) := by decide +kernel
theorem dX12_pour_98 : decode cX12_pour 98 = .ok (.ifCond .lt 38, 3) := by decide +kernel
theorem dX12_pour_101 : decode cX12_pour 101 = .ok (.iload_n 2, 1) := by decide +kernel
theorem dX12_pour_102 : decode cX12_pour 102 = .ok (.i2l, 1) := by decide +kernel
theorem dX12_pour_103 : decode cX12_pour 103 = .ok (.iload 5, 2) := by decide +kernel
theorem dX12_pour_105 : decode cX12_pour 105 = .ok (.i2l, 1) := by decide +kernel
theorem dX12_pour_106 : decode cX12_pour 106 = .ok (.ladd, 1) := by decide +kernel
theorem dX12_pour_107 : decode cX12_pour 107 = .ok (.aload_n 0, 1) := by decide +kernel
theorem dX12_pour_108 : decode cX12_pour 108 = .ok (.getfield 17, 3) := by decide +kernel
theorem dX12_pour_111 : decode cX12_pour 111 = .ok (.iload_n 1, 1) := by decide +kernel
theorem dX12_pour_112 : decode cX12_pour 112 = .ok (.iaload, 1) := by decide +kernel
theorem dX12_pour_113 : decode cX12_pour 113 = .ok (.i2l, 1) := by decide +kernel
theorem dX12_pour_114 : decode cX12_pour 114 = .ok (.lcmp, 1) := by decide +kernel
theorem dX12_pour_115 : decode cX12_pour 115 = .ok (.ifCond .gt 21, 3) := by decide +kernel
theorem dX12_pour_118 : decode cX12_pour 118 = .ok (.iload 4, 2) := by decide +kernel
theorem dX12_pour_120 : decode cX12_pour 120 = .ok (.i2l, 1) := by decide +kernel
theorem dX12_pour_121 : decode cX12_pour 121 = .ok (.iload 5, 2) := by decide +kernel
theorem dX12_pour_123 : decode cX12_pour 123 = .ok (.i2l, 1) := by decide +kernel
theorem dX12_pour_124 : decode cX12_pour 124 = .ok (.ladd, 1) := by decide +kernel
theorem dX12_pour_125 : decode cX12_pour 125 = .ok (.aload_n 0, 1) := by decide +kernel
theorem dX12_pour_126 : decode cX12_pour 126 = .ok (.getfield 17, 3) := by decide +kernel
theorem dX12_pour_129 : decode cX12_pour 129 = .ok (.iload_n 3, 1) := by decide +kernel
theorem dX12_pour_130 : decode cX12_pour 130 = .ok (.iaload, 1) := by decide +kernel
theorem dX12_pour_131 : decode cX12_pour 131 = .ok (.i2l, 1) := by decide +kernel
theorem dX12_pour_132 : decode cX12_pour 132 = .ok (.lcmp, 1) := by decide +kernel
theorem dX12_pour_133 : decode cX12_pour 133 = .ok (.ifCond .le 9, 3) := by decide +kernel
theorem dX12_pour_136 : decode cX12_pour 136 = .ok (.aload_n 0, 1) := by decide +kernel
theorem dX12_pour_137 : decode cX12_pour 137 = .ok (.iconst 4, 1) := by decide +kernel
theorem dX12_pour_138 : decode cX12_pour 138 = .ok (.invokevirtual 87, 3) := by decide +kernel
theorem dX12_pour_141 : decode cX12_pour 141 = .ok (.ireturn, 1) := by decide +kernel
theorem dX12_pour_142 : decode cX12_pour 142 = .ok (.iload_n 2, 1) := by decide +kernel
theorem dX12_pour_143 : decode cX12_pour 143 = .ok (.iload 4, 2) := by decide +kernel
theorem dX12_pour_145 : decode cX12_pour 145 = .ok (.if_icmp .ge 7, 3) := by decide +kernel
theorem dX12_pour_148 : decode cX12_pour 148 = .ok (.iconst 1, 1) := by decide +kernel
theorem dX12_pour_149 : decode cX12_pour 149 = .ok (.goto 4, 3) := by decide +kernel
theorem dX12_pour_152 : decode cX12_pour 152 = .ok (.iconst 0, 1) := by decide +kernel
theorem dX12_pour_153 : decode cX12_pour 153 = .ok (.istore 6, 2) := by decide +kernel
theorem dX12_pour_155 : decode cX12_pour 155 = .ok (.iconst 0, 1) := by decide +kernel
theorem dX12_pour_156 : decode cX12_pour 156 = .ok (.istore 7, 2) := by decide +kernel
theorem dX12_pour_158 : decode cX12_pour 158 = .ok (.iload 7, 2) := by decide +kernel
theorem dX12_pour_160 : decode cX12_pour 160 = .ok (.iload 5, 2) := by decide +kernel
theorem dX12_pour_162 : decode cX12_pour 162 = .ok (.if_icmp .ge 57, 3) := by decide +kernel
theorem dX12_pour_165 : decode cX12_pour 165 = .ok (.iload 6, 2) := by decide +kernel
theorem dX12_pour_167 : decode cX12_pour 167 = .ok (.ifCond .eq 13, 3) := by decide +kernel
theorem dX12_pour_170 : decode cX12_pour 170 = .ok (.iload 5, 2) := by decide +kernel
theorem dX12_pour_172 : decode cX12_pour 172 = .ok (.iconst 1, 1) := by decide +kernel
theorem dX12_pour_173 : decode cX12_pour 173 = .ok (.isub, 1) := by decide +kernel
theorem dX12_pour_174 : decode cX12_pour 174 = .ok (.iload 7, 2) := by decide +kernel
theorem dX12_pour_176 : decode cX12_pour 176 = .ok (.isub, 1) := by decide +kernel
theorem dX12_pour_177 : decode cX12_pour 177 = .ok (.goto 5, 3) := by decide +kernel
theorem dX12_pour_180 : decode cX12_pour 180 = .ok (.iload 7, 2) := by decide +kernel
theorem dX12_pour_182 : decode cX12_pour 182 = .ok (.istore 8, 2) := by decide +kernel
theorem dX12_pour_184 : decode cX12_pour 184 = .ok (.aload_n 0, 1) := by decide +kernel
theorem dX12_pour_185 : decode cX12_pour 185 = .ok (.getfield 20, 3) := by decide +kernel
theorem dX12_pour_188 : decode cX12_pour 188 = .ok (.bipush 60, 2) := by decide +kernel
theorem dX12_pour_190 : decode cX12_pour 190 = .ok (.iload_n 3, 1) := by decide +kernel
theorem dX12_pour_191 : decode cX12_pour 191 = .ok (.imul, 1) := by decide +kernel
theorem dX12_pour_192 : decode cX12_pour 192 = .ok (.iload 4, 2) := by decide +kernel
theorem dX12_pour_194 : decode cX12_pour 194 = .ok (.iadd, 1) := by decide +kernel
theorem dX12_pour_195 : decode cX12_pour 195 = .ok (.iload 8, 2) := by decide +kernel
theorem dX12_pour_197 : decode cX12_pour 197 = .ok (.iadd, 1) := by decide +kernel
theorem dX12_pour_198 : decode cX12_pour 198 = .ok (.aload_n 0, 1) := by decide +kernel
theorem dX12_pour_199 : decode cX12_pour 199 = .ok (.getfield 20, 3) := by decide +kernel
theorem dX12_pour_202 : decode cX12_pour 202 = .ok (.bipush 60, 2) := by decide +kernel
theorem dX12_pour_204 : decode cX12_pour 204 = .ok (.iload_n 1, 1) := by decide +kernel
theorem dX12_pour_205 : decode cX12_pour 205 = .ok (.imul, 1) := by decide +kernel
theorem dX12_pour_206 : decode cX12_pour 206 = .ok (.iload_n 2, 1) := by decide +kernel
theorem dX12_pour_207 : decode cX12_pour 207 = .ok (.iadd, 1) := by decide +kernel
theorem dX12_pour_208 : decode cX12_pour 208 = .ok (.iload 8, 2) := by decide +kernel
theorem dX12_pour_210 : decode cX12_pour 210 = .ok (.iadd, 1) := by decide +kernel
theorem dX12_pour_211 : decode cX12_pour 211 = .ok (.laload, 1) := by decide +kernel
theorem dX12_pour_212 : decode cX12_pour 212 = .ok (.lastore, 1) := by decide +kernel
theorem dX12_pour_213 : decode cX12_pour 213 = .ok (.iinc 7 1, 3) := by decide +kernel
theorem dX12_pour_216 : decode cX12_pour 216 = .ok (.goto (-58), 3) := by decide +kernel
theorem dX12_pour_219 : decode cX12_pour 219 = .ok (.iconst 1, 1) := by decide +kernel
theorem dX12_pour_220 : decode cX12_pour 220 = .ok (.ireturn, 1) := by decide +kernel
theorem dX12_isTray_0 : decode cX12_isTray 0 = .ok (.iload_n 1, 1) := by decide +kernel
theorem dX12_isTray_1 : decode cX12_isTray 1 = .ok (.i2l, 1) := by decide +kernel
theorem dX12_isTray_2 : decode cX12_isTray 2 = .ok (.lconst 0, 1) := by decide +kernel
theorem dX12_isTray_3 : decode cX12_isTray 3 = .ok (.ldc2_w 105, 3) := by decide +kernel
theorem dX12_isTray_6 : decode cX12_isTray 6 = .ok (.invokestatic 107, 3) := by decide +kernel
theorem dX12_isTray_9 : decode cX12_isTray 9 = .ok (.ireturn, 1) := by decide +kernel
theorem dX12_has_0 : decode cX12_has 0 = .ok (.iload_n 0, 1) := by decide +kernel
theorem dX12_has_1 : decode cX12_has 1 = .ok (.iload_n 1, 1) := by decide +kernel
theorem dX12_has_2 : decode cX12_has 2 = .ok (.ishr, 1) := by decide +kernel
theorem dX12_has_3 : decode cX12_has 3 = .ok (.iconst 1, 1) := by decide +kernel
theorem dX12_has_4 : decode cX12_has 4 = .ok (.iand, 1) := by decide +kernel
theorem dX12_has_5 : decode cX12_has 5 = .ok (.iconst 1, 1) := by decide +kernel
theorem dX12_has_6 : decode cX12_has 6 = .ok (.if_icmp .ne 7, 3) := by decide +kernel
theorem dX12_has_9 : decode cX12_has 9 = .ok (.iconst 1, 1) := by decide +kernel
theorem dX12_has_10 : decode cX12_has 10 = .ok (.goto 4, 3) := by decide +kernel
theorem dX12_has_13 : decode cX12_has 13 = .ok (.iconst 0, 1) := by decide +kernel
theorem dX12_has_14 : decode cX12_has 14 = .ok (.ireturn, 1) := by decide +kernel
theorem dX12_look2_0 : decode cX12_look2 0 = .ok (.iload_n 1, 1) := by decide +kernel
theorem dX12_look2_1 : decode cX12_look2 1 = .ok (.aload_n 0, 1) := by decide +kernel
theorem dX12_look2_2 : decode cX12_look2 2 = .ok (.getfield 111, 3) := by decide +kernel
theorem dX12_look2_5 : decode cX12_look2 5 = .ok (.if_icmp .ge 16, 3) := by decide +kernel
theorem dX12_look2_8 : decode cX12_look2 8 = .ok (.aload_n 0, 1) := by decide +kernel
theorem dX12_look2_9 : decode cX12_look2 9 = .ok (.getfield 24, 3) := by decide +kernel
theorem dX12_look2_12 : decode cX12_look2 12 = .ok (.iload_n 1, 1) := by decide +kernel
theorem dX12_look2_13 : decode cX12_look2 13 = .ok (.baload, 1) := by decide +kernel
theorem dX12_look2_14 : decode cX12_look2 14 = .ok (.sipush 255, 3) := by decide +kernel
theorem dX12_look2_17 : decode cX12_look2 17 = .ok (.iand, 1) := by decide +kernel
theorem dX12_look2_18 : decode cX12_look2 18 = .ok (.goto 4, 3) := by decide +kernel
theorem dX12_look2_21 : decode cX12_look2 21 = .ok (.iconst 0, 1) := by decide +kernel
theorem dX12_look2_22 : decode cX12_look2 22 = .ok (.ireturn, 1) := by decide +kernel
theorem dX12_isLetter_0 : decode cX12_isLetter 0 = .ok (.iload_n 0, 1) := by decide +kernel
theorem dX12_isLetter_1 : decode cX12_isLetter 1 = .ok (.bipush 97, 2) := by decide +kernel
theorem dX12_isLetter_3 : decode cX12_isLetter 3 = .ok (.if_icmp .lt 13, 3) := by decide +kernel
theorem dX12_isLetter_6 : decode cX12_isLetter 6 = .ok (.iload_n 0, 1) := by decide +kernel
theorem dX12_isLetter_7 : decode cX12_isLetter 7 = .ok (.bipush 122, 2) := by decide +kernel
theorem dX12_isLetter_9 : decode cX12_isLetter 9 = .ok (.if_icmp .gt 7, 3) := by decide +kernel
theorem dX12_isLetter_12 : decode cX12_isLetter 12 = .ok (.iconst 1, 1) := by decide +kernel
theorem dX12_isLetter_13 : decode cX12_isLetter 13 = .ok (.goto 4, 3) := by decide +kernel
theorem dX12_isLetter_16 : decode cX12_isLetter 16 = .ok (.iconst 0, 1) := by decide +kernel
theorem dX12_isLetter_17 : decode cX12_isLetter 17 = .ok (.ireturn, 1) := by decide +kernel
theorem dX12_isDigit_0 : decode cX12_isDigit 0 = .ok (.iload_n 0, 1) := by decide +kernel
theorem dX12_isDigit_1 : decode cX12_isDigit 1 = .ok (.bipush 48, 2) := by decide +kernel
theorem dX12_isDigit_3 : decode cX12_isDigit 3 = .ok (.if_icmp .lt 13, 3) := by decide +kernel
theorem dX12_isDigit_6 : decode cX12_isDigit 6 = .ok (.iload_n 0, 1) := by decide +kernel
theorem dX12_isDigit_7 : decode cX12_isDigit 7 = .ok (.bipush 57, 2) := by decide +kernel
theorem dX12_isDigit_9 : decode cX12_isDigit 9 = .ok (.if_icmp .gt 7, 3) := by decide +kernel
theorem dX12_isDigit_12 : decode cX12_isDigit 12 = .ok (.iconst 1, 1) := by decide +kernel
theorem dX12_isDigit_13 : decode cX12_isDigit 13 = .ok (.goto 4, 3) := by decide +kernel
theorem dX12_isDigit_16 : decode cX12_isDigit 16 = .ok (.iconst 0, 1) := by decide +kernel
theorem dX12_isDigit_17 : decode cX12_isDigit 17 = .ok (.ireturn, 1) := by decide +kernel
theorem dX12_isSignByte_0 : decode cX12_isSignByte 0 = .ok (.iload_n 1, 1) := by decide +kernel
theorem dX12_isSignByte_1 : decode cX12_isSignByte 1 = .ok (.bipush 59, 2) := by decide +kernel
theorem dX12_isSignByte_3 : decode cX12_isSignByte 3 = .ok (.if_icmp .eq 21, 3) := by decide +kernel
theorem dX12_isSignByte_6 : decode cX12_isSignByte 6 = .ok (.iload_n 1, 1) := by decide +kernel
theorem dX12_isSignByte_7 : decode cX12_isSignByte 7 = .ok (.bipush 60, 2) := by decide +kernel
theorem dX12_isSignByte_9 : decode cX12_isSignByte 9 = .ok (.if_icmp .eq 15, 3) := by decide +kernel
theorem dX12_isSignByte_12 : decode cX12_isSignByte 12 = .ok (.iload_n 1, 1) := by decide +kernel
theorem dX12_isSignByte_13 : decode cX12_isSignByte 13 = .ok (.bipush 62, 2) := by decide +kernel
theorem dX12_isSignByte_15 : decode cX12_isSignByte 15 = .ok (.if_icmp .eq 9, 3) := by decide +kernel
theorem dX12_isSignByte_18 : decode cX12_isSignByte 18 = .ok (.iload_n 1, 1) := by decide +kernel
theorem dX12_isSignByte_19 : decode cX12_isSignByte 19 = .ok (.bipush 61, 2) := by decide +kernel
theorem dX12_isSignByte_21 : decode cX12_isSignByte 21 = .ok (.if_icmp .ne 7, 3) := by decide +kernel
theorem dX12_isSignByte_24 : decode cX12_isSignByte 24 = .ok (.iconst 1, 1) := by decide +kernel
theorem dX12_isSignByte_25 : decode cX12_isSignByte 25 = .ok (.goto 4, 3) := by decide +kernel
theorem dX12_isSignByte_28 : decode cX12_isSignByte 28 = .ok (.iconst 0, 1) := by decide +kernel
theorem dX12_isSignByte_29 : decode cX12_isSignByte 29 = .ok (.ireturn, 1) := by decide +kernel
theorem dX12_advance_0 : decode cX12_advance 0 = .ok (.aload_n 0, 1) := by decide +kernel
theorem dX12_advance_1 : decode cX12_advance 1 = .ok (.aload_n 0, 1) := by decide +kernel
theorem dX12_advance_2 : decode cX12_advance 2 = .ok (.getfield 114, 3) := by decide +kernel
theorem dX12_advance_5 : decode cX12_advance 5 = .ok (.putfield 117, 3) := by decide +kernel
theorem dX12_advance_8 : decode cX12_advance 8 = .ok (.aload_n 0, 1) := by decide +kernel
theorem dX12_advance_9 : decode cX12_advance 9 = .ok (.getfield 117, 3) := by decide +kernel
theorem dX12_advance_12 : decode cX12_advance 12 = .ok (.aload_n 0, 1) := by decide +kernel
theorem dX12_advance_13 : decode cX12_advance 13 = .ok (.getfield 111, 3) := by decide +kernel
theorem dX12_advance_16 : decode cX12_advance 16 = .ok (.if_icmp .ge 42, 3) := by decide +kernel
theorem dX12_advance_19 : decode cX12_advance 19 = .ok (.aload_n 0, 1) := by decide +kernel
theorem dX12_advance_20 : decode cX12_advance 20 = .ok (.aload_n 0, 1) := by decide +kernel
theorem dX12_advance_21 : decode cX12_advance 21 = .ok (.getfield 117, 3) := by decide +kernel
theorem dX12_advance_24 : decode cX12_advance 24 = .ok (.invokevirtual 120, 3) := by decide +kernel
theorem dX12_advance_27 : decode cX12_advance 27 = .ok (.bipush 10, 2) := by decide +kernel
theorem dX12_advance_29 : decode cX12_advance 29 = .ok (.if_icmp .eq 16, 3) := by decide +kernel
theorem dX12_advance_32 : decode cX12_advance 32 = .ok (.aload_n 0, 1) := by decide +kernel
theorem dX12_advance_33 : decode cX12_advance 33 = .ok (.aload_n 0, 1) := by decide +kernel
theorem dX12_advance_34 : decode cX12_advance 34 = .ok (.getfield 117, 3) := by decide +kernel
theorem dX12_advance_37 : decode cX12_advance 37 = .ok (.invokevirtual 120, 3) := by decide +kernel
theorem dX12_advance_40 : decode cX12_advance 40 = .ok (.bipush 32, 2) := by decide +kernel
theorem dX12_advance_42 : decode cX12_advance 42 = .ok (.if_icmp .ne 16, 3) := by decide +kernel
theorem dX12_advance_45 : decode cX12_advance 45 = .ok (.aload_n 0, 1) := by decide +kernel
theorem dX12_advance_46 : decode cX12_advance 46 = .ok (.dup, 1) := by decide +kernel
theorem dX12_advance_47 : decode cX12_advance 47 = .ok (.getfield 117, 3) := by decide +kernel
theorem dX12_advance_50 : decode cX12_advance 50 = .ok (.iconst 1, 1) := by decide +kernel
theorem dX12_advance_51 : decode cX12_advance 51 = .ok (.iadd, 1) := by decide +kernel
theorem dX12_advance_52 : decode cX12_advance 52 = .ok (.putfield 117, 3) := by decide +kernel
theorem dX12_advance_55 : decode cX12_advance 55 = .ok (.goto (-47), 3) := by decide +kernel
theorem dX12_advance_58 : decode cX12_advance 58 = .ok (.aload_n 0, 1) := by decide +kernel
theorem dX12_advance_59 : decode cX12_advance 59 = .ok (.aload_n 0, 1) := by decide +kernel
theorem dX12_advance_60 : decode cX12_advance 60 = .ok (.getfield 117, 3) := by decide +kernel
theorem dX12_advance_63 : decode cX12_advance 63 = .ok (.putfield 114, 3) := by decide +kernel
theorem dX12_advance_66 : decode cX12_advance 66 = .ok (.aload_n 0, 1) := by decide +kernel
theorem dX12_advance_67 : decode cX12_advance 67 = .ok (.getfield 117, 3) := by decide +kernel
theorem dX12_advance_70 : decode cX12_advance 70 = .ok (.aload_n 0, 1) := by decide +kernel
theorem dX12_advance_71 : decode cX12_advance 71 = .ok (.getfield 111, 3) := by decide +kernel
theorem dX12_advance_74 : decode cX12_advance 74 = .ok (.if_icmp .lt 9, 3) := by decide +kernel
theorem dX12_advance_77 : decode cX12_advance 77 = .ok (.aload_n 0, 1) := by decide +kernel
theorem dX12_advance_78 : decode cX12_advance 78 = .ok (.iconst 0, 1) := by decide +kernel
theorem dX12_advance_79 : decode cX12_advance 79 = .ok (.putfield 123, 3) := by decide +kernel
theorem dX12_advance_82 : decode cX12_advance 82 = .ok (.return_, 1) := by decide +kernel
theorem dX12_advance_83 : decode cX12_advance 83 = .ok (.aload_n 0, 1) := by decide +kernel
theorem dX12_advance_84 : decode cX12_advance 84 = .ok (.aload_n 0, 1) := by decide +kernel
theorem dX12_advance_85 : decode cX12_advance 85 = .ok (.getfield 117, 3) := by decide +kernel
theorem dX12_advance_88 : decode cX12_advance 88 = .ok (.invokevirtual 120, 3) := by decide +kernel
theorem dX12_advance_91 : decode cX12_advance 91 = .ok (.istore_n 1, 1) := by decide +kernel
theorem dX12_advance_92 : decode cX12_advance 92 = .ok (.iload_n 1, 1) := by decide +kernel
theorem dX12_advance_93 : decode cX12_advance 93 = .ok (.invokestatic 126, 3) := by decide +kernel
theorem dX12_advance_96 : decode cX12_advance 96 = .ok (.ifCond .eq 102, 3) := by decide +kernel
theorem dX12_advance_99 : decode cX12_advance 99 = .ok (.aload_n 0, 1) := by decide +kernel
theorem dX12_advance_100 : decode cX12_advance 100 = .ok (.iconst 1, 1) := by decide +kernel
theorem dX12_advance_101 : decode cX12_advance 101 = .ok (.putfield 123, 3) := by decide +kernel
theorem dX12_advance_104 : decode cX12_advance 104 = .ok (.aload_n 0, 1) := by decide +kernel
theorem dX12_advance_105 : decode cX12_advance 105 = .ok (.lconst 0, 1) := by decide +kernel
theorem dX12_advance_106 : decode cX12_advance 106 = .ok (.putfield 129, 3) := by decide +kernel
theorem dX12_advance_109 : decode cX12_advance 109 = .ok (.aload_n 0, 1) := by decide +kernel
theorem dX12_advance_110 : decode cX12_advance 110 = .ok (.aload_n 0, 1) := by decide +kernel
theorem dX12_advance_111 : decode cX12_advance 111 = .ok (.getfield 114, 3) := by decide +kernel
theorem dX12_advance_114 : decode cX12_advance 114 = .ok (.invokevirtual 120, 3) := by decide +kernel
theorem dX12_advance_117 : decode cX12_advance 117 = .ok (.invokestatic 126, 3) := by decide +kernel
theorem dX12_advance_120 : decode cX12_advance 120 = .ok (.ifCond .eq 62, 3) := by decide +kernel
theorem dX12_advance_123 : decode cX12_advance 123 = .ok (.aload_n 0, 1) := by decide +kernel
theorem dX12_advance_124 : decode cX12_advance 124 = .ok (.aload_n 0, 1) := by decide +kernel
theorem dX12_advance_125 : decode cX12_advance 125 = .ok (.getfield 114, 3) := by decide +kernel
theorem dX12_advance_128 : decode cX12_advance 128 = .ok (.aload_n 0, 1) := by decide +kernel
theorem dX12_advance_129 : decode cX12_advance 129 = .ok (.getfield 117, 3) := by decide +kernel
theorem dX12_advance_132 : decode cX12_advance 132 = .ok (.isub, 1) := by decide +kernel
theorem dX12_advance_133 : decode cX12_advance 133 = .ok (.bipush 8, 2) := by decide +kernel
theorem dX12_advance_135 : decode cX12_advance 135 = .ok (.if_icmp .ge 28, 3) := by decide +kernel
theorem dX12_advance_138 : decode cX12_advance 138 = .ok (.aload_n 0, 1) := by decide +kernel
theorem dX12_advance_139 : decode cX12_advance 139 = .ok (.getfield 129, 3) := by decide +kernel
theorem dX12_advance_142 : decode cX12_advance 142 = .ok (.ldc2_w 132, 3) := by decide +kernel
theorem dX12_advance_145 : decode cX12_advance 145 = .ok (.lmul, 1) := by decide +kernel
theorem dX12_advance_146 : decode cX12_advance 146 = .ok (.aload_n 0, 1) := by decide +kernel
theorem dX12_advance_147 : decode cX12_advance 147 = .ok (.aload_n 0, 1) := by decide +kernel
theorem dX12_advance_148 : decode cX12_advance 148 = .ok (.getfield 114, 3) := by decide +kernel
theorem dX12_advance_151 : decode cX12_advance 151 = .ok (.invokevirtual 120, 3) := by decide +kernel
theorem dX12_advance_154 : decode cX12_advance 154 = .ok (.i2l, 1) := by decide +kernel
theorem dX12_advance_155 : decode cX12_advance 155 = .ok (.ladd, 1) := by decide +kernel
theorem dX12_advance_156 : decode cX12_advance 156 = .ok (.ldc2_w 134, 3) := by decide +kernel
theorem dX12_advance_159 : decode cX12_advance 159 = .ok (.lsub, 1) := by decide +kernel
theorem dX12_advance_160 : decode cX12_advance 160 = .ok (.goto 6, 3) := by decide +kernel
theorem dX12_advance_163 : decode cX12_advance 163 = .ok (.ldc2_w 103, 3) := by decide +kernel
theorem dX12_advance_166 : decode cX12_advance 166 = .ok (.putfield 129, 3) := by decide +kernel
theorem dX12_advance_169 : decode cX12_advance 169 = .ok (.aload_n 0, 1) := by decide +kernel
theorem dX12_advance_170 : decode cX12_advance 170 = .ok (.dup, 1) := by decide +kernel
theorem dX12_advance_171 : decode cX12_advance 171 = .ok (.getfield 114, 3) := by decide +kernel
theorem dX12_advance_174 : decode cX12_advance 174 = .ok (.iconst 1, 1) := by decide +kernel
theorem dX12_advance_175 : decode cX12_advance 175 = .ok (.iadd, 1) := by decide +kernel
theorem dX12_advance_176 : decode cX12_advance 176 = .ok (.putfield 114, 3) := by decide +kernel
theorem dX12_advance_179 : decode cX12_advance 179 = .ok (.goto (-70), 3) := by decide +kernel
theorem dX12_advance_182 : decode cX12_advance 182 = .ok (.aload_n 0, 1) := by decide +kernel
