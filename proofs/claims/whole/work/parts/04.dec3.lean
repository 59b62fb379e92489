theorem dX8_init_0 : decode cX8_init 0 = .ok (.aload_n 0, 1) := by decide +kernel
theorem dX8_init_1 : decode cX8_init 1 = .ok (.invokespecial 1, 3) := by decide +kernel
theorem dX8_init_4 : decode cX8_init 4 = .ok (.aload_n 0, 1) := by decide +kernel
theorem dX8_init_5 : decode cX8_init 5 = .ok (.iconst 4, 1) := by decide +kernel
theorem dX8_init_6 : decode cX8_init 6 = .ok (.newarray .int, 2) := by decide +kernel
theorem dX8_init_8 : decode cX8_init 8 = .ok (.putfield 7, 3) := by decide +kernel
theorem dX8_init_11 : decode cX8_init 11 = .ok (.aload_n 0, 1) := by decide +kernel
theorem dX8_init_12 : decode cX8_init 12 = .ok (.iconst 4, 1) := by decide +kernel
theorem dX8_init_13 : decode cX8_init 13 = .ok (.newarray .int, 2) := by decide +kernel
theorem dX8_init_15 : decode cX8_init 15 = .ok (.putfield 13, 3) := by decide +kernel
theorem dX8_init_18 : decode cX8_init 18 = .ok (.aload_n 0, 1) := by decide +kernel
theorem dX8_init_19 : decode cX8_init 19 = .ok (.sipush 256, 3) := by decide +kernel
theorem dX8_init_22 : decode cX8_init 22 = .ok (.newarray .int, 2) := by decide +kernel
theorem dX8_init_24 : decode cX8_init 24 = .ok (.putfield 16, 3) := by decide +kernel
theorem dX8_init_27 : decode cX8_init 27 = .ok (.aload_n 0, 1) := by decide +kernel
theorem dX8_init_28 : decode cX8_init 28 = .ok (.bipush 64, 2) := by decide +kernel
theorem dX8_init_30 : decode cX8_init 30 = .ok (.newarray .int, 2) := by decide +kernel
theorem dX8_init_32 : decode cX8_init 32 = .ok (.putfield 19, 3) := by decide +kernel
theorem dX8_init_35 : decode cX8_init 35 = .ok (.aload_n 0, 1) := by decide +kernel
theorem dX8_init_36 : decode cX8_init 36 = .ok (.bipush 75, 2) := by decide +kernel
theorem dX8_init_38 : decode cX8_init 38 = .ok (.newarray .int, 2) := by decide +kernel
theorem dX8_init_40 : decode cX8_init 40 = .ok (.putfield 22, 3) := by decide +kernel
theorem dX8_init_43 : decode cX8_init 43 = .ok (.aload_n 0, 1) := by decide +kernel
theorem dX8_init_44 : decode cX8_init 44 = .ok (.bipush 64, 2) := by decide +kernel
theorem dX8_init_46 : decode cX8_init 46 = .ok (.newarray .int, 2) := by decide +kernel
theorem dX8_init_48 : decode cX8_init 48 = .ok (.putfield 25, 3) := by decide +kernel
theorem dX8_init_51 : decode cX8_init 51 = .ok (.aload_n 0, 1) := by decide +kernel
theorem dX8_init_52 : decode cX8_init 52 = .ok (.bipush 64, 2) := by decide +kernel
theorem dX8_init_54 : decode cX8_init 54 = .ok (.newarray .int, 2) := by decide +kernel
theorem dX8_init_56 : decode cX8_init 56 = .ok (.putfield 28, 3) := by decide +kernel
theorem dX8_init_59 : decode cX8_init 59 = .ok (.aload_n 0, 1) := by decide +kernel
theorem dX8_init_60 : decode cX8_init 60 = .ok (.bipush 64, 2) := by decide +kernel
theorem dX8_init_62 : decode cX8_init 62 = .ok (.newarray .int, 2) := by decide +kernel
theorem dX8_init_64 : decode cX8_init 64 = .ok (.putfield 31, 3) := by decide +kernel
theorem dX8_init_67 : decode cX8_init 67 = .ok (.aload_n 0, 1) := by decide +kernel
theorem dX8_init_68 : decode cX8_init 68 = .ok (.bipush 64, 2) := by decide +kernel
theorem dX8_init_70 : decode cX8_init 70 = .ok (.newarray .int, 2) := by decide +kernel
theorem dX8_init_72 : decode cX8_init 72 = .ok (.putfield 34, 3) := by decide +kernel
theorem dX8_init_75 : decode cX8_init 75 = .ok (.aload_n 0, 1) := by decide +kernel
theorem dX8_init_76 : decode cX8_init 76 = .ok (.bipush 64, 2) := by decide +kernel
theorem dX8_init_78 : decode cX8_init 78 = .ok (.newarray .int, 2) := by decide +kernel
theorem dX8_init_80 : decode cX8_init 80 = .ok (.putfield 37, 3) := by decide +kernel
theorem dX8_init_83 : decode cX8_init 83 = .ok (.aload_n 0, 1) := by decide +kernel
theorem dX8_init_84 : decode cX8_init 84 = .ok (.bipush 8, 2) := by decide +kernel
theorem dX8_init_86 : decode cX8_init 86 = .ok (.newarray .int, 2) := by decide +kernel
theorem dX8_init_88 : decode cX8_init 88 = .ok (.putfield 40, 3) := by decide +kernel
theorem dX8_init_91 : decode cX8_init 91 = .ok (.aload_n 0, 1) := by decide +kernel
theorem dX8_init_92 : decode cX8_init 92 = .ok (.bipush 8, 2) := by decide +kernel
theorem dX8_init_94 : decode cX8_init 94 = .ok (.newarray .int, 2) := by decide +kernel
theorem dX8_init_96 : decode cX8_init 96 = .ok (.putfield 43, 3) := by decide +kernel
theorem dX8_init_99 : decode cX8_init 99 = .ok (.aload_n 0, 1) := by decide +kernel
theorem dX8_init_100 : decode cX8_init 100 = .ok (.bipush 64, 2) := by decide +kernel
theorem dX8_init_102 : decode cX8_init 102 = .ok (.newarray .int, 2) := by decide +kernel
theorem dX8_init_104 : decode cX8_init 104 = .ok (.putfield 46, 3) := by decide +kernel
theorem dX8_init_107 : decode cX8_init 107 = .ok (.aload_n 0, 1) := by decide +kernel
theorem dX8_init_108 : decode cX8_init 108 = .ok (.bipush 64, 2) := by decide +kernel
theorem dX8_init_110 : decode cX8_init 110 = .ok (.newarray .int, 2) := by decide +kernel
theorem dX8_init_112 : decode cX8_init 112 = .ok (.putfield 49, 3) := by decide +kernel
theorem dX8_init_115 : decode cX8_init 115 = .ok (.aload_n 0, 1) := by decide +kernel
theorem dX8_init_116 : decode cX8_init 116 = .ok (.bipush 64, 2) := by decide +kernel
theorem dX8_init_118 : decode cX8_init 118 = .ok (.newarray .int, 2) := by decide +kernel
theorem dX8_init_120 : decode cX8_init 120 = .ok (.putfield 52, 3) := by decide +kernel
theorem dX8_init_123 : decode cX8_init 123 = .ok (.aload_n 0, 1) := by decide +kernel
theorem dX8_init_124 : decode cX8_init 124 = .ok (.bipush 64, 2) := by decide +kernel
theorem dX8_init_126 : decode cX8_init 126 = .ok (.newarray .boolean, 2) := by decide +kernel
theorem dX8_init_128 : decode cX8_init 128 = .ok (.putfield 55, 3) := by decide +kernel
theorem dX8_init_131 : decode cX8_init 131 = .ok (.aload_n 0, 1) := by decide +kernel
theorem dX8_init_132 : decode cX8_init 132 = .ok (.iconst (-1), 1) := by decide +kernel
theorem dX8_init_133 : decode cX8_init 133 = .ok (.putfield 59, 3) := by decide +kernel
theorem dX8_init_136 : decode cX8_init 136 = .ok (.aload_n 0, 1) := by decide +kernel
theorem dX8_init_137 : decode cX8_init 137 = .ok (.bipush 64, 2) := by decide +kernel
theorem dX8_init_139 : decode cX8_init 139 = .ok (.newarray .int, 2) := by decide +kernel
theorem dX8_init_141 : decode cX8_init 141 = .ok (.putfield 63, 3) := by decide +kernel
theorem dX8_init_144 : decode cX8_init 144 = .ok (.aload_n 0, 1) := by decide +kernel
theorem dX8_init_145 : decode cX8_init 145 = .ok (.bipush 64, 2) := by decide +kernel
theorem dX8_init_147 : decode cX8_init 147 = .ok (.newarray .int, 2) := by decide +kernel
theorem dX8_init_149 : decode cX8_init 149 = .ok (.putfield 66, 3) := by decide +kernel
theorem dX8_init_152 : decode cX8_init 152 = .ok (.aload_n 0, 1) := by decide +kernel
theorem dX8_init_153 : decode cX8_init 153 = .ok (.iconst 5, 1) := by decide +kernel
theorem dX8_init_154 : decode cX8_init 154 = .ok (.newarray .int, 2) := by decide +kernel
theorem dX8_init_156 : decode cX8_init 156 = .ok (.putfield 69, 3) := by decide +kernel
theorem dX8_init_159 : decode cX8_init 159 = .ok (.aload_n 0, 1) := by decide +kernel
theorem dX8_init_160 : decode cX8_init 160 = .ok (.iconst 5, 1) := by decide +kernel
theorem dX8_init_161 : decode cX8_init 161 = .ok (.newarray .int, 2) := by decide +kernel
theorem dX8_init_163 : decode cX8_init 163 = .ok (.putfield 72, 3) := by decide +kernel
theorem dX8_init_166 : decode cX8_init 166 = .ok (.aload_n 0, 1) := by decide +kernel
theorem dX8_init_167 : decode cX8_init 167 = .ok (.bipush 64, 2) := by decide +kernel
theorem dX8_init_169 : decode cX8_init 169 = .ok (.newarray .boolean, 2) := by decide +kernel
theorem dX8_init_171 : decode cX8_init 171 = .ok (.putfield 75, 3) := by decide +kernel
theorem dX8_init_174 : decode cX8_init 174 = .ok (.iconst 0, 1) := by decide +kernel
theorem dX8_init_175 : decode cX8_init 175 = .ok (.istore_n 1, 1) := by decide +kernel
theorem dX8_init_176 : decode cX8_init 176 = .ok (.iload_n 1, 1) := by decide +kernel
theorem dX8_init_177 : decode cX8_init 177 = .ok (.iconst 4, 1) := by decide +kernel
theorem dX8_init_178 : decode cX8_init 178 = .ok (.if_icmp .ge 16, 3) := by decide +kernel
theorem dX8_init_181 : decode cX8_init 181 = .ok (.aload_n 0, 1) := by decide +kernel
theorem dX8_init_182 : decode cX8_init 182 = .ok (.getfield 7, 3) := by decide +kernel
theorem dX8_init_185 : decode cX8_init 185 = .ok (.iload_n 1, 1) := by decide +kernel
theorem dX8_init_186 : decode cX8_init 186 = .ok (.iconst (-1), 1) := by decide +kernel
theorem dX8_init_187 : decode cX8_init 187 = .ok (.iastore, 1) := by decide +kernel
theorem dX8_init_188 : decode cX8_init 188 = .ok (.iinc 1 1, 3) := by decide +kernel
theorem dX8_init_191 : decode cX8_init 191 = .ok (.goto (-15), 3) := by decide +kernel
theorem dX8_init_194 : decode cX8_init 194 = .ok (.return_, 1) := by decide +kernel
theorem dX8_in_0 : decode cX8_in 0 = .ok (.lload_n 0, 1) := by decide +kernel
theorem dX8_in_1 : decode cX8_in 1 = .ok (.lload_n 2, 1) := by decide +kernel
theorem dX8_in_2 : decode cX8_in 2 = .ok (.lcmp, 1) := by decide +kernel
theorem dX8_in_3 : decode cX8_in 3 = .ok (.ifCond .lt 14, 3) := by decide +kernel
theorem dX8_in_6 : decode cX8_in 6 = .ok (.lload_n 0, 1) := by decide +kernel
theorem dX8_in_7 : decode cX8_in 7 = .ok (.lload 4, 2) := by decide +kernel
theorem dX8_in_9 : decode cX8_in 9 = .ok (.lcmp, 1) := by decide +kernel
theorem dX8_in_10 : decode cX8_in 10 = .ok (.ifCond .gt 7, 3) := by decide +kernel
theorem dX8_in_13 : decode cX8_in 13 = .ok (.iconst 1, 1) := by decide +kernel
theorem dX8_in_14 : decode cX8_in 14 = .ok (.goto 4, 3) := by decide +kernel
theorem dX8_in_17 : decode cX8_in 17 = .ok (.iconst 0, 1) := by decide +kernel
theorem dX8_in_18 : decode cX8_in 18 = .ok (.ireturn, 1) := by decide +kernel
theorem dX8_no_0 : decode cX8_no 0 = .ok (.ldc2_w 78, 3) := by decide +kernel
theorem dX8_no_3 : decode cX8_no 3 = .ok (.iload_n 0, 1) := by decide +kernel
theorem dX8_no_4 : decode cX8_no 4 = .ok (.i2l, 1) := by decide +kernel
theorem dX8_no_5 : decode cX8_no 5 = .ok (.lsub, 1) := by decide +kernel
theorem dX8_no_6 : decode cX8_no 6 = .ok (.lreturn, 1) := by decide +kernel
theorem dX8_isTwo_0 : decode cX8_isTwo 0 = .ok (.iload_n 0, 1) := by decide +kernel
theorem dX8_isTwo_1 : decode cX8_isTwo 1 = .ok (.i2l, 1) := by decide +kernel
theorem dX8_isTwo_2 : decode cX8_isTwo 2 = .ok (.lconst 0, 1) := by decide +kernel
theorem dX8_isTwo_3 : decode cX8_isTwo 3 = .ok (.lconst 1, 1) := by decide +kernel
theorem dX8_isTwo_4 : decode cX8_isTwo 4 = .ok (.invokestatic 80, 3) := by decide +kernel
theorem dX8_isTwo_7 : decode cX8_isTwo 7 = .ok (.ireturn, 1) := by decide +kernel
theorem dX8_isCell_0 : decode cX8_isCell 0 = .ok (.iload_n 0, 1) := by decide +kernel
theorem dX8_isCell_1 : decode cX8_isCell 1 = .ok (.i2l, 1) := by decide +kernel
theorem dX8_isCell_2 : decode cX8_isCell 2 = .ok (.lconst 0, 1) := by decide +kernel
theorem dX8_isCell_3 : decode cX8_isCell 3 = .ok (.ldc2_w 84, 3) := by decide +kernel
theorem dX8_isCell_6 : decode cX8_isCell 6 = .ok (.invokestatic 80, 3) := by decide +kernel
theorem dX8_isCell_9 : decode cX8_isCell 9 = .ok (.ireturn, 1) := by decide +kernel
theorem dX8_met_0 : decode cX8_met 0 = .ok (.aload_n 0, 1) := by decide +kernel
theorem dX8_met_1 : decode cX8_met 1 = .ok (.iload_n 1, 1) := by decide +kernel
theorem dX8_met_2 : decode cX8_met 2 = .ok (.putfield 86, 3) := by decide +kernel
theorem dX8_met_5 : decode cX8_met 5 = .ok (.bipush (-10), 2) := by decide +kernel
theorem dX8_met_7 : decode cX8_met 7 = .ok (.iload_n 1, 1) := by decide +kernel
theorem dX8_met_8 : decode cX8_met 8 = .ok (.isub, 1) := by decide +kernel
theorem dX8_met_9 : decode cX8_met 9 = .ok (.ireturn, 1) := by decide +kernel
theorem dX8_isSheet_0 : decode cX8_isSheet 0 = .ok (.iload_n 0, 1) := by decide +kernel
theorem dX8_isSheet_1 : decode cX8_isSheet 1 = .ok (.i2l, 1) := by decide +kernel
theorem dX8_isSheet_2 : decode cX8_isSheet 2 = .ok (.lconst 0, 1) := by decide +kernel
theorem dX8_isSheet_3 : decode cX8_isSheet 3 = .ok (.ldc2_w 89, 3) := by decide +kernel
theorem dX8_isSheet_6 : decode cX8_isSheet 6 = .ok (.invokestatic 80, 3) := by decide +kernel
theorem dX8_isSheet_9 : decode cX8_isSheet 9 = .ok (.ireturn, 1) := by decide +kernel
theorem dX8_sheet_0 : decode cX8_sheet 0 = .ok (.iload_n 1, 1) := by decide +kernel
theorem dX8_sheet_1 : decode cX8_sheet 1 = .ok (.invokestatic 91, 3) := by decide +kernel
theorem dX8_sheet_4 : decode cX8_sheet 4 = .ok (.ifCond .eq 21, 3) := by decide +kernel
theorem dX8_sheet_7 : decode cX8_sheet 7 = .ok (.iload_n 2, 1) := by decide +kernel
theorem dX8_sheet_8 : decode cX8_sheet 8 = .ok (.i2l, 1) := by decide +kernel
theorem dX8_sheet_9 : decode cX8_sheet 9 = .ok (.lconst 0, 1) := by decide +kernel
theorem dX8_sheet_10 : decode cX8_sheet 10 = .ok (.ldc2_w 95, 3) := by decide +kernel
theorem dX8_sheet_13 : decode cX8_sheet 13 = .ok (.invokestatic 80, 3) := by decide +kernel
theorem dX8_sheet_16 : decode cX8_sheet 16 = .ok (.ifCond .eq 9, 3) := by decide +kernel
theorem dX8_sheet_19 : decode cX8_sheet 19 = .ok (.iload_n 3, 1) := by decide +kernel
theorem dX8_sheet_20 : decode cX8_sheet 20 = .ok (.bipush 64, 2) := by decide +kernel
theorem dX8_sheet_22 : decode cX8_sheet 22 = .ok (.if_icmp .le 6, 3) := by decide +kernel
theorem dX8_sheet_25 : decode cX8_sheet 25 = .ok (.bipush (-2), 2) := by decide +kernel
theorem dX8_sheet_27 : decode cX8_sheet 27 = .ok (.ireturn, 1) := by decide +kernel
theorem dX8_sheet_28 : decode cX8_sheet 28 = .ok (.iload_n 3, 1) := by decide +kernel
theorem dX8_sheet_29 : decode cX8_sheet 29 = .ok (.ifCond .ge 9, 3) := by decide +kernel
theorem dX8_sheet_32 : decode cX8_sheet 32 = .ok (.aload_n 0, 1) := by decide +kernel
theorem dX8_sheet_33 : decode cX8_sheet 33 = .ok (.iconst 5, 1) := by decide +kernel
theorem dX8_sheet_34 : decode cX8_sheet 34 = .ok (.invokevirtual 97, 3) := by decide +kernel
theorem dX8_sheet_37 : decode cX8_sheet 37 = .ok (.ireturn, 1) := by decide +kernel
theorem dX8_sheet_38 : decode cX8_sheet 38 = .ok (.aload_n 0, 1) := by decide +kernel
theorem dX8_sheet_39 : decode cX8_sheet 39 = .ok (.getfield 7, 3) := by decide +kernel
theorem dX8_sheet_42 : decode cX8_sheet 42 = .ok (.iload_n 1, 1) := by decide +kernel
theorem dX8_sheet_43 : decode cX8_sheet 43 = .ok (.iload_n 2, 1) := by decide +kernel
theorem dX8_sheet_44 : decode cX8_sheet 44 = .ok (.iastore, 1) := by decide +kernel
theorem dX8_sheet_45 : decode cX8_sheet 45 = .ok (.aload_n 0, 1) := by decide +kernel
theorem dX8_sheet_46 : decode cX8_sheet 46 = .ok (.getfield 13, 3) := by decide +kernel
theorem dX8_sheet_49 : decode cX8_sheet 49 = .ok (.iload_n 1, 1) := by decide +kernel
theorem dX8_sheet_50 : decode cX8_sheet 50 = .ok (.iload_n 3, 1) := by decide +kernel
theorem dX8_sheet_51 : decode cX8_sheet 51 = .ok (.iastore, 1) := by decide +kernel
theorem dX8_sheet_52 : decode cX8_sheet 52 = .ok (.iconst 0, 1) := by decide +kernel
theorem dX8_sheet_53 : decode cX8_sheet 53 = .ok (.istore 4, 2) := by decide +kernel
theorem dX8_sheet_55 : decode cX8_sheet 55 = .ok (.iload 4, 2) := by decide +kernel
theorem dX8_sheet_57 : decode cX8_sheet 57 = .ok (.iload_n 3, 1) := by decide +kernel
theorem dX8_sheet_58 : decode cX8_sheet 58 = .ok (.if_icmp .ge 22, 3) := by decide +kernel
theorem dX8_sheet_61 : decode cX8_sheet 61 = .ok (.aload_n 0, 1) := by decide +kernel
theorem dX8_sheet_62 : decode cX8_sheet 62 = .ok (.getfield 16, 3) := by decide +kernel
theorem dX8_sheet_65 : decode cX8_sheet 65 = .ok (.bipush 64, 2) := by decide +kernel
theorem dX8_sheet_67 : decode cX8_sheet 67 = .ok (.iload_n 1, 1) := by decide +kernel
theorem dX8_sheet_68 : decode cX8_sheet 68 = .ok (.imul, 1) := by decide +kernel
theorem dX8_sheet_69 : decode cX8_sheet 69 = .ok (.iload 4, 2) := by decide +kernel
theorem dX8_sheet_71 : decode cX8_sheet 71 = .ok (.iadd, 1) := by decide +kernel
theorem dX8_sheet_72 : decode cX8_sheet 72 = .ok (.iconst 0, 1) := by decide +kernel
theorem dX8_sheet_73 : decode cX8_sheet 73 = .ok (.iastore, 1) := by decide +kernel
theorem dX8_sheet_74 : decode cX8_sheet 74 = .ok (.iinc 4 1, 3) := by decide +kernel
theorem dX8_sheet_77 : decode cX8_sheet 77 = .ok (.goto (-22), 3) := by decide +kernel
theorem dX8_sheet_80 : decode cX8_sheet 80 = .ok (.iload_n 3, 1) := by decide +kernel
theorem dX8_sheet_81 : decode cX8_sheet 81 = .ok (.ireturn, 1) := by decide +kernel
theorem dX8_lose_0 : decode cX8_lose 0 = .ok (.iload_n 1, 1) := by decide +kernel
theorem dX8_lose_1 : decode cX8_lose 1 = .ok (.invokestatic 91, 3) := by decide +kernel
theorem dX8_lose_4 : decode cX8_lose 4 = .ok (.ifCond .ne 6, 3) := by decide +kernel
theorem dX8_lose_7 : decode cX8_lose 7 = .ok (.bipush (-2), 2) := by decide +kernel
theorem dX8_lose_9 : decode cX8_lose 9 = .ok (.ireturn, 1) := by decide +kernel
theorem dX8_lose_10 : decode cX8_lose 10 = .ok (.aload_n 0, 1) := by decide +kernel
theorem dX8_lose_11 : decode cX8_lose 11 = .ok (.getfield 7, 3) := by decide +kernel
theorem dX8_lose_14 : decode cX8_lose 14 = .ok (.iload_n 1, 1) := by decide +kernel
theorem dX8_lose_15 : decode cX8_lose 15 = .ok (.iaload, 1) := by decide +kernel
theorem dX8_lose_16 : decode cX8_lose 16 = .ok (.ifCond .ge 9, 3) := by decide +kernel
theorem dX8_lose_19 : decode cX8_lose 19 = .ok (.aload_n 0, 1) := by decide +kernel
theorem dX8_lose_20 : decode cX8_lose 20 = .ok (.iconst 1, 1) := by decide +kernel
theorem dX8_lose_21 : decode cX8_lose 21 = .ok (.invokevirtual 97, 3) := by decide +kernel
theorem dX8_lose_24 : decode cX8_lose 24 = .ok (.ireturn, 1) := by decide +kernel
theorem dX8_lose_25 : decode cX8_lose 25 = .ok (.aload_n 0, 1) := by decide +kernel
theorem dX8_lose_26 : decode cX8_lose 26 = .ok (.getfield 7, 3) := by decide +kernel
theorem dX8_lose_29 : decode cX8_lose 29 = .ok (.iload_n 1, 1) := by decide +kernel
theorem dX8_lose_30 : decode cX8_lose 30 = .ok (.iconst (-1), 1) := by decide +kernel
theorem dX8_lose_31 : decode cX8_lose 31 = .ok (.iastore, 1) := by decide +kernel
theorem dX8_lose_32 : decode cX8_lose 32 = .ok (.aload_n 0, 1) := by decide +kernel
theorem dX8_lose_33 : decode cX8_lose 33 = .ok (.getfield 13, 3) := by decide +kernel
theorem dX8_lose_36 : decode cX8_lose 36 = .ok (.iload_n 1, 1) := by decide +kernel
theorem dX8_lose_37 : decode cX8_lose 37 = .ok (.iaload, 1) := by decide +kernel
theorem dX8_lose_38 : decode cX8_lose 38 = .ok (.ireturn, 1) := by decide +kernel
theorem dX8_lacks_0 : decode cX8_lacks 0 = .ok (.aload_n 0, 1) := by decide +kernel
theorem dX8_lacks_1 : decode cX8_lacks 1 = .ok (.getfield 7, 3) := by decide +kernel
theorem dX8_lacks_4 : decode cX8_lacks 4 = .ok (.iload_n 1, 1) := by decide +kernel
theorem dX8_lacks_5 : decode cX8_lacks 5 = .ok (.iaload, 1) := by decide +kernel
theorem dX8_lacks_6 : decode cX8_lacks 6 = .ok (.ifCond .ge 9, 3) := by decide +kernel
theorem dX8_lacks_9 : decode cX8_lacks 9 = .ok (.aload_n 0, 1) := by decide +kernel
theorem dX8_lacks_10 : decode cX8_lacks 10 = .ok (.iconst 1, 1) := by decide +kernel
theorem dX8_lacks_11 : decode cX8_lacks 11 = .ok (.invokevirtual 97, 3) := by decide +kernel
theorem dX8_lacks_14 : decode cX8_lacks 14 = .ok (.ireturn, 1) := by decide +kernel
theorem dX8_lacks_15 : decode cX8_lacks 15 = .ok (.aload_n 0, 1) := by decide +kernel
theorem dX8_lacks_16 : decode cX8_lacks 16 = .ok (.getfield 7, 3) := by decide +kernel
theorem dX8_lacks_19 : decode cX8_lacks 19 = .ok (.iload_n 1, 1) := by decide +kernel
theorem dX8_lacks_20 : decode cX8_lacks 20 = .ok (.iaload, 1) := by decide +kernel
theorem dX8_lacks_21 : decode cX8_lacks 21 = .ok (.iload_n 2, 1) := by decide +kernel
theorem dX8_lacks_22 : decode cX8_lacks 22 = .ok (.if_icmp .eq 9, 3) := by decide +kernel
theorem dX8_lacks_25 : decode cX8_lacks 25 = .ok (.aload_n 0, 1) := by decide +kernel
theorem dX8_lacks_26 : decode cX8_lacks 26 = .ok (.iconst 3, 1) := by decide +kernel
theorem dX8_lacks_27 : decode cX8_lacks 27 = .ok (.invokevirtual 97, 3) := by decide +kernel
theorem dX8_lacks_30 : decode cX8_lacks 30 = .ok (.ireturn, 1) := by decide +kernel
theorem dX8_lacks_31 : decode cX8_lacks 31 = .ok (.iload_n 3, 1) := by decide +kernel
theorem dX8_lacks_32 : decode cX8_lacks 32 = .ok (.i2l, 1) := by decide +kernel
theorem dX8_lacks_33 : decode cX8_lacks 33 = .ok (.lconst 0, 1) := by decide +kernel
theorem dX8_lacks_34 : decode cX8_lacks 34 = .ok (.aload_n 0, 1) := by decide +kernel
theorem dX8_lacks_35 : decode cX8_lacks 35 = .ok (.getfield 13, 3) := by decide +kernel
theorem dX8_lacks_38 : decode cX8_lacks 38 = .ok (.iload_n 1, 1) := by decide +kernel
theorem dX8_lacks_39 : decode cX8_lacks 39 = .ok (.iaload, 1) := by decide +kernel
theorem dX8_lacks_40 : decode cX8_lacks 40 = .ok (.iconst 1, 1) := by decide +kernel
theorem dX8_lacks_41 : decode cX8_lacks 41 = .ok (.isub, 1) := by decide +kernel
theorem dX8_lacks_42 : decode cX8_lacks 42 = .ok (.i2l, 1) := by decide +kernel
theorem dX8_lacks_43 : decode cX8_lacks 43 = .ok (.invokestatic 80, 3) := by decide +kernel
theorem dX8_lacks_46 : decode cX8_lacks 46 = .ok (.ifCond .eq 7, 3) := by decide +kernel
theorem dX8_lacks_49 : decode cX8_lacks 49 = .ok (.iconst 0, 1) := by decide +kernel
theorem dX8_lacks_50 : decode cX8_lacks 50 = .ok (.goto 8, 3) := by decide +kernel
theorem dX8_lacks_53 : decode cX8_lacks 53 = .ok (.aload_n 0, 1) := by decide +kernel
theorem dX8_lacks_54 : decode cX8_lacks 54 = .ok (.iconst 2, 1) := by decide +kernel
theorem dX8_lacks_55 : decode cX8_lacks 55 = .ok (.invokevirtual 97, 3) := by decide +kernel
theorem dX8_lacks_58 : decode cX8_lacks 58 = .ok (.ireturn, 1) := by decide +kernel
theorem dX8_cut_0 : decode cX8_cut 0 = .ok (.iload_n 0, 1) := by decide +kernel
theorem dX8_cut_1 : decode cX8_cut 1 = .ok (.ifCond .ne 8, 3) := by decide +kernel
theorem dX8_cut_4 : decode cX8_cut 4 = .ok (.iload_n 1, 1) := by decide +kernel
theorem dX8_cut_5 : decode cX8_cut 5 = .ok (.i2b, 1) := by decide +kernel
theorem dX8_cut_6 : decode cX8_cut 6 = .ok (.goto 14, 3) := by decide +kernel
theorem dX8_cut_9 : decode cX8_cut 9 = .ok (.iload_n 0, 1) := by decide +kernel
theorem dX8_cut_10 : decode cX8_cut 10 = .ok (.iconst 1, 1) := by decide +kernel
theorem dX8_cut_11 : decode cX8_cut 11 = .ok (.if_icmp .ne 8, 3) := by decide +kernel
theorem dX8_cut_14 : decode cX8_cut 14 = .ok (.iload_n 1, 1) := by decide +kernel
theorem dX8_cut_15 : decode cX8_cut 15 = .ok (.i2s, 1) := by decide +kernel
theorem dX8_cut_16 : decode cX8_cut 16 = .ok (.goto 4, 3) := by decide +kernel
theorem dX8_cut_19 : decode cX8_cut 19 = .ok (.iload_n 1, 1) := by decide +kernel
theorem dX8_cut_20 : decode cX8_cut 20 = .ok (.ireturn, 1) := by decide +kernel
theorem dX8_lay_0 : decode cX8_lay 0 = .ok (.iload_n 1, 1) := by decide +kernel
theorem dX8_lay_1 : decode cX8_lay 1 = .ok (.invokestatic 91, 3) := by decide +kernel
theorem dX8_lay_4 : decode cX8_lay 4 = .ok (.ifCond .eq 15, 3) := by decide +kernel
theorem dX8_lay_7 : decode cX8_lay 7 = .ok (.iload_n 2, 1) := by decide +kernel
theorem dX8_lay_8 : decode cX8_lay 8 = .ok (.i2l, 1) := by decide +kernel
theorem dX8_lay_9 : decode cX8_lay 9 = .ok (.lconst 0, 1) := by decide +kernel
theorem dX8_lay_10 : decode cX8_lay 10 = .ok (.ldc2_w 95, 3) := by decide +kernel
theorem dX8_lay_13 : decode cX8_lay 13 = .ok (.invokestatic 80, 3) := by decide +kernel
theorem dX8_lay_16 : decode cX8_lay 16 = .ok (.ifCond .ne 6, 3) := by decide +kernel
theorem dX8_lay_19 : decode cX8_lay 19 = .ok (.bipush (-2), 2) := by decide +kernel
theorem dX8_lay_21 : decode cX8_lay 21 = .ok (.ireturn, 1) := by decide +kernel
theorem dX8_lay_22 : decode cX8_lay 22 = .ok (.aload_n 0, 1) := by decide +kernel
theorem dX8_lay_23 : decode cX8_lay 23 = .ok (.iload_n 1, 1) := by decide +kernel
theorem dX8_lay_24 : decode cX8_lay 24 = .ok (.iload_n 2, 1) := by decide +kernel
theorem dX8_lay_25 : decode cX8_lay 25 = .ok (.iload_n 3, 1) := by decide +kernel
theorem dX8_lay_26 : decode cX8_lay 26 = .ok (.invokevirtual 101, 3) := by decide +kernel
theorem dX8_lay_29 : decode cX8_lay 29 = .ok (.istore 5, 2) := by decide +kernel
theorem dX8_lay_31 : decode cX8_lay 31 = .ok (.iload 5, 2) := by decide +kernel
theorem dX8_lay_33 : decode cX8_lay 33 = .ok (.ifCond .eq 6, 3) := by decide +kernel
theorem dX8_lay_36 : decode cX8_lay 36 = .ok (.iload 5, 2) := by decide +kernel
theorem dX8_lay_38 : decode cX8_lay 38 = .ok (.ireturn, 1) := by decide +kernel
theorem dX8_lay_39 : decode cX8_lay 39 = .ok (.aload_n 0, 1) := by decide +kernel
theorem dX8_lay_40 : decode cX8_lay 40 = .ok (.getfield 16, 3) := by decide +kernel
theorem dX8_lay_43 : decode cX8_lay 43 = .ok (.bipush 64, 2) := by decide +kernel
theorem dX8_lay_45 : decode cX8_lay 45 = .ok (.iload_n 1, 1) := by decide +kernel
theorem dX8_lay_46 : decode cX8_lay 46 = .ok (.imul, 1) := by decide +kernel
theorem dX8_lay_47 : decode cX8_lay 47 = .ok (.iload_n 3, 1) := by decide +kernel
theorem dX8_lay_48 : decode cX8_lay 48 = .ok (.iadd, 1) := by decide +kernel
theorem dX8_lay_49 : decode cX8_lay 49 = .ok (.iload_n 2, 1) := by decide +kernel
theorem dX8_lay_50 : decode cX8_lay 50 = .ok (.iload 4, 2) := by decide +kernel
theorem dX8_lay_52 : decode cX8_lay 52 = .ok (.invokestatic 105, 3) := by decide +kernel
theorem dX8_lay_55 : decode cX8_lay 55 = .ok (.iastore, 1) := by decide +kernel
theorem dX8_lay_56 : decode cX8_lay 56 = .ok (.iconst 1, 1) := by decide +kernel
theorem dX8_lay_57 : decode cX8_lay 57 = .ok (.ireturn, 1) := by decide +kernel
theorem dX8_get_0 : decode cX8_get 0 = .ok (.iload_n 1, 1) := by decide +kernel
theorem dX8_get_1 : decode cX8_get 1 = .ok (.invokestatic 91, 3) := by decide +kernel
theorem dX8_get_4 : decode cX8_get 4 = .ok (.ifCond .eq 25, 3) := by decide +kernel
theorem dX8_get_7 : decode cX8_get 7 = .ok (.iload_n 2, 1) := by decide +kernel
theorem dX8_get_8 : decode cX8_get 8 = .ok (.i2l, 1) := by decide +kernel
theorem dX8_get_9 : decode cX8_get 9 = .ok (.lconst 0, 1) := by decide +kernel
theorem dX8_get_10 : decode cX8_get 10 = .ok (.ldc2_w 95, 3) := by decide +kernel
theorem dX8_get_13 : decode cX8_get 13 = .ok (.invokestatic 80, 3) := by decide +kernel
theorem dX8_get_16 : decode cX8_get 16 = .ok (.ifCond .eq 13, 3) := by decide +kernel
theorem dX8_get_19 : decode cX8_get 19 = .ok (.aload_n 0, 1) := by decide +kernel
theorem dX8_get_20 : decode cX8_get 20 = .ok (.iload_n 1, 1) := by decide +kernel
theorem dX8_get_21 : decode cX8_get 21 = .ok (.iload_n 2, 1) := by decide +kernel
theorem dX8_get_22 : decode cX8_get 22 = .ok (.iload_n 3, 1) := by decide +kernel
theorem dX8_get_23 : decode cX8_get 23 = .ok (.invokevirtual 101, 3) := by decide +kernel
theorem dX8_get_26 : decode cX8_get 26 = .ok (.ifCond .eq 6, 3) := by decide +kernel
theorem dX8_get_29 : decode cX8_get 29 = .ok (.ldc 109, 2) := by decide +kernel
theorem dX8_get_31 : decode cX8_get 31 = .ok (.ireturn, 1) := by decide +kernel
theorem dX8_get_32 : decode cX8_get 32 = .ok (.aload_n 0, 1) := by decide +kernel
theorem dX8_get_33 : decode cX8_get 33 = .ok (.getfield 16, 3) := by decide +kernel
theorem dX8_get_36 : decode cX8_get 36 = .ok (.bipush 64, 2) := by decide +kernel
theorem dX8_get_38 : decode cX8_get 38 = .ok (.iload_n 1, 1) := by decide +kernel
theorem dX8_get_39 : decode cX8_get 39 = .ok (.imul, 1) := by decide +kernel
theorem dX8_get_40 : decode cX8_get 40 = .ok (.iload_n 3, 1) := by decide +kernel
theorem dX8_get_41 : decode cX8_get 41 = .ok (.iadd, 1) := by decide +kernel
theorem dX8_get_42 : decode cX8_get 42 = .ok (.iaload, 1) := by decide +kernel
theorem dX8_get_43 : decode cX8_get 43 = .ok (.ireturn, 1) := by decide +kernel
theorem dX8_copy_0 : decode cX8_copy 0 = .ok (.iload_n 1, 1) := by decide +kernel
theorem dX8_copy_1 : decode cX8_copy 1 = .ok (.invokestatic 91, 3) := by decide +kernel
theorem dX8_copy_4 : decode cX8_copy 4 = .ok (.ifCond .eq 10, 3) := by decide +kernel
theorem dX8_copy_7 : decode cX8_copy 7 = .ok (.iload_n 3, 1) := by decide +kernel
theorem dX8_copy_8 : decode cX8_copy 8 = .ok (.invokestatic 91, 3) := by decide +kernel
theorem dX8_copy_11 : decode cX8_copy 11 = .ok (.ifCond .ne 6, 3) := by decide +kernel
theorem dX8_copy_14 : decode cX8_copy 14 = .ok (.bipush (-2), 2) := by decide +kernel
theorem dX8_copy_16 : decode cX8_copy 16 = .ok (.ireturn, 1) := by decide +kernel
theorem dX8_copy_17 : decode cX8_copy 17 = .ok (.aload_n 0, 1) := by decide +kernel
theorem dX8_copy_18 : decode cX8_copy 18 = .ok (.getfield 7, 3) := by decide +kernel
theorem dX8_copy_21 : decode cX8_copy 21 = .ok (.iload_n 1, 1) := by decide +kernel
theorem dX8_copy_22 : decode cX8_copy 22 = .ok (.iaload, 1) := by decide +kernel
theorem dX8_copy_23 : decode cX8_copy 23 = .ok (.ifCond .lt 12, 3) := by decide +kernel
theorem dX8_copy_26 : decode cX8_copy 26 = .ok (.aload_n 0, 1) := by decide +kernel
theorem dX8_copy_27 : decode cX8_copy 27 = .ok (.getfield 7, 3) := by decide +kernel
theorem dX8_copy_30 : decode cX8_copy 30 = .ok (.iload_n 3, 1) := by decide +kernel
theorem dX8_copy_31 : decode cX8_copy 31 = .ok (.iaload, 1) := by decide +kernel
theorem dX8_copy_32 : decode cX8_copy 32 = .ok (.ifCond .ge 9, 3) := by decide +kernel
theorem dX8_copy_35 : decode cX8_copy 35 = .ok (.aload_n 0, 1) := by decide +kernel
theorem dX8_copy_36 : decode cX8_copy 36 = .ok (.iconst 1, 1) := by decide +kernel
theorem dX8_copy_37 : decode cX8_copy 37 = .ok (.invokevirtual 97, 3) := by decide +kernel
theorem dX8_copy_40 : decode cX8_copy 40 = .ok (.ireturn, 1) := by decide +kernel
theorem dX8_copy_41 : decode cX8_copy 41 = .ok (.aload_n 0, 1) := by decide +kernel
theorem dX8_copy_42 : decode cX8_copy 42 = .ok (.getfield 7, 3) := by decide +kernel
theorem dX8_copy_45 : decode cX8_copy 45 = .ok (.iload_n 1, 1) := by decide +kernel
theorem dX8_copy_46 : decode cX8_copy 46 = .ok (.iaload, 1) := by decide +kernel
theorem dX8_copy_47 : decode cX8_copy 47 = .ok (.aload_n 0, 1) := by decide +kernel
theorem dX8_copy_48 : decode cX8_copy 48 = .ok (.getfield 7, 3) := by decide +kernel
theorem dX8_copy_51 : decode cX8_copy 51 = .ok (.iload_n 3, 1) := by decide +kernel
theorem dX8_copy_52 : decode cX8_copy 52 = .ok (.iaload, 1) := by decide +kernel
theorem dX8_copy_53 : decode cX8_copy 53 = .ok (.if_icmp .eq 9, 3) := by decide +kernel
theorem dX8_copy_56 : decode cX8_copy 56 = .ok (.aload_n 0, 1) := by decide +kernel
theorem dX8_copy_57 : decode cX8_copy 57 = .ok (.iconst 4, 1) := by decide +kernel
theorem dX8_copy_58 : decode cX8_copy 58 = .ok (.invokevirtual 97, 3) := by decide +kernel
theorem dX8_copy_61 : decode cX8_copy 61 = .ok (.ireturn, 1) := by decide +kernel
theorem dX8_copy_62 : decode cX8_copy 62 = .ok (.iload_n 2, 1) := by decide +kernel
theorem dX8_copy_63 : decode cX8_copy 63 = .ok (.ifCond .lt 48, 3) := by decide +kernel
theorem dX8_copy_66 : decode cX8_copy 66 = .ok (.iload 4, 2) := by decide +kernel
theorem dX8_copy_68 : decode cX8_copy 68 = .ok (.ifCond .lt 43, 3) := by decide +kernel
theorem dX8_copy_71 : decode cX8_copy 71 = .ok (.iload 5, 2) := by decide +kernel
theorem dX8_copy_73 : decode cX8_copy 73 = .ok (.ifCond .lt 38, 3) := by decide +kernel
theorem dX8_copy_76 : decode cX8_copy 76 = .ok (.iload_n 2, 1) := by decide +kernel
theorem dX8_copy_77 : decode cX8_copy 77 = .ok (.i2l, 1) := by decide +kernel
theorem dX8_copy_78 : decode cX8_copy 78 = .ok (.iload 5, 2) := by decide +kernel
theorem dX8_copy_80 : decode cX8_copy 80 = .ok (.i2l, 1) := by decide +kernel
theorem dX8_copy_81 : decode cX8_copy 81 = .ok (.ladd, 1) := by decide +kernel
theorem dX8_copy_82 : decode cX8_copy 82 = .ok (.aload_n 0, 1) := by decide +kernel
theorem dX8_copy_83 : decode cX8_copy 83 = .ok (.getfield 13, 3) := by decide +kernel
theorem dX8_copy_86 : decode cX8_copy 86 = .ok (.iload_n 1, 1) := by decide +kernel
theorem dX8_copy_87 : decode cX8_copy 87 = .ok (.iaload, 1) := by decide +kernel
theorem dX8_copy_88 : decode cX8_copy 88 = .ok (.i2l, 1) := by decide +kernel
theorem dX8_copy_89 : decode cX8_copy 89 = .ok (.lcmp, 1) := by decide +kernel
theorem dX8_copy_90 : decode cX8_copy 90 = .ok (.ifCond .gt 21, 3) := by decide +kernel
theorem dX8_copy_93 : decode cX8_copy 93 = .ok (.iload 4, 2) := by decide +kernel
theorem dX8_copy_95 : decode cX8_copy 95 = .ok (.i2l, 1) := by decide +kernel
theorem dX8_copy_96 : decode cX8_copy 96 = .ok (.iload 5, 2) := by decide +kernel
theorem dX8_copy_98 : decode cX8_copy 98 = .ok (.i2l, 1) := by decide +kernel
theorem dX8_copy_99 : decode cX8_copy 99 = .ok (.ladd, 1) := by decide +kernel
theorem dX8_copy_100 : decode cX8_copy 100 = .ok (.aload_n 0, 1) := by decide +kernel
theorem dX8_copy_101 : decode cX8_copy 101 = .ok (.getfield 13, 3) := by decide +kernel
theorem dX8_copy_104 : decode cX8_copy 104 = .ok (.iload_n 3, 1) := by decide +kernel
theorem dX8_copy_105 : decode cX8_copy 105 = .ok (.iaload, 1) := by decide +kernel
theorem dX8_copy_106 : decode cX8_copy 106 = .ok (.i2l, 1) := by decide +kernel
theorem dX8_copy_107 : decode cX8_copy 107 = .ok (.lcmp, 1) := by decide +kernel
theorem dX8_copy_108 : decode cX8_copy 108 = .ok (.ifCond .le 9, 3) := by decide +kernel
theorem dX8_copy_111 : decode cX8_copy 111 = .ok (.aload_n 0, 1) := by decide +kernel
theorem dX8_copy_112 : decode cX8_copy 112 = .ok (.iconst 2, 1) := by decide +kernel
theorem dX8_copy_113 : decode cX8_copy 113 = .ok (.invokevirtual 97, 3) := by decide +kernel
theorem dX8_copy_116 : decode cX8_copy 116 = .ok (.ireturn, 1) := by decide +kernel
theorem dX8_copy_117 : decode cX8_copy 117 = .ok (.iconst 0, 1) := by decide +kernel
theorem dX8_copy_118 : decode cX8_copy 118 = .ok (.istore 6, 2) := by decide +kernel
theorem dX8_copy_120 : decode cX8_copy 120 = .ok (.iload 6, 2) := by decide +kernel
theorem dX8_copy_122 : decode cX8_copy 122 = .ok (.iload 5, 2) := by decide +kernel
theorem dX8_copy_124 : decode cX8_copy 124 = .ok (.if_icmp .ge 30, 3) := by decide +kernel
theorem dX8_copy_127 : decode cX8_copy 127 = .ok (.aload_n 0, 1) := by decide +kernel
theorem dX8_copy_128 : decode cX8_copy 128 = .ok (.getfield 19, 3) := by decide +kernel
theorem dX8_copy_131 : decode cX8_copy 131 = .ok (.iload 6, 2) := by decide +kernel
theorem dX8_copy_133 : decode cX8_copy 133 = .ok (.aload_n 0, 1) := by decide +kernel
theorem dX8_copy_134 : decode cX8_copy 134 = .ok (.getfield 16, 3) := by decide +kernel
theorem dX8_copy_137 : decode cX8_copy 137 = .ok (.bipush 64, 2) := by decide +kernel
theorem dX8_copy_139 : decode cX8_copy 139 = .ok (.iload_n 1, 1) := by decide +kernel
theorem dX8_copy_140 : decode cX8_copy 140 = .ok (.imul, 1) := by decide +kernel
theorem dX8_copy_141 : decode cX8_copy 141 = .ok (.iload_n 2, 1) := by decide +kernel
theorem dX8_copy_142 : decode cX8_copy 142 = .ok (.iadd, 1) := by decide +kernel
theorem dX8_copy_143 : decode cX8_copy 143 = .ok (.iload 6, 2) := by decide +kernel
theorem dX8_copy_145 : decode cX8_copy 145 = .ok (.iadd, 1) := by decide +kernel
theorem dX8_copy_146 : decode cX8_copy 146 = .ok (.iaload, 1) := by decide +kernel
theorem dX8_copy_147 : decode cX8_copy 147 = .ok (.iastore, 1) := by decide +kernel
theorem dX8_copy_148 : decode cX8_copy 148 = .ok (.iinc 6 1, 3) := by decide +kernel
theorem dX8_copy_151 : decode cX8_copy 151 = .ok (.goto (-31), 3) := by decide +kernel
theorem dX8_copy_154 : decode cX8_copy 154 = .ok (.iconst 0, 1) := by decide +kernel
theorem dX8_copy_155 : decode cX8_copy 155 = .ok (.istore 6, 2) := by decide +kernel
theorem dX8_copy_157 : decode cX8_copy 157 = .ok (.iload 6, 2) := by decide +kernel
theorem dX8_copy_159 : decode cX8_copy 159 = .ok (.iload 5, 2) := by decide +kernel
theorem dX8_copy_161 : decode cX8_copy 161 = .ok (.if_icmp .ge 31, 3) := by decide +kernel
theorem dX8_copy_164 : decode cX8_copy 164 = .ok (.aload_n 0, 1) := by decide +kernel
theorem dX8_copy_165 : decode cX8_copy 165 = .ok (.getfield 16, 3) := by decide +kernel
theorem dX8_copy_168 : decode cX8_copy 168 = .ok (.bipush 64, 2) := by decide +kernel
theorem dX8_copy_170 : decode cX8_copy 170 = .ok (.iload_n 3, 1) := by decide +kernel
theorem dX8_copy_171 : decode cX8_copy 171 = .ok (.imul, 1) := by decide +kernel
theorem dX8_copy_172 : decode cX8_copy 172 = .ok (.iload 4, 2) := by decide +kernel
theorem dX8_copy_174 : decode cX8_copy 174 = .ok (.iadd, 1) := by decide +kernel
theorem dX8_copy_175 : decode cX8_copy 175 = .ok (.iload 6, 2) := by decide +kernel
theorem dX8_copy_177 : decode cX8_copy 177 = .ok (.iadd, 1) := by decide +kernel
theorem dX8_copy_178 : decode cX8_copy 178 = .ok (.aload_n 0, 1) := by decide +kernel
theorem dX8_copy_179 : decode cX8_copy 179 = .ok (.getfield 19, 3) := by decide +kernel
theorem dX8_copy_182 : decode cX8_copy 182 = .ok (.iload 6, 2) := by decide +kernel
theorem dX8_copy_184 : decode cX8_copy 184 = .ok (.iaload, 1) := by decide +kernel
theorem dX8_copy_185 : decode cX8_copy 185 = .ok (.iastore, 1) := by decide +kernel
theorem dX8_copy_186 : decode cX8_copy 186 = .ok (.iinc 6 1, 3) := by decide +kernel
theorem dX8_copy_189 : decode cX8_copy 189 = .ok (.goto (-32), 3) := by decide +kernel
theorem dX8_copy_192 : decode cX8_copy 192 = .ok (.iconst 1, 1) := by decide +kernel
theorem dX8_copy_193 : decode cX8_copy 193 = .ok (.ireturn, 1) := by decide +kernel
theorem dX8_type_0 : decode cX8_type 0 = .ok (.iload_n 1, 1) := by decide +kernel
theorem dX8_type_1 : decode cX8_type 1 = .ok (.i2l, 1) := by decide +kernel
theorem dX8_type_2 : decode cX8_type 2 = .ok (.lconst 0, 1) := by decide +kernel
theorem dX8_type_3 : decode cX8_type 3 = .ok (.ldc2_w 110, 3) := by decide +kernel
theorem dX8_type_6 : decode cX8_type 6 = .ok (.invokestatic 80, 3) := by decide +kernel
theorem dX8_type_9 : decode cX8_type 9 = .ok (.ifCond .ne 6, 3) := by decide +kernel
theorem dX8_type_12 : decode cX8_type 12 = .ok (.bipush (-2), 2) := by decide +kernel
theorem dX8_type_14 : decode cX8_type 14 = .ok (.ireturn, 1) := by decide +kernel
theorem dX8_type_15 : decode cX8_type 15 = .ok (.aload_n 0, 1) := by decide +kernel
theorem dX8_type_16 : decode cX8_type 16 = .ok (.getfield 112, 3) := by decide +kernel
theorem dX8_type_19 : decode cX8_type 19 = .ok (.bipush 75, 2) := by decide +kernel
theorem dX8_type_21 : decode cX8_type 21 = .ok (.if_icmp .ne 6, 3) := by decide +kernel
theorem dX8_type_24 : decode cX8_type 24 = .ok (.bipush (-4), 2) := by decide +kernel
theorem dX8_type_26 : decode cX8_type 26 = .ok (.ireturn, 1) := by decide +kernel
theorem dX8_type_27 : decode cX8_type 27 = .ok (.aload_n 0, 1) := by decide +kernel
theorem dX8_type_28 : decode cX8_type 28 = .ok (.getfield 22, 3) := by decide +kernel
theorem dX8_type_31 : decode cX8_type 31 = .ok (.aload_n 0, 1) := by decide +kernel
theorem dX8_type_32 : decode cX8_type 32 = .ok (.getfield 112, 3) := by decide +kernel
theorem dX8_type_35 : decode cX8_type 35 = .ok (.iload_n 1, 1) := by decide +kernel
theorem dX8_type_36 : decode cX8_type 36 = .ok (.iastore, 1) := by decide +kernel
theorem dX8_type_37 : decode cX8_type 37 = .ok (.aload_n 0, 1) := by decide +kernel
theorem dX8_type_38 : decode cX8_type 38 = .ok (.dup, 1) := by decide +kernel
theorem dX8_type_39 : decode cX8_type 39 = .ok (.getfield 112, 3) := by decide +kernel
theorem dX8_type_42 : decode cX8_type 42 = .ok (.iconst 1, 1) := by decide +kernel
theorem dX8_type_43 : decode cX8_type 43 = .ok (.iadd, 1) := by decide +kernel
theorem dX8_type_44 : decode cX8_type 44 = .ok (.putfield 112, 3) := by decide +kernel
theorem dX8_type_47 : decode cX8_type 47 = .ok (.aload_n 0, 1) := by decide +kernel
theorem dX8_type_48 : decode cX8_type 48 = .ok (.getfield 112, 3) := by decide +kernel
theorem dX8_type_51 : decode cX8_type 51 = .ok (.ireturn, 1) := by decide +kernel
theorem dX8_wipe_0 : decode cX8_wipe 0 = .ok (.aload_n 0, 1) := by decide +kernel
theorem dX8_wipe_1 : decode cX8_wipe 1 = .ok (.getfield 112, 3) := by decide +kernel
theorem dX8_wipe_4 : decode cX8_wipe 4 = .ok (.istore_n 1, 1) := by decide +kernel
theorem dX8_wipe_5 : decode cX8_wipe 5 = .ok (.aload_n 0, 1) := by decide +kernel
theorem dX8_wipe_6 : decode cX8_wipe 6 = .ok (.iconst 0, 1) := by decide +kernel
theorem dX8_wipe_7 : decode cX8_wipe 7 = .ok (.putfield 112, 3) := by decide +kernel
theorem dX8_wipe_10 : decode cX8_wipe 10 = .ok (.iload_n 1, 1) := by decide +kernel
theorem dX8_wipe_11 : decode cX8_wipe 11 = .ok (.ireturn, 1) := by decide +kernel
theorem dX8_kindOf_0 : decode cX8_kindOf 0 = .ok (.iload_n 0, 1) := by decide +kernel
theorem dX8_kindOf_1 : decode cX8_kindOf 1 = .ok (.bipush 46, 2) := by decide +kernel
theorem dX8_kindOf_3 : decode cX8_kindOf 3 = .ok (.if_icmp .ne 7, 3) := by decide +kernel
theorem dX8_kindOf_6 : decode cX8_kindOf 6 = .ok (.iconst 0, 1) := by decide +kernel
theorem dX8_kindOf_7 : decode cX8_kindOf 7 = .ok (.goto 24, 3) := by decide +kernel
theorem dX8_kindOf_10 : decode cX8_kindOf 10 = .ok (.iload_n 0, 1) := by decide +kernel
theorem dX8_kindOf_11 : decode cX8_kindOf 11 = .ok (.bipush 35, 2) := by decide +kernel
theorem dX8_kindOf_13 : decode cX8_kindOf 13 = .ok (.if_icmp .ne 7, 3) := by decide +kernel
theorem dX8_kindOf_16 : decode cX8_kindOf 16 = .ok (.iconst 1, 1) := by decide +kernel
theorem dX8_kindOf_17 : decode cX8_kindOf 17 = .ok (.goto 14, 3) := by decide +kernel
theorem dX8_kindOf_20 : decode cX8_kindOf 20 = .ok (.iload_n 0, 1) := by decide +kernel
theorem dX8_kindOf_21 : decode cX8_kindOf 21 = .ok (.bipush 111, 2) := by decide +kernel
theorem dX8_kindOf_23 : decode cX8_kindOf 23 = .ok (.if_icmp .ne 7, 3) := by decide +kernel
theorem dX8_kindOf_26 : decode cX8_kindOf 26 = .ok (.iconst 2, 1) := by decide +kernel
theorem dX8_kindOf_27 : decode cX8_kindOf 27 = .ok (.goto 4, 3) := by decide +kernel
theorem dX8_kindOf_30 : decode cX8_kindOf 30 = .ok (.iconst (-1), 1) := by decide +kernel
theorem dX8_kindOf_31 : decode cX8_kindOf 31 = .ok (.ireturn, 1) := by decide +kernel
theorem dX8_faultNow_0 : decode cX8_faultNow 0 = .ok (.iconst 0, 1) := by decide +kernel
theorem dX8_faultNow_1 : decode cX8_faultNow 1 = .ok (.istore_n 1, 1) := by decide +kernel
theorem dX8_faultNow_2 : decode cX8_faultNow 2 = .ok (.iload_n 1, 1) := by decide +kernel
theorem dX8_faultNow_3 : decode cX8_faultNow 3 = .ok (.bipush 71, 2) := by decide +kernel
theorem dX8_faultNow_5 : decode cX8_faultNow 5 = .ok (.if_icmp .ge 55, 3) := by decide +kernel
theorem dX8_faultNow_8 : decode cX8_faultNow 8 = .ok (.iload_n 1, 1) := by decide +kernel
theorem dX8_faultNow_9 : decode cX8_faultNow 9 = .ok (.aload_n 0, 1) := by decide +kernel
theorem dX8_faultNow_10 : decode cX8_faultNow 10 = .ok (.getfield 112, 3) := by decide +kernel
theorem dX8_faultNow_13 : decode cX8_faultNow 13 = .ok (.if_icmp .ge 39, 3) := by decide +kernel
theorem dX8_faultNow_16 : decode cX8_faultNow 16 = .ok (.iload_n 1, 1) := by decide +kernel
theorem dX8_faultNow_17 : decode cX8_faultNow 17 = .ok (.bipush 9, 2) := by decide +kernel
theorem dX8_faultNow_19 : decode cX8_faultNow 19 = .ok (.irem, 1) := by decide +kernel
theorem dX8_faultNow_20 : decode cX8_faultNow 20 = .ok (.bipush 8, 2) := by decide +kernel
theorem dX8_faultNow_22 : decode cX8_faultNow 22 = .ok (.if_icmp .ne 17, 3) := by decide +kernel
theorem dX8_faultNow_25 : decode cX8_faultNow 25 = .ok (.aload_n 0, 1) := by decide +kernel
theorem dX8_faultNow_26 : decode cX8_faultNow 26 = .ok (.getfield 22, 3) := by decide +kernel
theorem dX8_faultNow_29 : decode cX8_faultNow 29 = .ok (.iload_n 1, 1) := by decide +kernel
theorem dX8_faultNow_30 : decode cX8_faultNow 30 = .ok (.iaload, 1) := by decide +kernel
theorem dX8_faultNow_31 : decode cX8_faultNow 31 = .ok (.bipush 59, 2) := by decide +kernel
theorem dX8_faultNow_33 : decode cX8_faultNow 33 = .ok (.if_icmp .eq 21, 3) := by decide +kernel
theorem dX8_faultNow_36 : decode cX8_faultNow 36 = .ok (.goto 16, 3) := by decide +kernel
theorem dX8_faultNow_39 : decode cX8_faultNow 39 = .ok (.aload_n 0, 1) := by decide +kernel
theorem dX8_faultNow_40 : decode cX8_faultNow 40 = .ok (.getfield 22, 3) := by decide +kernel
theorem dX8_faultNow_43 : decode cX8_faultNow 43 = .ok (.iload_n 1, 1) := by decide +kernel
theorem dX8_faultNow_44 : decode cX8_faultNow 44 = .ok (.iaload, 1) := by decide +kernel
theorem dX8_faultNow_45 : decode cX8_faultNow 45 = .ok (.invokestatic 115, 3) := by decide +kernel
theorem dX8_faultNow_48 : decode cX8_faultNow 48 = .ok (.iconst (-1), 1) := by decide +kernel
theorem dX8_faultNow_49 : decode cX8_faultNow 49 = .ok (.if_icmp .ne 5, 3) := by decide +kernel
theorem dX8_faultNow_52 : decode cX8_faultNow 52 = .ok (.iload_n 1, 1) := by decide +kernel
theorem dX8_faultNow_53 : decode cX8_faultNow 53 = .ok (.ireturn, 1) := by decide +kernel
theorem dX8_faultNow_54 : decode cX8_faultNow 54 = .ok (.iinc 1 1, 3) := by decide +kernel
theorem dX8_faultNow_57 : decode cX8_faultNow 57 = .ok (.goto (-55), 3) := by decide +kernel
theorem dX8_faultNow_60 : decode cX8_faultNow 60 = .ok (.aload_n 0, 1) := by decide +kernel
theorem dX8_faultNow_61 : decode cX8_faultNow 61 = .ok (.getfield 112, 3) := by decide +kernel
theorem dX8_faultNow_64 : decode cX8_faultNow 64 = .ok (.bipush 71, 2) := by decide +kernel
theorem dX8_faultNow_66 : decode cX8_faultNow 66 = .ok (.if_icmp .le 8, 3) := by decide +kernel
theorem dX8_faultNow_69 : decode cX8_faultNow 69 = .ok (.bipush 71, 2) := by decide +kernel
theorem dX8_faultNow_71 : decode cX8_faultNow 71 = .ok (.goto 4, 3) := by decide +kernel
theorem dX8_faultNow_74 : decode cX8_faultNow 74 = .ok (.iconst (-1), 1) := by decide +kernel
theorem dX8_faultNow_75 : decode cX8_faultNow 75 = .ok (.ireturn, 1) := by decide +kernel
theorem dX8_reads_0 : decode cX8_reads 0 = .ok (.aload_n 0, 1) := by decide +kernel
theorem dX8_reads_1 : decode cX8_reads 1 = .ok (.invokevirtual 118, 3) := by decide +kernel
theorem dX8_reads_4 : decode cX8_reads 4 = .ok (.istore_n 1, 1) := by decide +kernel
theorem dX8_reads_5 : decode cX8_reads 5 = .ok (.iconst 0, 1) := by decide +kernel
theorem dX8_reads_6 : decode cX8_reads 6 = .ok (.istore_n 2, 1) := by decide +kernel
theorem dX8_reads_7 : decode cX8_reads 7 = .ok (.iload_n 2, 1) := by decide +kernel
theorem dX8_reads_8 : decode cX8_reads 8 = .ok (.bipush 64, 2) := by decide +kernel
theorem dX8_reads_10 : decode cX8_reads 10 = .ok (.if_icmp .ge 44, 3) := by decide +kernel
theorem dX8_reads_13 : decode cX8_reads 13 = .ok (.aload_n 0, 1) := by decide +kernel
theorem dX8_reads_14 : decode cX8_reads 14 = .ok (.getfield 25, 3) := by decide +kernel
theorem dX8_reads_17 : decode cX8_reads 17 = .ok (.iload_n 2, 1) := by decide +kernel
theorem dX8_reads_18 : decode cX8_reads 18 = .ok (.iload_n 1, 1) := by decide +kernel
theorem dX8_reads_19 : decode cX8_reads 19 = .ok (.iconst (-1), 1) := by decide +kernel
theorem dX8_reads_20 : decode cX8_reads 20 = .ok (.if_icmp .ne 26, 3) := by decide +kernel
theorem dX8_reads_23 : decode cX8_reads 23 = .ok (.aload_n 0, 1) := by decide +kernel
theorem dX8_reads_24 : decode cX8_reads 24 = .ok (.getfield 22, 3) := by decide +kernel
theorem dX8_reads_27 : decode cX8_reads 27 = .ok (.bipush 9, 2) := by decide +kernel
theorem dX8_reads_29 : decode cX8_reads 29 = .ok (.iload_n 2, 1) := by decide +kernel
theorem dX8_reads_30 : decode cX8_reads 30 = .ok (.bipush 8, 2) := by decide +kernel
theorem dX8_reads_32 : decode cX8_reads 32 = .ok (.idiv, 1) := by decide +kernel
theorem dX8_reads_33 : decode cX8_reads 33 = .ok (.imul, 1) := by decide +kernel
theorem dX8_reads_34 : decode cX8_reads 34 = .ok (.iload_n 2, 1) := by decide +kernel
theorem dX8_reads_35 : decode cX8_reads 35 = .ok (.bipush 8, 2) := by decide +kernel
theorem dX8_reads_37 : decode cX8_reads 37 = .ok (.irem, 1) := by decide +kernel
theorem dX8_reads_38 : decode cX8_reads 38 = .ok (.iadd, 1) := by decide +kernel
theorem dX8_reads_39 : decode cX8_reads 39 = .ok (.iaload, 1) := by decide +kernel
theorem dX8_reads_40 : decode cX8_reads 40 = .ok (.invokestatic 115, 3) := by decide +kernel
theorem dX8_reads_43 : decode cX8_reads 43 = .ok (.goto 4, 3) := by decide +kernel
theorem dX8_reads_46 : decode cX8_reads 46 = .ok (.iconst 0, 1) := by decide +kernel
theorem dX8_reads_47 : decode cX8_reads 47 = .ok (.iastore, 1) := by decide +kernel
theorem dX8_reads_48 : decode cX8_reads 48 = .ok (.iinc 2 1, 3) := by decide +kernel
theorem dX8_reads_51 : decode cX8_reads 51 = .ok (.goto (-44), 3) := by decide +kernel
theorem dX8_reads_54 : decode cX8_reads 54 = .ok (.iload_n 1, 1) := by decide +kernel
theorem dX8_reads_55 : decode cX8_reads 55 = .ok (.ireturn, 1) := by decide +kernel
theorem dX8_fault_0 : decode cX8_fault 0 = .ok (.aload_n 0, 1) := by decide +kernel
theorem dX8_fault_1 : decode cX8_fault 1 = .ok (.invokevirtual 122, 3) := by decide +kernel
theorem dX8_fault_4 : decode cX8_fault 4 = .ok (.ireturn, 1) := by decide +kernel
theorem dX8_cellOf_0 : decode cX8_cellOf 0 = .ok (.aload_n 0, 1) := by decide +kernel
theorem dX8_cellOf_1 : decode cX8_cellOf 1 = .ok (.invokevirtual 122, 3) := by decide +kernel
theorem dX8_cellOf_4 : decode cX8_cellOf 4 = .ok (.pop, 1) := by decide +kernel
theorem dX8_cellOf_5 : decode cX8_cellOf 5 = .ok (.iload_n 2, 1) := by decide +kernel
theorem dX8_cellOf_6 : decode cX8_cellOf 6 = .ok (.ifCond .ne 12, 3) := by decide +kernel
theorem dX8_cellOf_9 : decode cX8_cellOf 9 = .ok (.aload_n 0, 1) := by decide +kernel
theorem dX8_cellOf_10 : decode cX8_cellOf 10 = .ok (.getfield 25, 3) := by decide +kernel
theorem dX8_cellOf_13 : decode cX8_cellOf 13 = .ok (.iload_n 1, 1) := by decide +kernel
theorem dX8_cellOf_14 : decode cX8_cellOf 14 = .ok (.iaload, 1) := by decide +kernel
theorem dX8_cellOf_15 : decode cX8_cellOf 15 = .ok (.goto 51, 3) := by decide +kernel
theorem dX8_cellOf_18 : decode cX8_cellOf 18 = .ok (.iload_n 2, 1) := by decide +kernel
theorem dX8_cellOf_19 : decode cX8_cellOf 19 = .ok (.iconst 1, 1) := by decide +kernel
theorem dX8_cellOf_20 : decode cX8_cellOf 20 = .ok (.if_icmp .ne 12, 3) := by decide +kernel
theorem dX8_cellOf_23 : decode cX8_cellOf 23 = .ok (.aload_n 0, 1) := by decide +kernel
theorem dX8_cellOf_24 : decode cX8_cellOf 24 = .ok (.getfield 28, 3) := by decide +kernel
theorem dX8_cellOf_27 : decode cX8_cellOf 27 = .ok (.iload_n 1, 1) := by decide +kernel
theorem dX8_cellOf_28 : decode cX8_cellOf 28 = .ok (.iaload, 1) := by decide +kernel
theorem dX8_cellOf_29 : decode cX8_cellOf 29 = .ok (.goto 37, 3) := by decide +kernel
theorem dX8_cellOf_32 : decode cX8_cellOf 32 = .ok (.iload_n 2, 1) := by decide +kernel
theorem dX8_cellOf_33 : decode cX8_cellOf 33 = .ok (.iconst 2, 1) := by decide +kernel
theorem dX8_cellOf_34 : decode cX8_cellOf 34 = .ok (.if_icmp .ne 12, 3) := by decide +kernel
theorem dX8_cellOf_37 : decode cX8_cellOf 37 = .ok (.aload_n 0, 1) := by decide +kernel
theorem dX8_cellOf_38 : decode cX8_cellOf 38 = .ok (.getfield 31, 3) := by decide +kernel
theorem dX8_cellOf_41 : decode cX8_cellOf 41 = .ok (.iload_n 1, 1) := by decide +kernel
theorem dX8_cellOf_42 : decode cX8_cellOf 42 = .ok (.iaload, 1) := by decide +kernel
theorem dX8_cellOf_43 : decode cX8_cellOf 43 = .ok (.goto 23, 3) := by decide +kernel
theorem dX8_cellOf_46 : decode cX8_cellOf 46 = .ok (.iload_n 2, 1) := by decide +kernel
theorem dX8_cellOf_47 : decode cX8_cellOf 47 = .ok (.iconst 3, 1) := by decide +kernel
theorem dX8_cellOf_48 : decode cX8_cellOf 48 = .ok (.if_icmp .ne 12, 3) := by decide +kernel
theorem dX8_cellOf_51 : decode cX8_cellOf 51 = .ok (.aload_n 0, 1) := by decide +kernel
theorem dX8_cellOf_52 : decode cX8_cellOf 52 = .ok (.getfield 34, 3) := by decide +kernel
theorem dX8_cellOf_55 : decode cX8_cellOf 55 = .ok (.iload_n 1, 1) := by decide +kernel
theorem dX8_cellOf_56 : decode cX8_cellOf 56 = .ok (.iaload, 1) := by decide +kernel
theorem dX8_cellOf_57 : decode cX8_cellOf 57 = .ok (.goto 9, 3) := by decide +kernel
theorem dX8_cellOf_60 : decode cX8_cellOf 60 = .ok (.aload_n 0, 1) := by decide +kernel
theorem dX8_cellOf_61 : decode cX8_cellOf 61 = .ok (.getfield 37, 3) := by decide +kernel
theorem dX8_cellOf_64 : decode cX8_cellOf 64 = .ok (.iload_n 1, 1) := by decide +kernel
theorem dX8_cellOf_65 : decode cX8_cellOf 65 = .ok (.iaload, 1) := by decide +kernel
theorem dX8_cellOf_66 : decode cX8_cellOf 66 = .ok (.ireturn, 1) := by decide +kernel
theorem dX8_cell_0 : decode cX8_cell 0 = .ok (.iload_n 1, 1) := by decide +kernel
theorem dX8_cell_1 : decode cX8_cell 1 = .ok (.invokestatic 125, 3) := by decide +kernel
theorem dX8_cell_4 : decode cX8_cell 4 = .ok (.ifCond .eq 24, 3) := by decide +kernel
theorem dX8_cell_7 : decode cX8_cell 7 = .ok (.iload_n 2, 1) := by decide +kernel
theorem dX8_cell_8 : decode cX8_cell 8 = .ok (.i2l, 1) := by decide +kernel
theorem dX8_cell_9 : decode cX8_cell 9 = .ok (.lconst 0, 1) := by decide +kernel
theorem dX8_cell_10 : decode cX8_cell 10 = .ok (.ldc2_w 128, 3) := by decide +kernel
theorem dX8_cell_13 : decode cX8_cell 13 = .ok (.invokestatic 80, 3) := by decide +kernel
theorem dX8_cell_16 : decode cX8_cell 16 = .ok (.ifCond .eq 12, 3) := by decide +kernel
theorem dX8_cell_19 : decode cX8_cell 19 = .ok (.aload_n 0, 1) := by decide +kernel
theorem dX8_cell_20 : decode cX8_cell 20 = .ok (.iload_n 1, 1) := by decide +kernel
theorem dX8_cell_21 : decode cX8_cell 21 = .ok (.iload_n 2, 1) := by decide +kernel
theorem dX8_cell_22 : decode cX8_cell 22 = .ok (.invokevirtual 130, 3) := by decide +kernel
theorem dX8_cell_25 : decode cX8_cell 25 = .ok (.goto 5, 3) := by decide +kernel
theorem dX8_cell_28 : decode cX8_cell 28 = .ok (.bipush (-2), 2) := by decide +kernel
theorem dX8_cell_30 : decode cX8_cell 30 = .ok (.ireturn, 1) := by decide +kernel
theorem dX8_least_0 : decode cX8_least 0 = .ok (.iload_n 0, 1) := by decide +kernel
theorem dX8_least_1 : decode cX8_least 1 = .ok (.iload_n 1, 1) := by decide +kernel
theorem dX8_least_2 : decode cX8_least 2 = .ok (.if_icmp .ge 7, 3) := by decide +kernel
theorem dX8_least_5 : decode cX8_least 5 = .ok (.iload_n 0, 1) := by decide +kernel
theorem dX8_least_6 : decode cX8_least 6 = .ok (.goto 4, 3) := by decide +kernel
theorem dX8_least_9 : decode cX8_least 9 = .ok (.iload_n 1, 1) := by decide +kernel
theorem dX8_least_10 : decode cX8_least 10 = .ok (.ireturn, 1) := by decide +kernel
theorem dX8_snows_0 : decode cX8_snows 0 = .ok (.iload_n 1, 1) := by decide +kernel
theorem dX8_snows_1 : decode cX8_snows 1 = .ok (.i2l, 1) := by decide +kernel
theorem dX8_snows_2 : decode cX8_snows 2 = .ok (.lconst 0, 1) := by decide +kernel
theorem dX8_snows_3 : decode cX8_snows 3 = .ok (.ldc2_w 133, 3) := by decide +kernel
theorem dX8_snows_6 : decode cX8_snows 6 = .ok (.invokestatic 80, 3) := by decide +kernel
theorem dX8_snows_9 : decode cX8_snows 9 = .ok (.ifCond .ne 6, 3) := by decide +kernel
theorem dX8_snows_12 : decode cX8_snows 12 = .ok (.bipush (-2), 2) := by decide +kernel
theorem dX8_snows_14 : decode cX8_snows 14 = .ok (.ireturn, 1) := by decide +kernel
theorem dX8_snows_15 : decode cX8_snows 15 = .ok (.aload_n 0, 1) := by decide +kernel
theorem dX8_snows_16 : decode cX8_snows 16 = .ok (.invokevirtual 122, 3) := by decide +kernel
theorem dX8_snows_19 : decode cX8_snows 19 = .ok (.pop, 1) := by decide +kernel
theorem dX8_snows_20 : decode cX8_snows 20 = .ok (.iconst 0, 1) := by decide +kernel
theorem dX8_snows_21 : decode cX8_snows 21 = .ok (.istore_n 2, 1) := by decide +kernel
theorem dX8_snows_22 : decode cX8_snows 22 = .ok (.iconst 0, 1) := by decide +kernel
theorem dX8_snows_23 : decode cX8_snows 23 = .ok (.istore_n 3, 1) := by decide +kernel
theorem dX8_snows_24 : decode cX8_snows 24 = .ok (.iload_n 3, 1) := by decide +kernel
theorem dX8_snows_25 : decode cX8_snows 25 = .ok (.bipush 64, 2) := by decide +kernel
theorem dX8_snows_27 : decode cX8_snows 27 = .ok (.if_icmp .ge 61, 3) := by decide +kernel
theorem dX8_snows_30 : decode cX8_snows 30 = .ok (.aload_n 0, 1) := by decide +kernel
theorem dX8_snows_31 : decode cX8_snows 31 = .ok (.getfield 25, 3) := by decide +kernel
theorem dX8_snows_34 : decode cX8_snows 34 = .ok (.iload_n 3, 1) := by decide +kernel
theorem dX8_snows_35 : decode cX8_snows 35 = .ok (.iaload, 1) := by decide +kernel
theorem dX8_snows_36 : decode cX8_snows 36 = .ok (.iconst 1, 1) := by decide +kernel
theorem dX8_snows_37 : decode cX8_snows 37 = .ok (.if_icmp .eq 45, 3) := by decide +kernel
theorem dX8_snows_40 : decode cX8_snows 40 = .ok (.aload_n 0, 1) := by decide +kernel
theorem dX8_snows_41 : decode cX8_snows 41 = .ok (.getfield 28, 3) := by decide +kernel
theorem dX8_snows_44 : decode cX8_snows 44 = .ok (.iload_n 3, 1) := by decide +kernel
theorem dX8_snows_45 : decode cX8_snows 45 = .ok (.iaload, 1) := by decide +kernel
theorem dX8_snows_46 : decode cX8_snows 46 = .ok (.iload_n 1, 1) := by decide +kernel
theorem dX8_snows_47 : decode cX8_snows 47 = .ok (.iadd, 1) := by decide +kernel
theorem dX8_snows_48 : decode cX8_snows 48 = .ok (.bipush 30, 2) := by decide +kernel
theorem dX8_snows_50 : decode cX8_snows 50 = .ok (.invokestatic 135, 3) := by decide +kernel
theorem dX8_snows_53 : decode cX8_snows 53 = .ok (.istore 4, 2) := by decide +kernel
theorem dX8_snows_55 : decode cX8_snows 55 = .ok (.iload_n 2, 1) := by decide +kernel
theorem dX8_snows_56 : decode cX8_snows 56 = .ok (.iload 4, 2) := by decide +kernel
theorem dX8_snows_58 : decode cX8_snows 58 = .ok (.aload_n 0, 1) := by decide +kernel
theorem dX8_snows_59 : decode cX8_snows 59 = .ok (.getfield 28, 3) := by decide +kernel
theorem dX8_snows_62 : decode cX8_snows 62 = .ok (.iload_n 3, 1) := by decide +kernel
theorem dX8_snows_63 : decode cX8_snows 63 = .ok (.iaload, 1) := by decide +kernel
theorem dX8_snows_64 : decode cX8_snows 64 = .ok (.if_icmp .le 7, 3) := by decide +kernel
theorem dX8_snows_67 : decode cX8_snows 67 = .ok (.iconst 1, 1) := by decide +kernel
theorem dX8_snows_68 : decode cX8_snows 68 = .ok (.goto 4, 3) := by decide +kernel
theorem dX8_snows_71 : decode cX8_snows 71 = .ok (.iconst 0, 1) := by decide +kernel
theorem dX8_snows_72 : decode cX8_snows 72 = .ok (.iadd, 1) := by decide +kernel
theorem dX8_snows_73 : decode cX8_snows 73 = .ok (.istore_n 2, 1) := by decide +kernel
theorem dX8_snows_74 : decode cX8_snows 74 = .ok (.aload_n 0, 1) := by decide +kernel
theorem dX8_snows_75 : decode cX8_snows 75 = .ok (.getfield 28, 3) := by decide +kernel
theorem dX8_snows_78 : decode cX8_snows 78 = .ok (.iload_n 3, 1) := by decide +kernel
theorem dX8_snows_79 : decode cX8_snows 79 = .ok (.iload 4, 2) := by decide +kernel
theorem dX8_snows_81 : decode cX8_snows 81 = .ok (.iastore, 1) := by decide +kernel
theorem dX8_snows_82 : decode cX8_snows 82 = .ok (.iinc 3 1, 3) := by decide +kernel
theorem dX8_snows_85 : decode cX8_snows 85 = .ok (.goto (-61), 3) := by decide +kernel
theorem dX8_snows_88 : decode cX8_snows 88 = .ok (.iload_n 2, 1) := by decide +kernel
theorem dX8_snows_89 : decode cX8_snows 89 = .ok (.ireturn, 1) := by decide +kernel
theorem dX8_less_0 : decode cX8_less 0 = .ok (.iload_n 0, 1) := by decide +kernel
theorem dX8_less_1 : decode cX8_less 1 = .ok (.iload_n 1, 1) := by decide +kernel
theorem dX8_less_2 : decode cX8_less 2 = .ok (.if_icmp .le 9, 3) := by decide +kernel
theorem dX8_less_5 : decode cX8_less 5 = .ok (.iload_n 0, 1) := by decide +kernel
theorem dX8_less_6 : decode cX8_less 6 = .ok (.iload_n 1, 1) := by decide +kernel
theorem dX8_less_7 : decode cX8_less 7 = .ok (.isub, 1) := by decide +kernel
theorem dX8_less_8 : decode cX8_less 8 = .ok (.goto 4, 3) := by decide +kernel
theorem dX8_less_11 : decode cX8_less 11 = .ok (.iconst 0, 1) := by decide +kernel
theorem dX8_less_12 : decode cX8_less 12 = .ok (.ireturn, 1) := by decide +kernel
theorem dX8_thaws_0 : decode cX8_thaws 0 = .ok (.iload_n 1, 1) := by decide +kernel
theorem dX8_thaws_1 : decode cX8_thaws 1 = .ok (.i2l, 1) := by decide +kernel
theorem dX8_thaws_2 : decode cX8_thaws 2 = .ok (.lconst 0, 1) := by decide +kernel
theorem dX8_thaws_3 : decode cX8_thaws 3 = .ok (.ldc2_w 133, 3) := by decide +kernel
theorem dX8_thaws_6 : decode cX8_thaws 6 = .ok (.invokestatic 80, 3) := by decide +kernel
theorem dX8_thaws_9 : decode cX8_thaws 9 = .ok (.ifCond .ne 6, 3) := by decide +kernel
theorem dX8_thaws_12 : decode cX8_thaws 12 = .ok (.bipush (-2), 2) := by decide +kernel
theorem dX8_thaws_14 : decode cX8_thaws 14 = .ok (.ireturn, 1) := by decide +kernel
theorem dX8_thaws_15 : decode cX8_thaws 15 = .ok (.iconst 0, 1) := by decide +kernel
theorem dX8_thaws_16 : decode cX8_thaws 16 = .ok (.istore_n 2, 1) := by decide +kernel
theorem dX8_thaws_17 : decode cX8_thaws 17 = .ok (.iconst 0, 1) := by decide +kernel
theorem dX8_thaws_18 : decode cX8_thaws 18 = .ok (.istore_n 3, 1) := by decide +kernel
theorem dX8_thaws_19 : decode cX8_thaws 19 = .ok (.iload_n 3, 1) := by decide +kernel
theorem dX8_thaws_20 : decode cX8_thaws 20 = .ok (.bipush 64, 2) := by decide +kernel
theorem dX8_thaws_22 : decode cX8_thaws 22 = .ok (.if_icmp .ge 92, 3) := by decide +kernel
theorem dX8_thaws_25 : decode cX8_thaws 25 = .ok (.iload_n 2, 1) := by decide +kernel
theorem dX8_thaws_26 : decode cX8_thaws 26 = .ok (.iload_n 1, 1) := by decide +kernel
theorem dX8_thaws_27 : decode cX8_thaws 27 = .ok (.ifCond .le 30, 3) := by decide +kernel
theorem dX8_thaws_30 : decode cX8_thaws 30 = .ok (.aload_n 0, 1) := by decide +kernel
theorem dX8_thaws_31 : decode cX8_thaws 31 = .ok (.getfield 28, 3) := by decide +kernel
theorem dX8_thaws_34 : decode cX8_thaws 34 = .ok (.iload_n 3, 1) := by decide +kernel
theorem dX8_thaws_35 : decode cX8_thaws 35 = .ok (.iaload, 1) := by decide +kernel
theorem dX8_thaws_36 : decode cX8_thaws 36 = .ok (.aload_n 0, 1) := by decide +kernel
theorem dX8_thaws_37 : decode cX8_thaws 37 = .ok (.getfield 31, 3) := by decide +kernel
theorem dX8_thaws_40 : decode cX8_thaws 40 = .ok (.iload_n 3, 1) := by decide +kernel
theorem dX8_thaws_41 : decode cX8_thaws 41 = .ok (.iaload, 1) := by decide +kernel
theorem dX8_thaws_42 : decode cX8_thaws 42 = .ok (.iadd, 1) := by decide +kernel
theorem dX8_thaws_43 : decode cX8_thaws 43 = .ok (.aload_n 0, 1) := by decide +kernel
theorem dX8_thaws_44 : decode cX8_thaws 44 = .ok (.getfield 34, 3) := by decide +kernel
theorem dX8_thaws_47 : decode cX8_thaws 47 = .ok (.iload_n 3, 1) := by decide +kernel
theorem dX8_thaws_48 : decode cX8_thaws 48 = .ok (.iaload, 1) := by decide +kernel
theorem dX8_thaws_49 : decode cX8_thaws 49 = .ok (.iadd, 1) := by decide +kernel
theorem dX8_thaws_50 : decode cX8_thaws 50 = .ok (.ifCond .le 7, 3) := by decide +kernel
theorem dX8_thaws_53 : decode cX8_thaws 53 = .ok (.iconst 1, 1) := by decide +kernel
theorem dX8_thaws_54 : decode cX8_thaws 54 = .ok (.goto 4, 3) := by decide +kernel
theorem dX8_thaws_57 : decode cX8_thaws 57 = .ok (.iconst 0, 1) := by decide +kernel
theorem dX8_thaws_58 : decode cX8_thaws 58 = .ok (.iadd, 1) := by decide +kernel
theorem dX8_thaws_59 : decode cX8_thaws 59 = .ok (.istore_n 2, 1) := by decide +kernel
theorem dX8_thaws_60 : decode cX8_thaws 60 = .ok (.aload_n 0, 1) := by decide +kernel
theorem dX8_thaws_61 : decode cX8_thaws 61 = .ok (.getfield 28, 3) := by decide +kernel
theorem dX8_thaws_64 : decode cX8_thaws 64 = .ok (.iload_n 3, 1) := by decide +kernel
theorem dX8_thaws_65 : decode cX8_thaws 65 = .ok (.aload_n 0, 1) := by decide +kernel
theorem dX8_thaws_66 : decode cX8_thaws 66 = .ok (.getfield 28, 3) := by decide +kernel
theorem dX8_thaws_69 : decode cX8_thaws 69 = .ok (.iload_n 3, 1) := by decide +kernel
theorem dX8_thaws_70 : decode cX8_thaws 70 = .ok (.iaload, 1) := by decide +kernel
theorem dX8_thaws_71 : decode cX8_thaws 71 = .ok (.iload_n 1, 1) := by decide +kernel
theorem dX8_thaws_72 : decode cX8_thaws 72 = .ok (.invokestatic 138, 3) := by decide +kernel
theorem dX8_thaws_75 : decode cX8_thaws 75 = .ok (.iastore, 1) := by decide +kernel
theorem dX8_thaws_76 : decode cX8_thaws 76 = .ok (.aload_n 0, 1) := by decide +kernel
theorem dX8_thaws_77 : decode cX8_thaws 77 = .ok (.getfield 31, 3) := by decide +kernel
theorem dX8_thaws_80 : decode cX8_thaws 80 = .ok (.iload_n 3, 1) := by decide +kernel
theorem dX8_thaws_81 : decode cX8_thaws 81 = .ok (.aload_n 0, 1) := by decide +kernel
theorem dX8_thaws_82 : decode cX8_thaws 82 = .ok (.getfield 31, 3) := by decide +kernel
theorem dX8_thaws_85 : decode cX8_thaws 85 = .ok (.iload_n 3, 1) := by decide +kernel
theorem dX8_thaws_86 : decode cX8_thaws 86 = .ok (.iaload, 1) := by decide +kernel
theorem dX8_thaws_87 : decode cX8_thaws 87 = .ok (.iload_n 1, 1) := by decide +kernel
theorem dX8_thaws_88 : decode cX8_thaws 88 = .ok (.invokestatic 138, 3) := by decide +kernel
theorem dX8_thaws_91 : decode cX8_thaws 91 = .ok (.iastore, 1) := by decide +kernel
theorem dX8_thaws_92 : decode cX8_thaws 92 = .ok (.aload_n 0, 1) := by decide +kernel
theorem dX8_thaws_93 : decode cX8_thaws 93 = .ok (.getfield 34, 3) := by decide +kernel
theorem dX8_thaws_96 : decode cX8_thaws 96 = .ok (.iload_n 3, 1) := by decide +kernel
theorem dX8_thaws_97 : decode cX8_thaws 97 = .ok (.aload_n 0, 1) := by decide +kernel
theorem dX8_thaws_98 : decode cX8_thaws 98 = .ok (.getfield 34, 3) := by decide +kernel
theorem dX8_thaws_101 : decode cX8_thaws 101 = .ok (.iload_n 3, 1) := by decide +kernel
theorem dX8_thaws_102 : decode cX8_thaws 102 = .ok (.iaload, 1) := by decide +kernel
theorem dX8_thaws_103 : decode cX8_thaws 103 = .ok (.iload_n 1, 1) := by decide +kernel
theorem dX8_thaws_104 : decode cX8_thaws 104 = .ok (.invokestatic 138, 3) := by decide +kernel
theorem dX8_thaws_107 : decode cX8_thaws 107 = .ok (.iastore, 1) := by decide +kernel
theorem dX8_thaws_108 : decode cX8_thaws 108 = .ok (.iinc 3 1, 3) := by decide +kernel
theorem dX8_thaws_111 : decode cX8_thaws 111 = .ok (.goto (-92), 3) := by decide +kernel
theorem dX8_thaws_114 : decode cX8_thaws 114 = .ok (.iload_n 2, 1) := by decide +kernel
theorem dX8_thaws_115 : decode cX8_thaws 115 = .ok (.ireturn, 1) := by decide +kernel
theorem dX8_freezes_0 : decode cX8_freezes 0 = .ok (.iconst 0, 1) := by decide +kernel
theorem dX8_freezes_1 : decode cX8_freezes 1 = .ok (.istore_n 1, 1) := by decide +kernel
theorem dX8_freezes_2 : decode cX8_freezes 2 = .ok (.iconst 0, 1) := by decide +kernel
theorem dX8_freezes_3 : decode cX8_freezes 3 = .ok (.istore_n 2, 1) := by decide +kernel
theorem dX8_freezes_4 : decode cX8_freezes 4 = .ok (.iload_n 2, 1) := by decide +kernel
theorem dX8_freezes_5 : decode cX8_freezes 5 = .ok (.bipush 64, 2) := by decide +kernel
theorem dX8_freezes_7 : decode cX8_freezes 7 = .ok (.if_icmp .ge 38, 3) := by decide +kernel
theorem dX8_freezes_10 : decode cX8_freezes 10 = .ok (.aload_n 0, 1) := by decide +kernel
theorem dX8_freezes_11 : decode cX8_freezes 11 = .ok (.getfield 34, 3) := by decide +kernel
theorem dX8_freezes_14 : decode cX8_freezes 14 = .ok (.iload_n 2, 1) := by decide +kernel
theorem dX8_freezes_15 : decode cX8_freezes 15 = .ok (.aload_n 0, 1) := by decide +kernel
theorem dX8_freezes_16 : decode cX8_freezes 16 = .ok (.getfield 31, 3) := by decide +kernel
theorem dX8_freezes_19 : decode cX8_freezes 19 = .ok (.iload_n 2, 1) := by decide +kernel
theorem dX8_freezes_20 : decode cX8_freezes 20 = .ok (.iaload, 1) := by decide +kernel
theorem dX8_freezes_21 : decode cX8_freezes 21 = .ok (.iastore, 1) := by decide +kernel
theorem dX8_freezes_22 : decode cX8_freezes 22 = .ok (.iload_n 1, 1) := by decide +kernel
theorem dX8_freezes_23 : decode cX8_freezes 23 = .ok (.aload_n 0, 1) := by decide +kernel
theorem dX8_freezes_24 : decode cX8_freezes 24 = .ok (.getfield 34, 3) := by decide +kernel
theorem dX8_freezes_27 : decode cX8_freezes 27 = .ok (.iload_n 2, 1) := by decide +kernel
theorem dX8_freezes_28 : decode cX8_freezes 28 = .ok (.iaload, 1) := by decide +kernel
theorem dX8_freezes_29 : decode cX8_freezes 29 = .ok (.ifCond .le 7, 3) := by decide +kernel
theorem dX8_freezes_32 : decode cX8_freezes 32 = .ok (.iconst 1, 1) := by decide +kernel
theorem dX8_freezes_33 : decode cX8_freezes 33 = .ok (.goto 4, 3) := by decide +kernel
theorem dX8_freezes_36 : decode cX8_freezes 36 = .ok (.iconst 0, 1) := by decide +kernel
theorem dX8_freezes_37 : decode cX8_freezes 37 = .ok (.iadd, 1) := by decide +kernel
theorem dX8_freezes_38 : decode cX8_freezes 38 = .ok (.istore_n 1, 1) := by decide +kernel
theorem dX8_freezes_39 : decode cX8_freezes 39 = .ok (.iinc 2 1, 3) := by decide +kernel
theorem dX8_freezes_42 : decode cX8_freezes 42 = .ok (.goto (-38), 3) := by decide +kernel
theorem dX8_freezes_45 : decode cX8_freezes 45 = .ok (.iload_n 1, 1) := by decide +kernel
theorem dX8_freezes_46 : decode cX8_freezes 46 = .ok (.ireturn, 1) := by decide +kernel
theorem dX8_next_0 : decode cX8_next 0 = .ok (.iload_n 1, 1) := by decide +kernel
theorem dX8_next_1 : decode cX8_next 1 = .ok (.tableswitch 74 0 2 #[27, 42, 59], 27) := by decide +kernel
theorem dX8_next_28 : decode cX8_next 28 = .ok (.iload_n 0, 1) := by decide +kernel
theorem dX8_next_29 : decode cX8_next 29 = .ok (.bipush 8, 2) := by decide +kernel
theorem dX8_next_31 : decode cX8_next 31 = .ok (.if_icmp .ge 7, 3) := by decide +kernel
theorem dX8_next_34 : decode cX8_next 34 = .ok (.iconst (-1), 1) := by decide +kernel
theorem dX8_next_35 : decode cX8_next 35 = .ok (.goto 7, 3) := by decide +kernel
theorem dX8_next_38 : decode cX8_next 38 = .ok (.iload_n 0, 1) := by decide +kernel
theorem dX8_next_39 : decode cX8_next 39 = .ok (.bipush 8, 2) := by decide +kernel
theorem dX8_next_41 : decode cX8_next 41 = .ok (.isub, 1) := by decide +kernel
theorem dX8_next_42 : decode cX8_next 42 = .ok (.ireturn, 1) := by decide +kernel
theorem dX8_next_43 : decode cX8_next 43 = .ok (.iload_n 0, 1) := by decide +kernel
theorem dX8_next_44 : decode cX8_next 44 = .ok (.bipush 8, 2) := by decide +kernel
theorem dX8_next_46 : decode cX8_next 46 = .ok (.irem, 1) := by decide +kernel
theorem dX8_next_47 : decode cX8_next 47 = .ok (.bipush 7, 2) := by decide +kernel
theorem dX8_next_49 : decode cX8_next 49 = .ok (.if_icmp .ne 7, 3) := by decide +kernel
theorem dX8_next_52 : decode cX8_next 52 = .ok (.iconst (-1), 1) := by decide +kernel
theorem dX8_next_53 : decode cX8_next 53 = .ok (.goto 6, 3) := by decide +kernel
theorem dX8_next_56 : decode cX8_next 56 = .ok (.iload_n 0, 1) := by decide +kernel
theorem dX8_next_57 : decode cX8_next 57 = .ok (.iconst 1, 1) := by decide +kernel
theorem dX8_next_58 : decode cX8_next 58 = .ok (.iadd, 1) := by decide +kernel
theorem dX8_next_59 : decode cX8_next 59 = .ok (.ireturn, 1) := by decide +kernel
theorem dX8_next_60 : decode cX8_next 60 = .ok (.iload_n 0, 1) := by decide +kernel
theorem dX8_next_61 : decode cX8_next 61 = .ok (.bipush 55, 2) := by decide +kernel
theorem dX8_next_63 : decode cX8_next 63 = .ok (.if_icmp .le 7, 3) := by decide +kernel
theorem dX8_next_66 : decode cX8_next 66 = .ok (.iconst (-1), 1) := by decide +kernel
theorem dX8_next_67 : decode cX8_next 67 = .ok (.goto 7, 3) := by decide +kernel
theorem dX8_next_70 : decode cX8_next 70 = .ok (.iload_n 0, 1) := by decide +kernel
theorem dX8_next_71 : decode cX8_next 71 = .ok (.bipush 8, 2) := by decide +kernel
theorem dX8_next_73 : decode cX8_next 73 = .ok (.iadd, 1) := by decide +kernel
theorem dX8_next_74 : decode cX8_next 74 = .ok (.ireturn, 1) := by decide +kernel
theorem dX8_next_75 : decode cX8_next 75 = .ok (.iload_n 0, 1) := by decide +kernel
theorem dX8_next_76 : decode cX8_next 76 = .ok (.bipush 8, 2) := by decide +kernel
theorem dX8_next_78 : decode cX8_next 78 = .ok (.irem, 1) := by decide +kernel
theorem dX8_next_79 : decode cX8_next 79 = .ok (.ifCond .ne 7, 3) := by decide +kernel
theorem dX8_next_82 : decode cX8_next 82 = .ok (.iconst (-1), 1) := by decide +kernel
theorem dX8_next_83 : decode cX8_next 83 = .ok (.goto 6, 3) := by decide +kernel
theorem dX8_next_86 : decode cX8_next 86 = .ok (.iload_n 0, 1) := by decide +kernel
theorem dX8_next_87 : decode cX8_next 87 = .ok (.iconst 1, 1) := by decide +kernel
theorem dX8_next_88 : decode cX8_next 88 = .ok (.isub, 1) := by decide +kernel
theorem dX8_next_89 : decode cX8_next 89 = .ok (.ireturn, 1) := by decide +kernel
theorem dX8_clear_0 : decode cX8_clear 0 = .ok (.iload_n 1, 1) := by decide +kernel
theorem dX8_clear_1 : decode cX8_clear 1 = .ok (.invokestatic 125, 3) := by decide +kernel
theorem dX8_clear_4 : decode cX8_clear 4 = .ok (.ifCond .eq 15, 3) := by decide +kernel
theorem dX8_clear_7 : decode cX8_clear 7 = .ok (.iload_n 2, 1) := by decide +kernel
theorem dX8_clear_8 : decode cX8_clear 8 = .ok (.i2l, 1) := by decide +kernel
theorem dX8_clear_9 : decode cX8_clear 9 = .ok (.lconst 0, 1) := by decide +kernel
theorem dX8_clear_10 : decode cX8_clear 10 = .ok (.ldc2_w 89, 3) := by decide +kernel
theorem dX8_clear_13 : decode cX8_clear 13 = .ok (.invokestatic 80, 3) := by decide +kernel
theorem dX8_clear_16 : decode cX8_clear 16 = .ok (.ifCond .ne 6, 3) := by decide +kernel
theorem dX8_clear_19 : decode cX8_clear 19 = .ok (.bipush (-2), 2) := by decide +kernel
theorem dX8_clear_21 : decode cX8_clear 21 = .ok (.ireturn, 1) := by decide +kernel
theorem dX8_clear_22 : decode cX8_clear 22 = .ok (.aload_n 0, 1) := by decide +kernel
theorem dX8_clear_23 : decode cX8_clear 23 = .ok (.invokevirtual 122, 3) := by decide +kernel
theorem dX8_clear_26 : decode cX8_clear 26 = .ok (.pop, 1) := by decide +kernel
theorem dX8_clear_27 : decode cX8_clear 27 = .ok (.iload_n 1, 1) := by decide +kernel
theorem dX8_clear_28 : decode cX8_clear 28 = .ok (.iload_n 2, 1) := by decide +kernel
theorem dX8_clear_29 : decode cX8_clear 29 = .ok (.invokestatic 141, 3) := by decide +kernel
theorem dX8_clear_32 : decode cX8_clear 32 = .ok (.istore_n 3, 1) := by decide +kernel
theorem dX8_clear_33 : decode cX8_clear 33 = .ok (.aload_n 0, 1) := by decide +kernel
theorem dX8_clear_34 : decode cX8_clear 34 = .ok (.getfield 25, 3) := by decide +kernel
theorem dX8_clear_37 : decode cX8_clear 37 = .ok (.iload_n 1, 1) := by decide +kernel
theorem dX8_clear_38 : decode cX8_clear 38 = .ok (.iaload, 1) := by decide +kernel
theorem dX8_clear_39 : decode cX8_clear 39 = .ok (.iconst 1, 1) := by decide +kernel
theorem dX8_clear_40 : decode cX8_clear 40 = .ok (.if_icmp .eq 18, 3) := by decide +kernel
theorem dX8_clear_43 : decode cX8_clear 43 = .ok (.iload_n 3, 1) := by decide +kernel
theorem dX8_clear_44 : decode cX8_clear 44 = .ok (.iconst (-1), 1) := by decide +kernel
theorem dX8_clear_45 : decode cX8_clear 45 = .ok (.if_icmp .eq 13, 3) := by decide +kernel
theorem dX8_clear_48 : decode cX8_clear 48 = .ok (.aload_n 0, 1) := by decide +kernel
theorem dX8_clear_49 : decode cX8_clear 49 = .ok (.getfield 25, 3) := by decide +kernel
theorem dX8_clear_52 : decode cX8_clear 52 = .ok (.iload_n 3, 1) := by decide +kernel
theorem dX8_clear_53 : decode cX8_clear 53 = .ok (.iaload, 1) := by decide +kernel
theorem dX8_clear_54 : decode cX8_clear 54 = .ok (.iconst 1, 1) := by decide +kernel
theorem dX8_clear_55 : decode cX8_clear 55 = .ok (.if_icmp .ne 6, 3) := by decide +kernel
theorem dX8_clear_58 : decode cX8_clear 58 = .ok (.bipush (-3), 2) := by decide +kernel
theorem dX8_clear_60 : decode cX8_clear 60 = .ok (.ireturn, 1) := by decide +kernel
theorem dX8_clear_61 : decode cX8_clear 61 = .ok (.aload_n 0, 1) := by decide +kernel
theorem dX8_clear_62 : decode cX8_clear 62 = .ok (.getfield 28, 3) := by decide +kernel
theorem dX8_clear_65 : decode cX8_clear 65 = .ok (.iload_n 1, 1) := by decide +kernel
theorem dX8_clear_66 : decode cX8_clear 66 = .ok (.iaload, 1) := by decide +kernel
theorem dX8_clear_67 : decode cX8_clear 67 = .ok (.aload_n 0, 1) := by decide +kernel
theorem dX8_clear_68 : decode cX8_clear 68 = .ok (.getfield 31, 3) := by decide +kernel
theorem dX8_clear_71 : decode cX8_clear 71 = .ok (.iload_n 1, 1) := by decide +kernel
theorem dX8_clear_72 : decode cX8_clear 72 = .ok (.iaload, 1) := by decide +kernel
theorem dX8_clear_73 : decode cX8_clear 73 = .ok (.iadd, 1) := by decide +kernel
theorem dX8_clear_74 : decode cX8_clear 74 = .ok (.istore 4, 2) := by decide +kernel
theorem dX8_clear_76 : decode cX8_clear 76 = .ok (.aload_n 0, 1) := by decide +kernel
theorem dX8_clear_77 : decode cX8_clear 77 = .ok (.getfield 28, 3) := by decide +kernel
theorem dX8_clear_80 : decode cX8_clear 80 = .ok (.iload_n 1, 1) := by decide +kernel
theorem dX8_clear_81 : decode cX8_clear 81 = .ok (.iconst 0, 1) := by decide +kernel
theorem dX8_clear_82 : decode cX8_clear 82 = .ok (.iastore, 1) := by decide +kernel
theorem dX8_clear_83 : decode cX8_clear 83 = .ok (.aload_n 0, 1) := by decide +kernel
theorem dX8_clear_84 : decode cX8_clear 84 = .ok (.getfield 31, 3) := by decide +kernel
theorem dX8_clear_87 : decode cX8_clear 87 = .ok (.iload_n 1, 1) := by decide +kernel
theorem dX8_clear_88 : decode cX8_clear 88 = .ok (.iconst 0, 1) := by decide +kernel
theorem dX8_clear_89 : decode cX8_clear 89 = .ok (.iastore, 1) := by decide +kernel
theorem dX8_clear_90 : decode cX8_clear 90 = .ok (.aload_n 0, 1) := by decide +kernel
theorem dX8_clear_91 : decode cX8_clear 91 = .ok (.getfield 28, 3) := by decide +kernel
theorem dX8_clear_94 : decode cX8_clear 94 = .ok (.iload_n 3, 1) := by decide +kernel
theorem dX8_clear_95 : decode cX8_clear 95 = .ok (.aload_n 0, 1) := by decide +kernel
theorem dX8_clear_96 : decode cX8_clear 96 = .ok (.getfield 28, 3) := by decide +kernel
theorem dX8_clear_99 : decode cX8_clear 99 = .ok (.iload_n 3, 1) := by decide +kernel
theorem dX8_clear_100 : decode cX8_clear 100 = .ok (.iaload, 1) := by decide +kernel
theorem dX8_clear_101 : decode cX8_clear 101 = .ok (.iload 4, 2) := by decide +kernel
theorem dX8_clear_103 : decode cX8_clear 103 = .ok (.iadd, 1) := by decide +kernel
theorem dX8_clear_104 : decode cX8_clear 104 = .ok (.bipush 30, 2) := by decide +kernel
theorem dX8_clear_106 : decode cX8_clear 106 = .ok (.invokestatic 135, 3) := by decide +kernel
theorem dX8_clear_109 : decode cX8_clear 109 = .ok (.iastore, 1) := by decide +kernel
theorem dX8_clear_110 : decode cX8_clear 110 = .ok (.iload 4, 2) := by decide +kernel
theorem dX8_clear_112 : decode cX8_clear 112 = .ok (.ireturn, 1) := by decide +kernel
theorem dX8_read_0 : decode cX8_read 0 = .ok (.iload_n 1, 1) := by decide +kernel
theorem dX8_read_1 : decode cX8_read 1 = .ok (.invokestatic 91, 3) := by decide +kernel
theorem dX8_read_4 : decode cX8_read 4 = .ok (.ifCond .ne 6, 3) := by decide +kernel
theorem dX8_read_7 : decode cX8_read 7 = .ok (.bipush (-2), 2) := by decide +kernel
theorem dX8_read_9 : decode cX8_read 9 = .ok (.ireturn, 1) := by decide +kernel
theorem dX8_read_10 : decode cX8_read 10 = .ok (.aload_n 0, 1) := by decide +kernel
theorem dX8_read_11 : decode cX8_read 11 = .ok (.getfield 7, 3) := by decide +kernel
theorem dX8_read_14 : decode cX8_read 14 = .ok (.iload_n 1, 1) := by decide +kernel
theorem dX8_read_15 : decode cX8_read 15 = .ok (.iaload, 1) := by decide +kernel
theorem dX8_read_16 : decode cX8_read 16 = .ok (.ifCond .ge 9, 3) := by decide +kernel
theorem dX8_read_19 : decode cX8_read 19 = .ok (.aload_n 0, 1) := by decide +kernel
theorem dX8_read_20 : decode cX8_read 20 = .ok (.iconst 1, 1) := by decide +kernel
theorem dX8_read_21 : decode cX8_read 21 = .ok (.invokevirtual 97, 3) := by decide +kernel
theorem dX8_read_24 : decode cX8_read 24 = .ok (.ireturn, 1) := by decide +kernel
theorem dX8_read_25 : decode cX8_read 25 = .ok (.iconst 0, 1) := by decide +kernel
theorem dX8_read_26 : decode cX8_read 26 = .ok (.istore_n 2, 1) := by decide +kernel
theorem dX8_read_27 : decode cX8_read 27 = .ok (.iload_n 2, 1) := by decide +kernel
theorem dX8_read_28 : decode cX8_read 28 = .ok (.aload_n 0, 1) := by decide +kernel
theorem dX8_read_29 : decode cX8_read 29 = .ok (.getfield 13, 3) := by decide +kernel
theorem dX8_read_32 : decode cX8_read 32 = .ok (.iload_n 1, 1) := by decide +kernel
theorem dX8_read_33 : decode cX8_read 33 = .ok (.iaload, 1) := by decide +kernel
theorem dX8_read_34 : decode cX8_read 34 = .ok (.if_icmp .ge 48, 3) := by decide +kernel
theorem dX8_read_37 : decode cX8_read 37 = .ok (.aload_n 0, 1) := by decide +kernel
theorem dX8_read_38 : decode cX8_read 38 = .ok (.getfield 16, 3) := by decide +kernel
theorem dX8_read_41 : decode cX8_read 41 = .ok (.bipush 64, 2) := by decide +kernel
theorem dX8_read_43 : decode cX8_read 43 = .ok (.iload_n 1, 1) := by decide +kernel
theorem dX8_read_44 : decode cX8_read 44 = .ok (.imul, 1) := by decide +kernel
theorem dX8_read_45 : decode cX8_read 45 = .ok (.iload_n 2, 1) := by decide +kernel
theorem dX8_read_46 : decode cX8_read 46 = .ok (.iadd, 1) := by decide +kernel
theorem dX8_read_47 : decode cX8_read 47 = .ok (.iaload, 1) := by decide +kernel
theorem dX8_read_48 : decode cX8_read 48 = .ok (.i2l, 1) := by decide +kernel
theorem dX8_read_49 : decode cX8_read 49 = .ok (.lconst 0, 1) := by decide +kernel
theorem dX8_read_50 : decode cX8_read 50 = .ok (.ldc2_w 144, 3) := by decide +kernel
theorem dX8_read_53 : decode cX8_read 53 = .ok (.invokestatic 80, 3) := by decide +kernel
theorem dX8_read_56 : decode cX8_read 56 = .ok (.ifCond .eq 26, 3) := by decide +kernel
theorem dX8_read_59 : decode cX8_read 59 = .ok (.aload_n 0, 1) := by decide +kernel
theorem dX8_read_60 : decode cX8_read 60 = .ok (.getfield 28, 3) := by decide +kernel
theorem dX8_read_63 : decode cX8_read 63 = .ok (.iload_n 2, 1) := by decide +kernel
theorem dX8_read_64 : decode cX8_read 64 = .ok (.aload_n 0, 1) := by decide +kernel
theorem dX8_read_65 : decode cX8_read 65 = .ok (.getfield 16, 3) := by decide +kernel
theorem dX8_read_68 : decode cX8_read 68 = .ok (.bipush 64, 2) := by decide +kernel
theorem dX8_read_70 : decode cX8_read 70 = .ok (.iload_n 1, 1) := by decide +kernel
theorem dX8_read_71 : decode cX8_read 71 = .ok (.imul, 1) := by decide +kernel
theorem dX8_read_72 : decode cX8_read 72 = .ok (.iload_n 2, 1) := by decide +kernel
theorem dX8_read_73 : decode cX8_read 73 = .ok (.iadd, 1) := by decide +kernel
theorem dX8_read_74 : decode cX8_read 74 = .ok (.iaload, 1) := by decide +kernel
theorem dX8_read_75 : decode cX8_read 75 = .ok (.iastore, 1) := by decide +kernel
theorem dX8_read_76 : decode cX8_read 76 = .ok (.iinc 2 1, 3) := by decide +kernel
theorem dX8_read_79 : decode cX8_read 79 = .ok (.goto (-52), 3) := by decide +kernel
theorem dX8_read_82 : decode cX8_read 82 = .ok (.iload_n 2, 1) := by decide +kernel
theorem dX8_read_83 : decode cX8_read 83 = .ok (.ireturn, 1) := by decide +kernel
theorem dX8_walker_0 : decode cX8_walker 0 = .ok (.iload_n 1, 1) := by decide +kernel
theorem dX8_walker_1 : decode cX8_walker 1 = .ok (.invokestatic 125, 3) := by decide +kernel
theorem dX8_walker_4 : decode cX8_walker 4 = .ok (.ifCond .eq 10, 3) := by decide +kernel
theorem dX8_walker_7 : decode cX8_walker 7 = .ok (.iload_n 2, 1) := by decide +kernel
theorem dX8_walker_8 : decode cX8_walker 8 = .ok (.invokestatic 125, 3) := by decide +kernel
theorem dX8_walker_11 : decode cX8_walker 11 = .ok (.ifCond .ne 6, 3) := by decide +kernel
theorem dX8_walker_14 : decode cX8_walker 14 = .ok (.bipush (-2), 2) := by decide +kernel
theorem dX8_walker_16 : decode cX8_walker 16 = .ok (.ireturn, 1) := by decide +kernel
theorem dX8_walker_17 : decode cX8_walker 17 = .ok (.aload_n 0, 1) := by decide +kernel
theorem dX8_walker_18 : decode cX8_walker 18 = .ok (.getfield 146, 3) := by decide +kernel
theorem dX8_walker_21 : decode cX8_walker 21 = .ok (.bipush 8, 2) := by decide +kernel
theorem dX8_walker_23 : decode cX8_walker 23 = .ok (.if_icmp .ne 6, 3) := by decide +kernel
theorem dX8_walker_26 : decode cX8_walker 26 = .ok (.bipush (-4), 2) := by decide +kernel
theorem dX8_walker_28 : decode cX8_walker 28 = .ok (.ireturn, 1) := by decide +kernel
theorem dX8_walker_29 : decode cX8_walker 29 = .ok (.aload_n 0, 1) := by decide +kernel
theorem dX8_walker_30 : decode cX8_walker 30 = .ok (.getfield 40, 3) := by decide +kernel
theorem dX8_walker_33 : decode cX8_walker 33 = .ok (.aload_n 0, 1) := by decide +kernel
theorem dX8_walker_34 : decode cX8_walker 34 = .ok (.getfield 146, 3) := by decide +kernel
theorem dX8_walker_37 : decode cX8_walker 37 = .ok (.iload_n 1, 1) := by decide +kernel
theorem dX8_walker_38 : decode cX8_walker 38 = .ok (.iastore, 1) := by decide +kernel
theorem dX8_walker_39 : decode cX8_walker 39 = .ok (.aload_n 0, 1) := by decide +kernel
theorem dX8_walker_40 : decode cX8_walker 40 = .ok (.getfield 43, 3) := by decide +kernel
theorem dX8_walker_43 : decode cX8_walker 43 = .ok (.aload_n 0, 1) := by decide +kernel
theorem dX8_walker_44 : decode cX8_walker 44 = .ok (.getfield 146, 3) := by decide +kernel
theorem dX8_walker_47 : decode cX8_walker 47 = .ok (.iload_n 2, 1) := by decide +kernel
theorem dX8_walker_48 : decode cX8_walker 48 = .ok (.iastore, 1) := by decide +kernel
theorem dX8_walker_49 : decode cX8_walker 49 = .ok (.aload_n 0, 1) := by decide +kernel
theorem dX8_walker_50 : decode cX8_walker 50 = .ok (.dup, 1) := by decide +kernel
theorem dX8_walker_51 : decode cX8_walker 51 = .ok (.getfield 146, 3) := by decide +kernel
theorem dX8_walker_54 : decode cX8_walker 54 = .ok (.iconst 1, 1) := by decide +kernel
theorem dX8_walker_55 : decode cX8_walker 55 = .ok (.iadd, 1) := by decide +kernel
theorem dX8_walker_56 : decode cX8_walker 56 = .ok (.putfield 146, 3) := by decide +kernel
theorem dX8_walker_59 : decode cX8_walker 59 = .ok (.aload_n 0, 1) := by decide +kernel
theorem dX8_walker_60 : decode cX8_walker 60 = .ok (.getfield 146, 3) := by decide +kernel
theorem dX8_walker_63 : decode cX8_walker 63 = .ok (.iconst 1, 1) := by decide +kernel
theorem dX8_walker_64 : decode cX8_walker 64 = .ok (.isub, 1) := by decide +kernel
theorem dX8_walker_65 : decode cX8_walker 65 = .ok (.ireturn, 1) := by decide +kernel
theorem dX8_gone_0 : decode cX8_gone 0 = .ok (.aload_n 0, 1) := by decide +kernel
theorem dX8_gone_1 : decode cX8_gone 1 = .ok (.getfield 146, 3) := by decide +kernel
theorem dX8_gone_4 : decode cX8_gone 4 = .ok (.istore_n 1, 1) := by decide +kernel
theorem dX8_gone_5 : decode cX8_gone 5 = .ok (.aload_n 0, 1) := by decide +kernel
theorem dX8_gone_6 : decode cX8_gone 6 = .ok (.iconst 0, 1) := by decide +kernel
theorem dX8_gone_7 : decode cX8_gone 7 = .ok (.putfield 146, 3) := by decide +kernel
theorem dX8_gone_10 : decode cX8_gone 10 = .ok (.iload_n 1, 1) := by decide +kernel
theorem dX8_gone_11 : decode cX8_gone 11 = .ok (.ireturn, 1) := by decide +kernel
theorem dX8_isWalker_0 : decode cX8_isWalker 0 = .ok (.iload_n 1, 1) := by decide +kernel
theorem dX8_isWalker_1 : decode cX8_isWalker 1 = .ok (.i2l, 1) := by decide +kernel
theorem dX8_isWalker_2 : decode cX8_isWalker 2 = .ok (.lconst 0, 1) := by decide +kernel
theorem dX8_isWalker_3 : decode cX8_isWalker 3 = .ok (.aload_n 0, 1) := by decide +kernel
theorem dX8_isWalker_4 : decode cX8_isWalker 4 = .ok (.getfield 146, 3) := by decide +kernel
theorem dX8_isWalker_7 : decode cX8_isWalker 7 = .ok (.iconst 1, 1) := by decide +kernel
theorem dX8_isWalker_8 : decode cX8_isWalker 8 = .ok (.isub, 1) := by decide +kernel
theorem dX8_isWalker_9 : decode cX8_isWalker 9 = .ok (.i2l, 1) := by decide +kernel
theorem dX8_isWalker_10 : decode cX8_isWalker 10 = .ok (.invokestatic 80, 3) := by decide +kernel
theorem dX8_isWalker_13 : decode cX8_isWalker 13 = .ok (.ireturn, 1) := by decide +kernel
theorem dX8_isHidden_0 : decode cX8_isHidden 0 = .ok (.aload_n 0, 1) := by decide +kernel
theorem dX8_isHidden_1 : decode cX8_isHidden 1 = .ok (.getfield 25, 3) := by decide +kernel
theorem dX8_isHidden_4 : decode cX8_isHidden 4 = .ok (.iload_n 1, 1) := by decide +kernel
theorem dX8_isHidden_5 : decode cX8_isHidden 5 = .ok (.iaload, 1) := by decide +kernel
theorem dX8_isHidden_6 : decode cX8_isHidden 6 = .ok (.iconst 2, 1) := by decide +kernel
theorem dX8_isHidden_7 : decode cX8_isHidden 7 = .ok (.if_icmp .eq 11, 3) := by decide +kernel
theorem dX8_isHidden_10 : decode cX8_isHidden 10 = .ok (.iload_n 1, 1) := by decide +kernel
theorem dX8_isHidden_11 : decode cX8_isHidden 11 = .ok (.aload_n 0, 1) := by decide +kernel
theorem dX8_isHidden_12 : decode cX8_isHidden 12 = .ok (.getfield 59, 3) := by decide +kernel
theorem dX8_isHidden_15 : decode cX8_isHidden 15 = .ok (.if_icmp .ne 7, 3) := by decide +kernel
theorem dX8_isHidden_18 : decode cX8_isHidden 18 = .ok (.iconst 1, 1) := by decide +kernel
theorem dX8_isHidden_19 : decode cX8_isHidden 19 = .ok (.goto 4, 3) := by decide +kernel
theorem dX8_isHidden_22 : decode cX8_isHidden 22 = .ok (.iconst 0, 1) := by decide +kernel
theorem dX8_isHidden_23 : decode cX8_isHidden 23 = .ok (.ireturn, 1) := by decide +kernel
theorem dX8_tries_0 : decode cX8_tries 0 = .ok (.aload_n 0, 1) := by decide +kernel
theorem dX8_tries_1 : decode cX8_tries 1 = .ok (.invokevirtual 122, 3) := by decide +kernel
theorem dX8_tries_4 : decode cX8_tries 4 = .ok (.pop, 1) := by decide +kernel
theorem dX8_tries_5 : decode cX8_tries 5 = .ok (.aload_n 0, 1) := by decide +kernel
theorem dX8_tries_6 : decode cX8_tries 6 = .ok (.iconst (-1), 1) := by decide +kernel
theorem dX8_tries_7 : decode cX8_tries 7 = .ok (.putfield 59, 3) := by decide +kernel
theorem dX8_tries_10 : decode cX8_tries 10 = .ok (.aload_n 0, 1) := by decide +kernel
theorem dX8_tries_11 : decode cX8_tries 11 = .ok (.invokevirtual 149, 3) := by decide +kernel
theorem dX8_tries_14 : decode cX8_tries 14 = .ok (.return_, 1) := by decide +kernel
theorem dX8_begins_0 : decode cX8_begins 0 = .ok (.iconst 0, 1) := by decide +kernel
theorem dX8_begins_1 : decode cX8_begins 1 = .ok (.istore_n 1, 1) := by decide +kernel
theorem dX8_begins_2 : decode cX8_begins 2 = .ok (.iload_n 1, 1) := by decide +kernel
theorem dX8_begins_3 : decode cX8_begins 3 = .ok (.bipush 64, 2) := by decide +kernel
theorem dX8_begins_5 : decode cX8_begins 5 = .ok (.if_icmp .ge 40, 3) := by decide +kernel
theorem dX8_begins_8 : decode cX8_begins 8 = .ok (.aload_n 0, 1) := by decide +kernel
theorem dX8_begins_9 : decode cX8_begins 9 = .ok (.getfield 46, 3) := by decide +kernel
theorem dX8_begins_12 : decode cX8_begins 12 = .ok (.iload_n 1, 1) := by decide +kernel
theorem dX8_begins_13 : decode cX8_begins 13 = .ok (.aload_n 0, 1) := by decide +kernel
theorem dX8_begins_14 : decode cX8_begins 14 = .ok (.getfield 28, 3) := by decide +kernel
theorem dX8_begins_17 : decode cX8_begins 17 = .ok (.iload_n 1, 1) := by decide +kernel
theorem dX8_begins_18 : decode cX8_begins 18 = .ok (.iaload, 1) := by decide +kernel
theorem dX8_begins_19 : decode cX8_begins 19 = .ok (.iastore, 1) := by decide +kernel
theorem dX8_begins_20 : decode cX8_begins 20 = .ok (.aload_n 0, 1) := by decide +kernel
theorem dX8_begins_21 : decode cX8_begins 21 = .ok (.getfield 49, 3) := by decide +kernel
theorem dX8_begins_24 : decode cX8_begins 24 = .ok (.iload_n 1, 1) := by decide +kernel
theorem dX8_begins_25 : decode cX8_begins 25 = .ok (.aload_n 0, 1) := by decide +kernel
theorem dX8_begins_26 : decode cX8_begins 26 = .ok (.getfield 31, 3) := by decide +kernel
theorem dX8_begins_29 : decode cX8_begins 29 = .ok (.iload_n 1, 1) := by decide +kernel
theorem dX8_begins_30 : decode cX8_begins 30 = .ok (.iaload, 1) := by decide +kernel
theorem dX8_begins_31 : decode cX8_begins 31 = .ok (.iastore, 1) := by decide +kernel
theorem dX8_begins_32 : decode cX8_begins 32 = .ok (.aload_n 0, 1) := by decide +kernel
theorem dX8_begins_33 : decode cX8_begins 33 = .ok (.getfield 52, 3) := by decide +kernel
theorem dX8_begins_36 : decode cX8_begins 36 = .ok (.iload_n 1, 1) := by decide +kernel
theorem dX8_begins_37 : decode cX8_begins 37 = .ok (.iconst 0, 1) := by decide +kernel
theorem dX8_begins_38 : decode cX8_begins 38 = .ok (.iastore, 1) := by decide +kernel
theorem dX8_begins_39 : decode cX8_begins 39 = .ok (.iinc 1 1, 3) := by decide +kernel
theorem dX8_begins_42 : decode cX8_begins 42 = .ok (.goto (-40), 3) := by decide +kernel
theorem dX8_begins_45 : decode cX8_begins 45 = .ok (.aload_n 0, 1) := by decide +kernel
theorem dX8_begins_46 : decode cX8_begins 46 = .ok (.iconst 0, 1) := by decide +kernel
theorem dX8_begins_47 : decode cX8_begins 47 = .ok (.putfield 152, 3) := by decide +kernel
theorem dX8_begins_50 : decode cX8_begins 50 = .ok (.aload_n 0, 1) := by decide +kernel
theorem dX8_begins_51 : decode cX8_begins 51 = .ok (.iconst 0, 1) := by decide +kernel
theorem dX8_begins_52 : decode cX8_begins 52 = .ok (.putfield 155, 3) := by decide +kernel
theorem dX8_begins_55 : decode cX8_begins 55 = .ok (.aload_n 0, 1) := by decide +kernel
theorem dX8_begins_56 : decode cX8_begins 56 = .ok (.iconst 0, 1) := by decide +kernel
theorem dX8_begins_57 : decode cX8_begins 57 = .ok (.putfield 158, 3) := by decide +kernel
theorem dX8_begins_60 : decode cX8_begins 60 = .ok (.aload_n 0, 1) := by decide +kernel
theorem dX8_begins_61 : decode cX8_begins 61 = .ok (.iconst 0, 1) := by decide +kernel
theorem dX8_begins_62 : decode cX8_begins 62 = .ok (.putfield 161, 3) := by decide +kernel
theorem dX8_begins_65 : decode cX8_begins 65 = .ok (.return_, 1) := by decide +kernel
theorem dX8_knows_0 : decode cX8_knows 0 = .ok (.iconst 0, 1) := by decide +kernel
theorem dX8_knows_1 : decode cX8_knows 1 = .ok (.istore_n 2, 1) := by decide +kernel
theorem dX8_knows_2 : decode cX8_knows 2 = .ok (.iload_n 2, 1) := by decide +kernel
theorem dX8_knows_3 : decode cX8_knows 3 = .ok (.bipush 64, 2) := by decide +kernel
theorem dX8_knows_5 : decode cX8_knows 5 = .ok (.if_icmp .ge 32, 3) := by decide +kernel
theorem dX8_knows_8 : decode cX8_knows 8 = .ok (.aload_n 0, 1) := by decide +kernel
theorem dX8_knows_9 : decode cX8_knows 9 = .ok (.getfield 55, 3) := by decide +kernel
theorem dX8_knows_12 : decode cX8_knows 12 = .ok (.iload_n 2, 1) := by decide +kernel
theorem dX8_knows_13 : decode cX8_knows 13 = .ok (.iload_n 1, 1) := by decide +kernel
theorem dX8_knows_14 : decode cX8_knows 14 = .ok (.ifCond .eq 15, 3) := by decide +kernel
theorem dX8_knows_17 : decode cX8_knows 17 = .ok (.aload_n 0, 1) := by decide +kernel
theorem dX8_knows_18 : decode cX8_knows 18 = .ok (.iload_n 2, 1) := by decide +kernel
theorem dX8_knows_19 : decode cX8_knows 19 = .ok (.invokevirtual 164, 3) := by decide +kernel
theorem dX8_knows_22 : decode cX8_knows 22 = .ok (.ifCond .eq 7, 3) := by decide +kernel
theorem dX8_knows_25 : decode cX8_knows 25 = .ok (.iconst 1, 1) := by decide +kernel
theorem dX8_knows_26 : decode cX8_knows 26 = .ok (.goto 4, 3) := by decide +kernel
theorem dX8_knows_29 : decode cX8_knows 29 = .ok (.iconst 0, 1) := by decide +kernel
theorem dX8_knows_30 : decode cX8_knows 30 = .ok (.bastore, 1) := by decide +kernel
theorem dX8_knows_31 : decode cX8_knows 31 = .ok (.iinc 2 1, 3) := by decide +kernel
theorem dX8_knows_34 : decode cX8_knows 34 = .ok (.goto (-32), 3) := by decide +kernel
theorem dX8_knows_37 : decode cX8_knows 37 = .ok (.return_, 1) := by decide +kernel
theorem dX8_mayPass_0 : decode cX8_mayPass 0 = .ok (.aload_n 0, 1) := by decide +kernel
theorem dX8_mayPass_1 : decode cX8_mayPass 1 = .ok (.getfield 25, 3) := by decide +kernel
theorem dX8_mayPass_4 : decode cX8_mayPass 4 = .ok (.iload_n 1, 1) := by decide +kernel
theorem dX8_mayPass_5 : decode cX8_mayPass 5 = .ok (.iaload, 1) := by decide +kernel
theorem dX8_mayPass_6 : decode cX8_mayPass 6 = .ok (.iconst 1, 1) := by decide +kernel
theorem dX8_mayPass_7 : decode cX8_mayPass 7 = .ok (.if_icmp .eq 16, 3) := by decide +kernel
theorem dX8_mayPass_10 : decode cX8_mayPass 10 = .ok (.aload_n 0, 1) := by decide +kernel
theorem dX8_mayPass_11 : decode cX8_mayPass 11 = .ok (.getfield 55, 3) := by decide +kernel
theorem dX8_mayPass_14 : decode cX8_mayPass 14 = .ok (.iload_n 1, 1) := by decide +kernel
theorem dX8_mayPass_15 : decode cX8_mayPass 15 = .ok (.baload, 1) := by decide +kernel
theorem dX8_mayPass_16 : decode cX8_mayPass 16 = .ok (.ifCond .ne 7, 3) := by decide +kernel
theorem dX8_mayPass_19 : decode cX8_mayPass 19 = .ok (.iconst 1, 1) := by decide +kernel
theorem dX8_mayPass_20 : decode cX8_mayPass 20 = .ok (.goto 4, 3) := by decide +kernel
theorem dX8_mayPass_23 : decode cX8_mayPass 23 = .ok (.iconst 0, 1) := by decide +kernel
theorem dX8_mayPass_24 : decode cX8_mayPass 24 = .ok (.ireturn, 1) := by decide +kernel
theorem dX8_wades_0 : decode cX8_wades 0 = .ok (.iload_n 2, 1) := by decide +kernel
theorem dX8_wades_1 : decode cX8_wades 1 = .ok (.ifCond .eq 7, 3) := by decide +kernel
theorem dX8_wades_4 : decode cX8_wades 4 = .ok (.iconst 1, 1) := by decide +kernel
theorem dX8_wades_5 : decode cX8_wades 5 = .ok (.goto 11, 3) := by decide +kernel
theorem dX8_wades_8 : decode cX8_wades 8 = .ok (.iconst 1, 1) := by decide +kernel
theorem dX8_wades_9 : decode cX8_wades 9 = .ok (.aload_n 0, 1) := by decide +kernel
theorem dX8_wades_10 : decode cX8_wades 10 = .ok (.getfield 46, 3) := by decide +kernel
theorem dX8_wades_13 : decode cX8_wades 13 = .ok (.iload_n 1, 1) := by decide +kernel
theorem dX8_wades_14 : decode cX8_wades 14 = .ok (.iaload, 1) := by decide +kernel
theorem dX8_wades_15 : decode cX8_wades 15 = .ok (.iadd, 1) := by decide +kernel
theorem dX8_wades_16 : decode cX8_wades 16 = .ok (.ireturn, 1) := by decide +kernel
theorem dX8_findCosts_0 : decode cX8_findCosts 0 = .ok (.iconst 0, 1) := by decide +kernel
theorem dX8_findCosts_1 : decode cX8_findCosts 1 = .ok (.istore_n 3, 1) := by decide +kernel
theorem dX8_findCosts_2 : decode cX8_findCosts 2 = .ok (.iload_n 3, 1) := by decide +kernel
theorem dX8_findCosts_3 : decode cX8_findCosts 3 = .ok (.bipush 64, 2) := by decide +kernel
theorem dX8_findCosts_5 : decode cX8_findCosts 5 = .ok (.if_icmp .ge 34, 3) := by decide +kernel
theorem dX8_findCosts_8 : decode cX8_findCosts 8 = .ok (.aload_n 0, 1) := by decide +kernel
theorem dX8_findCosts_9 : decode cX8_findCosts 9 = .ok (.getfield 63, 3) := by decide +kernel
theorem dX8_findCosts_12 : decode cX8_findCosts 12 = .ok (.iload_n 3, 1) := by decide +kernel
theorem dX8_findCosts_13 : decode cX8_findCosts 13 = .ok (.iload_n 3, 1) := by decide +kernel
theorem dX8_findCosts_14 : decode cX8_findCosts 14 = .ok (.iload_n 1, 1) := by decide +kernel
theorem dX8_findCosts_15 : decode cX8_findCosts 15 = .ok (.if_icmp .ne 15, 3) := by decide +kernel
theorem dX8_findCosts_18 : decode cX8_findCosts 18 = .ok (.aload_n 0, 1) := by decide +kernel
theorem dX8_findCosts_19 : decode cX8_findCosts 19 = .ok (.iload_n 3, 1) := by decide +kernel
theorem dX8_findCosts_20 : decode cX8_findCosts 20 = .ok (.invokevirtual 167, 3) := by decide +kernel
theorem dX8_findCosts_23 : decode cX8_findCosts 23 = .ok (.ifCond .eq 7, 3) := by decide +kernel
theorem dX8_findCosts_26 : decode cX8_findCosts 26 = .ok (.iconst 0, 1) := by decide +kernel
theorem dX8_findCosts_27 : decode cX8_findCosts 27 = .ok (.goto 5, 3) := by decide +kernel
theorem dX8_findCosts_30 : decode cX8_findCosts 30 = .ok (.ldc 170, 2) := by decide +kernel
theorem dX8_findCosts_32 : decode cX8_findCosts 32 = .ok (.iastore, 1) := by decide +kernel
theorem dX8_findCosts_33 : decode cX8_findCosts 33 = .ok (.iinc 3 1, 3) := by decide +kernel
theorem dX8_findCosts_36 : decode cX8_findCosts 36 = .ok (.goto (-34), 3) := by decide +kernel
theorem dX8_findCosts_39 : decode cX8_findCosts 39 = .ok (.iconst 1, 1) := by decide +kernel
theorem dX8_findCosts_40 : decode cX8_findCosts 40 = .ok (.istore_n 3, 1) := by decide +kernel
theorem dX8_findCosts_41 : decode cX8_findCosts 41 = .ok (.iload_n 3, 1) := by decide +kernel
theorem dX8_findCosts_42 : decode cX8_findCosts 42 = .ok (.ifCond .eq 124, 3) := by decide +kernel
theorem dX8_findCosts_45 : decode cX8_findCosts 45 = .ok (.iconst 0, 1) := by decide +kernel
theorem dX8_findCosts_46 : decode cX8_findCosts 46 = .ok (.istore_n 3, 1) := by decide +kernel
theorem dX8_findCosts_47 : decode cX8_findCosts 47 = .ok (.iconst 0, 1) := by decide +kernel
theorem dX8_findCosts_48 : decode cX8_findCosts 48 = .ok (.istore 4, 2) := by decide +kernel
theorem dX8_findCosts_50 : decode cX8_findCosts 50 = .ok (.iload 4, 2) := by decide +kernel
theorem dX8_findCosts_52 : decode cX8_findCosts 52 = .ok (.bipush 64, 2) := by decide +kernel
theorem dX8_findCosts_54 : decode cX8_findCosts 54 = .ok (.if_icmp .ge 109, 3) := by decide +kernel
theorem dX8_findCosts_57 : decode cX8_findCosts 57 = .ok (.iconst 0, 1) := by decide +kernel
theorem dX8_findCosts_58 : decode cX8_findCosts 58 = .ok (.istore 5, 2) := by decide +kernel
theorem dX8_findCosts_60 : decode cX8_findCosts 60 = .ok (.iload 5, 2) := by decide +kernel
theorem dX8_findCosts_62 : decode cX8_findCosts 62 = .ok (.iconst 4, 1) := by decide +kernel
theorem dX8_findCosts_63 : decode cX8_findCosts 63 = .ok (.if_icmp .ge 94, 3) := by decide +kernel
theorem dX8_findCosts_66 : decode cX8_findCosts 66 = .ok (.aload_n 0, 1) := by decide +kernel
theorem dX8_findCosts_67 : decode cX8_findCosts 67 = .ok (.iload 4, 2) := by decide +kernel
theorem dX8_findCosts_69 : decode cX8_findCosts 69 = .ok (.invokevirtual 167, 3) := by decide +kernel
theorem dX8_findCosts_72 : decode cX8_findCosts 72 = .ok (.ifCond .eq 85, 3) := by decide +kernel
theorem dX8_findCosts_75 : decode cX8_findCosts 75 = .ok (.iload 4, 2) := by decide +kernel
theorem dX8_findCosts_77 : decode cX8_findCosts 77 = .ok (.iload 5, 2) := by decide +kernel
theorem dX8_findCosts_79 : decode cX8_findCosts 79 = .ok (.invokestatic 141, 3) := by decide +kernel
theorem dX8_findCosts_82 : decode cX8_findCosts 82 = .ok (.istore 6, 2) := by decide +kernel
theorem dX8_findCosts_84 : decode cX8_findCosts 84 = .ok (.iload 6, 2) := by decide +kernel
theorem dX8_findCosts_86 : decode cX8_findCosts 86 = .ok (.iconst (-1), 1) := by decide +kernel
theorem dX8_findCosts_87 : decode cX8_findCosts 87 = .ok (.if_icmp .eq 64, 3) := by decide +kernel
theorem dX8_findCosts_90 : decode cX8_findCosts 90 = .ok (.aload_n 0, 1) := by decide +kernel
theorem dX8_findCosts_91 : decode cX8_findCosts 91 = .ok (.getfield 63, 3) := by decide +kernel
theorem dX8_findCosts_94 : decode cX8_findCosts 94 = .ok (.iload 6, 2) := by decide +kernel
theorem dX8_findCosts_96 : decode cX8_findCosts 96 = .ok (.iaload, 1) := by decide +kernel
theorem dX8_findCosts_97 : decode cX8_findCosts 97 = .ok (.ldc 170, 2) := by decide +kernel
theorem dX8_findCosts_99 : decode cX8_findCosts 99 = .ok (.if_icmp .ge 52, 3) := by decide +kernel
theorem dX8_findCosts_102 : decode cX8_findCosts 102 = .ok (.aload_n 0, 1) := by decide +kernel
theorem dX8_findCosts_103 : decode cX8_findCosts 103 = .ok (.getfield 63, 3) := by decide +kernel
theorem dX8_findCosts_106 : decode cX8_findCosts 106 = .ok (.iload 6, 2) := by decide +kernel
theorem dX8_findCosts_108 : decode cX8_findCosts 108 = .ok (.iaload, 1) := by decide +kernel
theorem dX8_findCosts_109 : decode cX8_findCosts 109 = .ok (.aload_n 0, 1) := by decide +kernel
theorem dX8_findCosts_110 : decode cX8_findCosts 110 = .ok (.iload 6, 2) := by decide +kernel
theorem dX8_findCosts_112 : decode cX8_findCosts 112 = .ok (.iload_n 2, 1) := by decide +kernel
theorem dX8_findCosts_113 : decode cX8_findCosts 113 = .ok (.invokevirtual 171, 3) := by decide +kernel
theorem dX8_findCosts_116 : decode cX8_findCosts 116 = .ok (.iadd, 1) := by decide +kernel
theorem dX8_findCosts_117 : decode cX8_findCosts 117 = .ok (.aload_n 0, 1) := by decide +kernel
theorem dX8_findCosts_118 : decode cX8_findCosts 118 = .ok (.getfield 63, 3) := by decide +kernel
theorem dX8_findCosts_121 : decode cX8_findCosts 121 = .ok (.iload 4, 2) := by decide +kernel
theorem dX8_findCosts_123 : decode cX8_findCosts 123 = .ok (.iaload, 1) := by decide +kernel
theorem dX8_findCosts_124 : decode cX8_findCosts 124 = .ok (.if_icmp .ge 27, 3) := by decide +kernel
theorem dX8_findCosts_127 : decode cX8_findCosts 127 = .ok (.aload_n 0, 1) := by decide +kernel
theorem dX8_findCosts_128 : decode cX8_findCosts 128 = .ok (.getfield 63, 3) := by decide +kernel
theorem dX8_findCosts_131 : decode cX8_findCosts 131 = .ok (.iload 4, 2) := by decide +kernel
theorem dX8_findCosts_133 : decode cX8_findCosts 133 = .ok (.aload_n 0, 1) := by decide +kernel
theorem dX8_findCosts_134 : decode cX8_findCosts 134 = .ok (.getfield 63, 3) := by decide +kernel
theorem dX8_findCosts_137 : decode cX8_findCosts 137 = .ok (.iload 6, 2) := by decide +kernel
theorem dX8_findCosts_139 : decode cX8_findCosts 139 = .ok (.iaload, 1) := by decide +kernel
theorem dX8_findCosts_140 : decode cX8_findCosts 140 = .ok (.aload_n 0, 1) := by decide +kernel
theorem dX8_findCosts_141 : decode cX8_findCosts 141 = .ok (.iload 6, 2) := by decide +kernel
theorem dX8_findCosts_143 : decode cX8_findCosts 143 = .ok (.iload_n 2, 1) := by decide +kernel
theorem dX8_findCosts_144 : decode cX8_findCosts 144 = .ok (.invokevirtual 171, 3) := by decide +kernel
theorem dX8_findCosts_147 : decode cX8_findCosts 147 = .ok (.iadd, 1) := by decide +kernel
theorem dX8_findCosts_148 : decode cX8_findCosts 148 = .ok (.iastore, 1) := by decide +kernel
theorem dX8_findCosts_149 : decode cX8_findCosts 149 = .ok (.iconst 1, 1) := by decide +kernel
theorem dX8_findCosts_150 : decode cX8_findCosts 150 = .ok (.istore_n 3, 1) := by decide +kernel
theorem dX8_findCosts_151 : decode cX8_findCosts 151 = .ok (.iinc 5 1, 3) := by decide +kernel
theorem dX8_findCosts_154 : decode cX8_findCosts 154 = .ok (.goto (-94), 3) := by decide +kernel
theorem dX8_findCosts_157 : decode cX8_findCosts 157 = .ok (.iinc 4 1, 3) := by decide +kernel
theorem dX8_findCosts_160 : decode cX8_findCosts 160 = .ok (.goto (-110), 3) := by decide +kernel
theorem dX8_findCosts_163 : decode cX8_findCosts 163 = .ok (.goto (-122), 3) := by decide +kernel
theorem dX8_findCosts_166 : decode cX8_findCosts 166 = .ok (.return_, 1) := by decide +kernel
theorem dX8_goesTo_0 : decode cX8_goesTo 0 = .ok (.iconst 0, 1) := by decide +kernel
theorem dX8_goesTo_1 : decode cX8_goesTo 1 = .ok (.istore_n 2, 1) := by decide +kernel
theorem dX8_goesTo_2 : decode cX8_goesTo 2 = .ok (.iload_n 2, 1) := by decide +kernel
theorem dX8_goesTo_3 : decode cX8_goesTo 3 = .ok (.iconst 4, 1) := by decide +kernel
theorem dX8_goesTo_4 : decode cX8_goesTo 4 = .ok (.if_icmp .ge 55, 3) := by decide +kernel
theorem dX8_goesTo_7 : decode cX8_goesTo 7 = .ok (.iload_n 1, 1) := by decide +kernel
theorem dX8_goesTo_8 : decode cX8_goesTo 8 = .ok (.iload_n 2, 1) := by decide +kernel
theorem dX8_goesTo_9 : decode cX8_goesTo 9 = .ok (.invokestatic 141, 3) := by decide +kernel
theorem dX8_goesTo_12 : decode cX8_goesTo 12 = .ok (.istore_n 3, 1) := by decide +kernel
theorem dX8_goesTo_13 : decode cX8_goesTo 13 = .ok (.iload_n 3, 1) := by decide +kernel
theorem dX8_goesTo_14 : decode cX8_goesTo 14 = .ok (.iconst (-1), 1) := by decide +kernel
theorem dX8_goesTo_15 : decode cX8_goesTo 15 = .ok (.if_icmp .eq 38, 3) := by decide +kernel
theorem dX8_goesTo_18 : decode cX8_goesTo 18 = .ok (.aload_n 0, 1) := by decide +kernel
theorem dX8_goesTo_19 : decode cX8_goesTo 19 = .ok (.getfield 63, 3) := by decide +kernel
theorem dX8_goesTo_22 : decode cX8_goesTo 22 = .ok (.iload_n 3, 1) := by decide +kernel
theorem dX8_goesTo_23 : decode cX8_goesTo 23 = .ok (.iaload, 1) := by decide +kernel
theorem dX8_goesTo_24 : decode cX8_goesTo 24 = .ok (.ldc 170, 2) := by decide +kernel
theorem dX8_goesTo_26 : decode cX8_goesTo 26 = .ok (.if_icmp .ge 27, 3) := by decide +kernel
theorem dX8_goesTo_29 : decode cX8_goesTo 29 = .ok (.aload_n 0, 1) := by decide +kernel
theorem dX8_goesTo_30 : decode cX8_goesTo 30 = .ok (.getfield 63, 3) := by decide +kernel
theorem dX8_goesTo_33 : decode cX8_goesTo 33 = .ok (.iload_n 3, 1) := by decide +kernel
theorem dX8_goesTo_34 : decode cX8_goesTo 34 = .ok (.iaload, 1) := by decide +kernel
theorem dX8_goesTo_35 : decode cX8_goesTo 35 = .ok (.aload_n 0, 1) := by decide +kernel
theorem dX8_goesTo_36 : decode cX8_goesTo 36 = .ok (.iload_n 3, 1) := by decide +kernel
theorem dX8_goesTo_37 : decode cX8_goesTo 37 = .ok (.iconst 0, 1) := by decide +kernel
theorem dX8_goesTo_38 : decode cX8_goesTo 38 = .ok (.invokevirtual 171, 3) := by decide +kernel
theorem dX8_goesTo_41 : decode cX8_goesTo 41 = .ok (.iadd, 1) := by decide +kernel
theorem dX8_goesTo_42 : decode cX8_goesTo 42 = .ok (.aload_n 0, 1) := by decide +kernel
theorem dX8_goesTo_43 : decode cX8_goesTo 43 = .ok (.getfield 63, 3) := by decide +kernel
theorem dX8_goesTo_46 : decode cX8_goesTo 46 = .ok (.iload_n 1, 1) := by decide +kernel
theorem dX8_goesTo_47 : decode cX8_goesTo 47 = .ok (.iaload, 1) := by decide +kernel
theorem dX8_goesTo_48 : decode cX8_goesTo 48 = .ok (.if_icmp .ne 5, 3) := by decide +kernel
theorem dX8_goesTo_51 : decode cX8_goesTo 51 = .ok (.iload_n 3, 1) := by decide +kernel
theorem dX8_goesTo_52 : decode cX8_goesTo 52 = .ok (.ireturn, 1) := by decide +kernel
theorem dX8_goesTo_53 : decode cX8_goesTo 53 = .ok (.iinc 2 1, 3) := by decide +kernel
theorem dX8_goesTo_56 : decode cX8_goesTo 56 = .ok (.goto (-54), 3) := by decide +kernel
theorem dX8_goesTo_59 : decode cX8_goesTo 59 = .ok (.iconst (-1), 1) := by decide +kernel
theorem dX8_goesTo_60 : decode cX8_goesTo 60 = .ok (.ireturn, 1) := by decide +kernel
theorem dX8_mayBegin_0 : decode cX8_mayBegin 0 = .ok (.aload_n 0, 1) := by decide +kernel
theorem dX8_mayBegin_1 : decode cX8_mayBegin 1 = .ok (.getfield 25, 3) := by decide +kernel
theorem dX8_mayBegin_4 : decode cX8_mayBegin 4 = .ok (.iload_n 1, 1) := by decide +kernel
theorem dX8_mayBegin_5 : decode cX8_mayBegin 5 = .ok (.iaload, 1) := by decide +kernel
theorem dX8_mayBegin_6 : decode cX8_mayBegin 6 = .ok (.iconst 1, 1) := by decide +kernel
theorem dX8_mayBegin_7 : decode cX8_mayBegin 7 = .ok (.if_icmp .eq 15, 3) := by decide +kernel
theorem dX8_mayBegin_10 : decode cX8_mayBegin 10 = .ok (.aload_n 0, 1) := by decide +kernel
theorem dX8_mayBegin_11 : decode cX8_mayBegin 11 = .ok (.iload_n 1, 1) := by decide +kernel
theorem dX8_mayBegin_12 : decode cX8_mayBegin 12 = .ok (.invokevirtual 164, 3) := by decide +kernel
theorem dX8_mayBegin_15 : decode cX8_mayBegin 15 = .ok (.ifCond .ne 7, 3) := by decide +kernel
theorem dX8_mayBegin_18 : decode cX8_mayBegin 18 = .ok (.iconst 1, 1) := by decide +kernel
theorem dX8_mayBegin_19 : decode cX8_mayBegin 19 = .ok (.goto 4, 3) := by decide +kernel
theorem dX8_mayBegin_22 : decode cX8_mayBegin 22 = .ok (.iconst 0, 1) := by decide +kernel
theorem dX8_mayBegin_23 : decode cX8_mayBegin 23 = .ok (.ireturn, 1) := by decide +kernel
theorem dX8_plans_0 : decode cX8_plans 0 = .ok (.aload_n 0, 1) := by decide +kernel
theorem dX8_plans_1 : decode cX8_plans 1 = .ok (.iload_n 2, 1) := by decide +kernel
theorem dX8_plans_2 : decode cX8_plans 2 = .ok (.iconst 0, 1) := by decide +kernel
theorem dX8_plans_3 : decode cX8_plans 3 = .ok (.invokevirtual 175, 3) := by decide +kernel
theorem dX8_plans_6 : decode cX8_plans 6 = .ok (.aload_n 0, 1) := by decide +kernel
theorem dX8_plans_7 : decode cX8_plans 7 = .ok (.iconst 0, 1) := by decide +kernel
theorem dX8_plans_8 : decode cX8_plans 8 = .ok (.putfield 179, 3) := by decide +kernel
theorem dX8_plans_11 : decode cX8_plans 11 = .ok (.aload_n 0, 1) := by decide +kernel
theorem dX8_plans_12 : decode cX8_plans 12 = .ok (.iload_n 1, 1) := by decide +kernel
theorem dX8_plans_13 : decode cX8_plans 13 = .ok (.invokevirtual 182, 3) := by decide +kernel
theorem dX8_plans_16 : decode cX8_plans 16 = .ok (.ifCond .eq 14, 3) := by decide +kernel
theorem dX8_plans_19 : decode cX8_plans 19 = .ok (.aload_n 0, 1) := by decide +kernel
theorem dX8_plans_20 : decode cX8_plans 20 = .ok (.getfield 63, 3) := by decide +kernel
theorem dX8_plans_23 : decode cX8_plans 23 = .ok (.iload_n 1, 1) := by decide +kernel
theorem dX8_plans_24 : decode cX8_plans 24 = .ok (.iaload, 1) := by decide +kernel
theorem dX8_plans_25 : decode cX8_plans 25 = .ok (.ldc 170, 2) := by decide +kernel
theorem dX8_plans_27 : decode cX8_plans 27 = .ok (.if_icmp .lt 5, 3) := by decide +kernel
theorem dX8_plans_30 : decode cX8_plans 30 = .ok (.iconst 0, 1) := by decide +kernel
theorem dX8_plans_31 : decode cX8_plans 31 = .ok (.ireturn, 1) := by decide +kernel
theorem dX8_plans_32 : decode cX8_plans 32 = .ok (.iload_n 1, 1) := by decide +kernel
theorem dX8_plans_33 : decode cX8_plans 33 = .ok (.istore_n 3, 1) := by decide +kernel
theorem dX8_plans_34 : decode cX8_plans 34 = .ok (.iload_n 3, 1) := by decide +kernel
theorem dX8_plans_35 : decode cX8_plans 35 = .ok (.iload_n 2, 1) := by decide +kernel
theorem dX8_plans_36 : decode cX8_plans 36 = .ok (.if_icmp .eq 32, 3) := by decide +kernel
theorem dX8_plans_39 : decode cX8_plans 39 = .ok (.aload_n 0, 1) := by decide +kernel
theorem dX8_plans_40 : decode cX8_plans 40 = .ok (.iload_n 3, 1) := by decide +kernel
theorem dX8_plans_41 : decode cX8_plans 41 = .ok (.invokevirtual 185, 3) := by decide +kernel
theorem dX8_plans_44 : decode cX8_plans 44 = .ok (.istore_n 3, 1) := by decide +kernel
theorem dX8_plans_45 : decode cX8_plans 45 = .ok (.aload_n 0, 1) := by decide +kernel
theorem dX8_plans_46 : decode cX8_plans 46 = .ok (.getfield 66, 3) := by decide +kernel
theorem dX8_plans_49 : decode cX8_plans 49 = .ok (.aload_n 0, 1) := by decide +kernel
theorem dX8_plans_50 : decode cX8_plans 50 = .ok (.getfield 179, 3) := by decide +kernel
theorem dX8_plans_53 : decode cX8_plans 53 = .ok (.iload_n 3, 1) := by decide +kernel
theorem dX8_plans_54 : decode cX8_plans 54 = .ok (.iastore, 1) := by decide +kernel
theorem dX8_plans_55 : decode cX8_plans 55 = .ok (.aload_n 0, 1) := by decide +kernel
theorem dX8_plans_56 : decode cX8_plans 56 = .ok (.dup, 1) := by decide +kernel
theorem dX8_plans_57 : decode cX8_plans 57 = .ok (.getfield 179, 3) := by decide +kernel
theorem dX8_plans_60 : decode cX8_plans 60 = .ok (.iconst 1, 1) := by decide +kernel
theorem dX8_plans_61 : decode cX8_plans 61 = .ok (.iadd, 1) := by decide +kernel
theorem dX8_plans_62 : decode cX8_plans 62 = .ok (.putfield 179, 3) := by decide +kernel
theorem dX8_plans_65 : decode cX8_plans 65 = .ok (.goto (-31), 3) := by decide +kernel
theorem dX8_plans_68 : decode cX8_plans 68 = .ok (.iconst 1, 1) := by decide +kernel
theorem dX8_plans_69 : decode cX8_plans 69 = .ok (.ireturn, 1) := by decide +kernel
theorem dX8_planOf_0 : decode cX8_planOf 0 = .ok (.aload_n 0, 1) := by decide +kernel
theorem dX8_planOf_1 : decode cX8_planOf 1 = .ok (.invokevirtual 188, 3) := by decide +kernel
theorem dX8_planOf_4 : decode cX8_planOf 4 = .ok (.aload_n 0, 1) := by decide +kernel
theorem dX8_planOf_5 : decode cX8_planOf 5 = .ok (.iconst 0, 1) := by decide +kernel
theorem dX8_planOf_6 : decode cX8_planOf 6 = .ok (.invokevirtual 191, 3) := by decide +kernel
theorem dX8_planOf_9 : decode cX8_planOf 9 = .ok (.aload_n 0, 1) := by decide +kernel
theorem dX8_planOf_10 : decode cX8_planOf 10 = .ok (.iload_n 1, 1) := by decide +kernel
theorem dX8_planOf_11 : decode cX8_planOf 11 = .ok (.iload_n 2, 1) := by decide +kernel
theorem dX8_planOf_12 : decode cX8_planOf 12 = .ok (.invokevirtual 195, 3) := by decide +kernel
theorem dX8_planOf_15 : decode cX8_planOf 15 = .ok (.ifCond .ne 5, 3) := by decide +kernel
theorem dX8_planOf_18 : decode cX8_planOf 18 = .ok (.iconst (-1), 1) := by decide +kernel
theorem dX8_planOf_19 : decode cX8_planOf 19 = .ok (.ireturn, 1) := by decide +kernel
theorem dX8_planOf_20 : decode cX8_planOf 20 = .ok (.iload_n 3, 1) := by decide +kernel
theorem dX8_planOf_21 : decode cX8_planOf 21 = .ok (.iconst (-1), 1) := by decide +kernel
theorem dX8_planOf_22 : decode cX8_planOf 22 = .ok (.if_icmp .ne 12, 3) := by decide +kernel
theorem dX8_planOf_25 : decode cX8_planOf 25 = .ok (.aload_n 0, 1) := by decide +kernel
theorem dX8_planOf_26 : decode cX8_planOf 26 = .ok (.getfield 63, 3) := by decide +kernel
theorem dX8_planOf_29 : decode cX8_planOf 29 = .ok (.iload_n 1, 1) := by decide +kernel
theorem dX8_planOf_30 : decode cX8_planOf 30 = .ok (.iaload, 1) := by decide +kernel
theorem dX8_planOf_31 : decode cX8_planOf 31 = .ok (.goto 21, 3) := by decide +kernel
theorem dX8_planOf_34 : decode cX8_planOf 34 = .ok (.iload_n 3, 1) := by decide +kernel
theorem dX8_planOf_35 : decode cX8_planOf 35 = .ok (.aload_n 0, 1) := by decide +kernel
theorem dX8_planOf_36 : decode cX8_planOf 36 = .ok (.getfield 179, 3) := by decide +kernel
theorem dX8_planOf_39 : decode cX8_planOf 39 = .ok (.if_icmp .ge 12, 3) := by decide +kernel
theorem dX8_planOf_42 : decode cX8_planOf 42 = .ok (.aload_n 0, 1) := by decide +kernel
theorem dX8_planOf_43 : decode cX8_planOf 43 = .ok (.getfield 66, 3) := by decide +kernel
theorem dX8_planOf_46 : decode cX8_planOf 46 = .ok (.iload_n 3, 1) := by decide +kernel
theorem dX8_planOf_47 : decode cX8_planOf 47 = .ok (.iaload, 1) := by decide +kernel
theorem dX8_planOf_48 : decode cX8_planOf 48 = .ok (.goto 4, 3) := by decide +kernel
theorem dX8_planOf_51 : decode cX8_planOf 51 = .ok (.iconst (-1), 1) := by decide +kernel
theorem dX8_planOf_52 : decode cX8_planOf 52 = .ok (.ireturn, 1) := by decide +kernel
theorem dX8_plan_0 : decode cX8_plan 0 = .ok (.iload_n 1, 1) := by decide +kernel
theorem dX8_plan_1 : decode cX8_plan 1 = .ok (.invokestatic 125, 3) := by decide +kernel
theorem dX8_plan_4 : decode cX8_plan 4 = .ok (.ifCond .eq 25, 3) := by decide +kernel
theorem dX8_plan_7 : decode cX8_plan 7 = .ok (.iload_n 2, 1) := by decide +kernel
theorem dX8_plan_8 : decode cX8_plan 8 = .ok (.invokestatic 125, 3) := by decide +kernel
theorem dX8_plan_11 : decode cX8_plan 11 = .ok (.ifCond .eq 18, 3) := by decide +kernel
theorem dX8_plan_14 : decode cX8_plan 14 = .ok (.iload_n 3, 1) := by decide +kernel
theorem dX8_plan_15 : decode cX8_plan 15 = .ok (.iconst (-1), 1) := by decide +kernel
theorem dX8_plan_16 : decode cX8_plan 16 = .ok (.if_icmp .lt 13, 3) := by decide +kernel
theorem dX8_plan_19 : decode cX8_plan 19 = .ok (.aload_n 0, 1) := by decide +kernel
theorem dX8_plan_20 : decode cX8_plan 20 = .ok (.iload_n 1, 1) := by decide +kernel
theorem dX8_plan_21 : decode cX8_plan 21 = .ok (.iload_n 2, 1) := by decide +kernel
theorem dX8_plan_22 : decode cX8_plan 22 = .ok (.iload_n 3, 1) := by decide +kernel
theorem dX8_plan_23 : decode cX8_plan 23 = .ok (.invokevirtual 199, 3) := by decide +kernel
theorem dX8_plan_26 : decode cX8_plan 26 = .ok (.goto 5, 3) := by decide +kernel
theorem dX8_plan_29 : decode cX8_plan 29 = .ok (.bipush (-2), 2) := by decide +kernel
theorem dX8_plan_31 : decode cX8_plan 31 = .ok (.ireturn, 1) := by decide +kernel
theorem dX8_treads_0 : decode cX8_treads 0 = .ok (.aload_n 0, 1) := by decide +kernel
theorem dX8_treads_1 : decode cX8_treads 1 = .ok (.dup, 1) := by decide +kernel
theorem dX8_treads_2 : decode cX8_treads 2 = .ok (.getfield 152, 3) := by decide +kernel
theorem dX8_treads_5 : decode cX8_treads 5 = .ok (.iconst 1, 1) := by decide +kernel
theorem dX8_treads_6 : decode cX8_treads 6 = .ok (.aload_n 0, 1) := by decide +kernel
theorem dX8_treads_7 : decode cX8_treads 7 = .ok (.getfield 46, 3) := by decide +kernel
theorem dX8_treads_10 : decode cX8_treads 10 = .ok (.iload_n 1, 1) := by decide +kernel
theorem dX8_treads_11 : decode cX8_treads 11 = .ok (.iaload, 1) := by decide +kernel
theorem dX8_treads_12 : decode cX8_treads 12 = .ok (.iadd, 1) := by decide +kernel
theorem dX8_treads_13 : decode cX8_treads 13 = .ok (.iadd, 1) := by decide +kernel
theorem dX8_treads_14 : decode cX8_treads 14 = .ok (.putfield 152, 3) := by decide +kernel
theorem dX8_treads_17 : decode cX8_treads 17 = .ok (.aload_n 0, 1) := by decide +kernel
theorem dX8_treads_18 : decode cX8_treads 18 = .ok (.dup, 1) := by decide +kernel
theorem dX8_treads_19 : decode cX8_treads 19 = .ok (.getfield 155, 3) := by decide +kernel
theorem dX8_treads_22 : decode cX8_treads 22 = .ok (.iconst 1, 1) := by decide +kernel
theorem dX8_treads_23 : decode cX8_treads 23 = .ok (.iadd, 1) := by decide +kernel
theorem dX8_treads_24 : decode cX8_treads 24 = .ok (.putfield 155, 3) := by decide +kernel
theorem dX8_treads_27 : decode cX8_treads 27 = .ok (.aload_n 0, 1) := by decide +kernel
