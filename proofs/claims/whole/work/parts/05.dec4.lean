theorem dX8_treads_28 : decode cX8_treads 28 = .ok (.getfield 52, 3) := by decide +kernel
theorem dX8_treads_31 : decode cX8_treads 31 = .ok (.iload_n 1, 1) := by decide +kernel
theorem dX8_treads_32 : decode cX8_treads 32 = .ok (.dup2, 1) := by decide +kernel
theorem dX8_treads_33 : decode cX8_treads 33 = .ok (.iaload, 1) := by decide +kernel
theorem dX8_treads_34 : decode cX8_treads 34 = .ok (.iconst 1, 1) := by decide +kernel
theorem dX8_treads_35 : decode cX8_treads 35 = .ok (.iadd, 1) := by decide +kernel
theorem dX8_treads_36 : decode cX8_treads 36 = .ok (.iastore, 1) := by decide +kernel
theorem dX8_treads_37 : decode cX8_treads 37 = .ok (.aload_n 0, 1) := by decide +kernel
theorem dX8_treads_38 : decode cX8_treads 38 = .ok (.getfield 46, 3) := by decide +kernel
theorem dX8_treads_41 : decode cX8_treads 41 = .ok (.iload_n 1, 1) := by decide +kernel
theorem dX8_treads_42 : decode cX8_treads 42 = .ok (.iaload, 1) := by decide +kernel
theorem dX8_treads_43 : decode cX8_treads 43 = .ok (.ifCond .le 32, 3) := by decide +kernel
theorem dX8_treads_46 : decode cX8_treads 46 = .ok (.aload_n 0, 1) := by decide +kernel
theorem dX8_treads_47 : decode cX8_treads 47 = .ok (.getfield 46, 3) := by decide +kernel
theorem dX8_treads_50 : decode cX8_treads 50 = .ok (.iload_n 1, 1) := by decide +kernel
theorem dX8_treads_51 : decode cX8_treads 51 = .ok (.dup2, 1) := by decide +kernel
theorem dX8_treads_52 : decode cX8_treads 52 = .ok (.iaload, 1) := by decide +kernel
theorem dX8_treads_53 : decode cX8_treads 53 = .ok (.iconst 1, 1) := by decide +kernel
theorem dX8_treads_54 : decode cX8_treads 54 = .ok (.isub, 1) := by decide +kernel
theorem dX8_treads_55 : decode cX8_treads 55 = .ok (.iastore, 1) := by decide +kernel
theorem dX8_treads_56 : decode cX8_treads 56 = .ok (.aload_n 0, 1) := by decide +kernel
theorem dX8_treads_57 : decode cX8_treads 57 = .ok (.getfield 49, 3) := by decide +kernel
theorem dX8_treads_60 : decode cX8_treads 60 = .ok (.iload_n 1, 1) := by decide +kernel
theorem dX8_treads_61 : decode cX8_treads 61 = .ok (.aload_n 0, 1) := by decide +kernel
theorem dX8_treads_62 : decode cX8_treads 62 = .ok (.getfield 49, 3) := by decide +kernel
theorem dX8_treads_65 : decode cX8_treads 65 = .ok (.iload_n 1, 1) := by decide +kernel
theorem dX8_treads_66 : decode cX8_treads 66 = .ok (.iaload, 1) := by decide +kernel
theorem dX8_treads_67 : decode cX8_treads 67 = .ok (.iconst 1, 1) := by decide +kernel
theorem dX8_treads_68 : decode cX8_treads 68 = .ok (.iadd, 1) := by decide +kernel
theorem dX8_treads_69 : decode cX8_treads 69 = .ok (.bipush 30, 2) := by decide +kernel
theorem dX8_treads_71 : decode cX8_treads 71 = .ok (.invokestatic 135, 3) := by decide +kernel
theorem dX8_treads_74 : decode cX8_treads 74 = .ok (.iastore, 1) := by decide +kernel
theorem dX8_treads_75 : decode cX8_treads 75 = .ok (.return_, 1) := by decide +kernel
theorem dX8_walks_0 : decode cX8_walks 0 = .ok (.aload_n 0, 1) := by decide +kernel
theorem dX8_walks_1 : decode cX8_walks 1 = .ok (.iconst 0, 1) := by decide +kernel
theorem dX8_walks_2 : decode cX8_walks 2 = .ok (.invokevirtual 191, 3) := by decide +kernel
theorem dX8_walks_5 : decode cX8_walks 5 = .ok (.aload_n 0, 1) := by decide +kernel
theorem dX8_walks_6 : decode cX8_walks 6 = .ok (.getfield 40, 3) := by decide +kernel
theorem dX8_walks_9 : decode cX8_walks 9 = .ok (.iload_n 1, 1) := by decide +kernel
theorem dX8_walks_10 : decode cX8_walks 10 = .ok (.iaload, 1) := by decide +kernel
theorem dX8_walks_11 : decode cX8_walks 11 = .ok (.istore_n 2, 1) := by decide +kernel
theorem dX8_walks_12 : decode cX8_walks 12 = .ok (.aload_n 0, 1) := by decide +kernel
theorem dX8_walks_13 : decode cX8_walks 13 = .ok (.getfield 155, 3) := by decide +kernel
theorem dX8_walks_16 : decode cX8_walks 16 = .ok (.istore_n 3, 1) := by decide +kernel
theorem dX8_walks_17 : decode cX8_walks 17 = .ok (.aload_n 0, 1) := by decide +kernel
theorem dX8_walks_18 : decode cX8_walks 18 = .ok (.iload_n 2, 1) := by decide +kernel
theorem dX8_walks_19 : decode cX8_walks 19 = .ok (.aload_n 0, 1) := by decide +kernel
theorem dX8_walks_20 : decode cX8_walks 20 = .ok (.getfield 43, 3) := by decide +kernel
theorem dX8_walks_23 : decode cX8_walks 23 = .ok (.iload_n 1, 1) := by decide +kernel
theorem dX8_walks_24 : decode cX8_walks 24 = .ok (.iaload, 1) := by decide +kernel
theorem dX8_walks_25 : decode cX8_walks 25 = .ok (.invokevirtual 195, 3) := by decide +kernel
theorem dX8_walks_28 : decode cX8_walks 28 = .ok (.istore 4, 2) := by decide +kernel
theorem dX8_walks_30 : decode cX8_walks 30 = .ok (.iconst 0, 1) := by decide +kernel
theorem dX8_walks_31 : decode cX8_walks 31 = .ok (.istore 5, 2) := by decide +kernel
theorem dX8_walks_33 : decode cX8_walks 33 = .ok (.iload 4, 2) := by decide +kernel
theorem dX8_walks_35 : decode cX8_walks 35 = .ok (.ifCond .eq 73, 3) := by decide +kernel
theorem dX8_walks_38 : decode cX8_walks 38 = .ok (.iload_n 2, 1) := by decide +kernel
theorem dX8_walks_39 : decode cX8_walks 39 = .ok (.aload_n 0, 1) := by decide +kernel
theorem dX8_walks_40 : decode cX8_walks 40 = .ok (.getfield 43, 3) := by decide +kernel
theorem dX8_walks_43 : decode cX8_walks 43 = .ok (.iload_n 1, 1) := by decide +kernel
theorem dX8_walks_44 : decode cX8_walks 44 = .ok (.iaload, 1) := by decide +kernel
theorem dX8_walks_45 : decode cX8_walks 45 = .ok (.if_icmp .eq 63, 3) := by decide +kernel
theorem dX8_walks_48 : decode cX8_walks 48 = .ok (.aload_n 0, 1) := by decide +kernel
theorem dX8_walks_49 : decode cX8_walks 49 = .ok (.getfield 66, 3) := by decide +kernel
theorem dX8_walks_52 : decode cX8_walks 52 = .ok (.iload 5, 2) := by decide +kernel
theorem dX8_walks_54 : decode cX8_walks 54 = .ok (.iaload, 1) := by decide +kernel
theorem dX8_walks_55 : decode cX8_walks 55 = .ok (.istore 6, 2) := by decide +kernel
theorem dX8_walks_57 : decode cX8_walks 57 = .ok (.aload_n 0, 1) := by decide +kernel
theorem dX8_walks_58 : decode cX8_walks 58 = .ok (.iload 6, 2) := by decide +kernel
theorem dX8_walks_60 : decode cX8_walks 60 = .ok (.invokevirtual 164, 3) := by decide +kernel
theorem dX8_walks_63 : decode cX8_walks 63 = .ok (.ifCond .eq 30, 3) := by decide +kernel
theorem dX8_walks_66 : decode cX8_walks 66 = .ok (.aload_n 0, 1) := by decide +kernel
theorem dX8_walks_67 : decode cX8_walks 67 = .ok (.getfield 55, 3) := by decide +kernel
theorem dX8_walks_70 : decode cX8_walks 70 = .ok (.iload 6, 2) := by decide +kernel
theorem dX8_walks_72 : decode cX8_walks 72 = .ok (.iconst 1, 1) := by decide +kernel
theorem dX8_walks_73 : decode cX8_walks 73 = .ok (.bastore, 1) := by decide +kernel
theorem dX8_walks_74 : decode cX8_walks 74 = .ok (.aload_n 0, 1) := by decide +kernel
theorem dX8_walks_75 : decode cX8_walks 75 = .ok (.iload_n 2, 1) := by decide +kernel
theorem dX8_walks_76 : decode cX8_walks 76 = .ok (.aload_n 0, 1) := by decide +kernel
theorem dX8_walks_77 : decode cX8_walks 77 = .ok (.getfield 43, 3) := by decide +kernel
theorem dX8_walks_80 : decode cX8_walks 80 = .ok (.iload_n 1, 1) := by decide +kernel
theorem dX8_walks_81 : decode cX8_walks 81 = .ok (.iaload, 1) := by decide +kernel
theorem dX8_walks_82 : decode cX8_walks 82 = .ok (.invokevirtual 195, 3) := by decide +kernel
theorem dX8_walks_85 : decode cX8_walks 85 = .ok (.istore 4, 2) := by decide +kernel
theorem dX8_walks_87 : decode cX8_walks 87 = .ok (.iconst 0, 1) := by decide +kernel
theorem dX8_walks_88 : decode cX8_walks 88 = .ok (.istore 5, 2) := by decide +kernel
theorem dX8_walks_90 : decode cX8_walks 90 = .ok (.goto 15, 3) := by decide +kernel
theorem dX8_walks_93 : decode cX8_walks 93 = .ok (.aload_n 0, 1) := by decide +kernel
theorem dX8_walks_94 : decode cX8_walks 94 = .ok (.iload 6, 2) := by decide +kernel
theorem dX8_walks_96 : decode cX8_walks 96 = .ok (.invokevirtual 202, 3) := by decide +kernel
theorem dX8_walks_99 : decode cX8_walks 99 = .ok (.iload 6, 2) := by decide +kernel
theorem dX8_walks_101 : decode cX8_walks 101 = .ok (.istore_n 2, 1) := by decide +kernel
theorem dX8_walks_102 : decode cX8_walks 102 = .ok (.iinc 5 1, 3) := by decide +kernel
theorem dX8_walks_105 : decode cX8_walks 105 = .ok (.goto (-72), 3) := by decide +kernel
theorem dX8_walks_108 : decode cX8_walks 108 = .ok (.aload_n 0, 1) := by decide +kernel
theorem dX8_walks_109 : decode cX8_walks 109 = .ok (.dup, 1) := by decide +kernel
theorem dX8_walks_110 : decode cX8_walks 110 = .ok (.getfield 158, 3) := by decide +kernel
theorem dX8_walks_113 : decode cX8_walks 113 = .ok (.iload 4, 2) := by decide +kernel
theorem dX8_walks_115 : decode cX8_walks 115 = .ok (.ifCond .eq 7, 3) := by decide +kernel
theorem dX8_walks_118 : decode cX8_walks 118 = .ok (.iconst 0, 1) := by decide +kernel
theorem dX8_walks_119 : decode cX8_walks 119 = .ok (.goto 4, 3) := by decide +kernel
theorem dX8_walks_122 : decode cX8_walks 122 = .ok (.iconst 1, 1) := by decide +kernel
theorem dX8_walks_123 : decode cX8_walks 123 = .ok (.iadd, 1) := by decide +kernel
theorem dX8_walks_124 : decode cX8_walks 124 = .ok (.putfield 158, 3) := by decide +kernel
theorem dX8_walks_127 : decode cX8_walks 127 = .ok (.iload 4, 2) := by decide +kernel
theorem dX8_walks_129 : decode cX8_walks 129 = .ok (.ifCond .eq 24, 3) := by decide +kernel
theorem dX8_walks_132 : decode cX8_walks 132 = .ok (.aload_n 0, 1) := by decide +kernel
theorem dX8_walks_133 : decode cX8_walks 133 = .ok (.dup, 1) := by decide +kernel
theorem dX8_walks_134 : decode cX8_walks 134 = .ok (.getfield 161, 3) := by decide +kernel
theorem dX8_walks_137 : decode cX8_walks 137 = .ok (.aload_n 0, 1) := by decide +kernel
theorem dX8_walks_138 : decode cX8_walks 138 = .ok (.getfield 155, 3) := by decide +kernel
theorem dX8_walks_141 : decode cX8_walks 141 = .ok (.iload_n 3, 1) := by decide +kernel
theorem dX8_walks_142 : decode cX8_walks 142 = .ok (.isub, 1) := by decide +kernel
theorem dX8_walks_143 : decode cX8_walks 143 = .ok (.aload_n 0, 1) := by decide +kernel
theorem dX8_walks_144 : decode cX8_walks 144 = .ok (.iload_n 1, 1) := by decide +kernel
theorem dX8_walks_145 : decode cX8_walks 145 = .ok (.invokevirtual 206, 3) := by decide +kernel
theorem dX8_walks_148 : decode cX8_walks 148 = .ok (.isub, 1) := by decide +kernel
theorem dX8_walks_149 : decode cX8_walks 149 = .ok (.iadd, 1) := by decide +kernel
theorem dX8_walks_150 : decode cX8_walks 150 = .ok (.putfield 161, 3) := by decide +kernel
theorem dX8_walks_153 : decode cX8_walks 153 = .ok (.return_, 1) := by decide +kernel
theorem dX8_straightOf_0 : decode cX8_straightOf 0 = .ok (.aload_n 0, 1) := by decide +kernel
theorem dX8_straightOf_1 : decode cX8_straightOf 1 = .ok (.iconst 1, 1) := by decide +kernel
theorem dX8_straightOf_2 : decode cX8_straightOf 2 = .ok (.invokevirtual 191, 3) := by decide +kernel
theorem dX8_straightOf_5 : decode cX8_straightOf 5 = .ok (.aload_n 0, 1) := by decide +kernel
theorem dX8_straightOf_6 : decode cX8_straightOf 6 = .ok (.aload_n 0, 1) := by decide +kernel
theorem dX8_straightOf_7 : decode cX8_straightOf 7 = .ok (.getfield 43, 3) := by decide +kernel
theorem dX8_straightOf_10 : decode cX8_straightOf 10 = .ok (.iload_n 1, 1) := by decide +kernel
theorem dX8_straightOf_11 : decode cX8_straightOf 11 = .ok (.iaload, 1) := by decide +kernel
theorem dX8_straightOf_12 : decode cX8_straightOf 12 = .ok (.iconst 1, 1) := by decide +kernel
theorem dX8_straightOf_13 : decode cX8_straightOf 13 = .ok (.invokevirtual 175, 3) := by decide +kernel
theorem dX8_straightOf_16 : decode cX8_straightOf 16 = .ok (.aload_n 0, 1) := by decide +kernel
theorem dX8_straightOf_17 : decode cX8_straightOf 17 = .ok (.aload_n 0, 1) := by decide +kernel
theorem dX8_straightOf_18 : decode cX8_straightOf 18 = .ok (.getfield 40, 3) := by decide +kernel
theorem dX8_straightOf_21 : decode cX8_straightOf 21 = .ok (.iload_n 1, 1) := by decide +kernel
theorem dX8_straightOf_22 : decode cX8_straightOf 22 = .ok (.iaload, 1) := by decide +kernel
theorem dX8_straightOf_23 : decode cX8_straightOf 23 = .ok (.invokevirtual 182, 3) := by decide +kernel
theorem dX8_straightOf_26 : decode cX8_straightOf 26 = .ok (.ifCond .eq 33, 3) := by decide +kernel
theorem dX8_straightOf_29 : decode cX8_straightOf 29 = .ok (.aload_n 0, 1) := by decide +kernel
theorem dX8_straightOf_30 : decode cX8_straightOf 30 = .ok (.getfield 63, 3) := by decide +kernel
theorem dX8_straightOf_33 : decode cX8_straightOf 33 = .ok (.aload_n 0, 1) := by decide +kernel
theorem dX8_straightOf_34 : decode cX8_straightOf 34 = .ok (.getfield 40, 3) := by decide +kernel
theorem dX8_straightOf_37 : decode cX8_straightOf 37 = .ok (.iload_n 1, 1) := by decide +kernel
theorem dX8_straightOf_38 : decode cX8_straightOf 38 = .ok (.iaload, 1) := by decide +kernel
theorem dX8_straightOf_39 : decode cX8_straightOf 39 = .ok (.iaload, 1) := by decide +kernel
theorem dX8_straightOf_40 : decode cX8_straightOf 40 = .ok (.ldc 170, 2) := by decide +kernel
theorem dX8_straightOf_42 : decode cX8_straightOf 42 = .ok (.if_icmp .ge 17, 3) := by decide +kernel
theorem dX8_straightOf_45 : decode cX8_straightOf 45 = .ok (.aload_n 0, 1) := by decide +kernel
theorem dX8_straightOf_46 : decode cX8_straightOf 46 = .ok (.getfield 63, 3) := by decide +kernel
theorem dX8_straightOf_49 : decode cX8_straightOf 49 = .ok (.aload_n 0, 1) := by decide +kernel
theorem dX8_straightOf_50 : decode cX8_straightOf 50 = .ok (.getfield 40, 3) := by decide +kernel
theorem dX8_straightOf_53 : decode cX8_straightOf 53 = .ok (.iload_n 1, 1) := by decide +kernel
theorem dX8_straightOf_54 : decode cX8_straightOf 54 = .ok (.iaload, 1) := by decide +kernel
theorem dX8_straightOf_55 : decode cX8_straightOf 55 = .ok (.iaload, 1) := by decide +kernel
theorem dX8_straightOf_56 : decode cX8_straightOf 56 = .ok (.goto 4, 3) := by decide +kernel
theorem dX8_straightOf_59 : decode cX8_straightOf 59 = .ok (.iconst (-1), 1) := by decide +kernel
theorem dX8_straightOf_60 : decode cX8_straightOf 60 = .ok (.ireturn, 1) := by decide +kernel
theorem dX8_becomes_0 : decode cX8_becomes 0 = .ok (.iconst 0, 1) := by decide +kernel
theorem dX8_becomes_1 : decode cX8_becomes 1 = .ok (.istore_n 1, 1) := by decide +kernel
theorem dX8_becomes_2 : decode cX8_becomes 2 = .ok (.iload_n 1, 1) := by decide +kernel
theorem dX8_becomes_3 : decode cX8_becomes 3 = .ok (.bipush 64, 2) := by decide +kernel
theorem dX8_becomes_5 : decode cX8_becomes 5 = .ok (.if_icmp .ge 48, 3) := by decide +kernel
theorem dX8_becomes_8 : decode cX8_becomes 8 = .ok (.aload_n 0, 1) := by decide +kernel
theorem dX8_becomes_9 : decode cX8_becomes 9 = .ok (.getfield 28, 3) := by decide +kernel
theorem dX8_becomes_12 : decode cX8_becomes 12 = .ok (.iload_n 1, 1) := by decide +kernel
theorem dX8_becomes_13 : decode cX8_becomes 13 = .ok (.aload_n 0, 1) := by decide +kernel
theorem dX8_becomes_14 : decode cX8_becomes 14 = .ok (.getfield 46, 3) := by decide +kernel
theorem dX8_becomes_17 : decode cX8_becomes 17 = .ok (.iload_n 1, 1) := by decide +kernel
theorem dX8_becomes_18 : decode cX8_becomes 18 = .ok (.iaload, 1) := by decide +kernel
theorem dX8_becomes_19 : decode cX8_becomes 19 = .ok (.iastore, 1) := by decide +kernel
theorem dX8_becomes_20 : decode cX8_becomes 20 = .ok (.aload_n 0, 1) := by decide +kernel
theorem dX8_becomes_21 : decode cX8_becomes 21 = .ok (.getfield 31, 3) := by decide +kernel
theorem dX8_becomes_24 : decode cX8_becomes 24 = .ok (.iload_n 1, 1) := by decide +kernel
theorem dX8_becomes_25 : decode cX8_becomes 25 = .ok (.aload_n 0, 1) := by decide +kernel
theorem dX8_becomes_26 : decode cX8_becomes 26 = .ok (.getfield 49, 3) := by decide +kernel
theorem dX8_becomes_29 : decode cX8_becomes 29 = .ok (.iload_n 1, 1) := by decide +kernel
theorem dX8_becomes_30 : decode cX8_becomes 30 = .ok (.iaload, 1) := by decide +kernel
theorem dX8_becomes_31 : decode cX8_becomes 31 = .ok (.iastore, 1) := by decide +kernel
theorem dX8_becomes_32 : decode cX8_becomes 32 = .ok (.aload_n 0, 1) := by decide +kernel
theorem dX8_becomes_33 : decode cX8_becomes 33 = .ok (.getfield 37, 3) := by decide +kernel
theorem dX8_becomes_36 : decode cX8_becomes 36 = .ok (.iload_n 1, 1) := by decide +kernel
theorem dX8_becomes_37 : decode cX8_becomes 37 = .ok (.dup2, 1) := by decide +kernel
theorem dX8_becomes_38 : decode cX8_becomes 38 = .ok (.iaload, 1) := by decide +kernel
theorem dX8_becomes_39 : decode cX8_becomes 39 = .ok (.aload_n 0, 1) := by decide +kernel
theorem dX8_becomes_40 : decode cX8_becomes 40 = .ok (.getfield 52, 3) := by decide +kernel
theorem dX8_becomes_43 : decode cX8_becomes 43 = .ok (.iload_n 1, 1) := by decide +kernel
theorem dX8_becomes_44 : decode cX8_becomes 44 = .ok (.iaload, 1) := by decide +kernel
theorem dX8_becomes_45 : decode cX8_becomes 45 = .ok (.iadd, 1) := by decide +kernel
theorem dX8_becomes_46 : decode cX8_becomes 46 = .ok (.iastore, 1) := by decide +kernel
theorem dX8_becomes_47 : decode cX8_becomes 47 = .ok (.iinc 1 1, 3) := by decide +kernel
theorem dX8_becomes_50 : decode cX8_becomes 50 = .ok (.goto (-48), 3) := by decide +kernel
theorem dX8_becomes_53 : decode cX8_becomes 53 = .ok (.aload_n 0, 1) := by decide +kernel
theorem dX8_becomes_54 : decode cX8_becomes 54 = .ok (.getfield 152, 3) := by decide +kernel
theorem dX8_becomes_57 : decode cX8_becomes 57 = .ok (.ireturn, 1) := by decide +kernel
theorem dX8_walk_0 : decode cX8_walk 0 = .ok (.aload_n 0, 1) := by decide +kernel
theorem dX8_walk_1 : decode cX8_walk 1 = .ok (.iload_n 1, 1) := by decide +kernel
theorem dX8_walk_2 : decode cX8_walk 2 = .ok (.invokevirtual 209, 3) := by decide +kernel
theorem dX8_walk_5 : decode cX8_walk 5 = .ok (.ifCond .ne 6, 3) := by decide +kernel
theorem dX8_walk_8 : decode cX8_walk 8 = .ok (.bipush (-2), 2) := by decide +kernel
theorem dX8_walk_10 : decode cX8_walk 10 = .ok (.ireturn, 1) := by decide +kernel
theorem dX8_walk_11 : decode cX8_walk 11 = .ok (.aload_n 0, 1) := by decide +kernel
theorem dX8_walk_12 : decode cX8_walk 12 = .ok (.invokevirtual 188, 3) := by decide +kernel
theorem dX8_walk_15 : decode cX8_walk 15 = .ok (.aload_n 0, 1) := by decide +kernel
theorem dX8_walk_16 : decode cX8_walk 16 = .ok (.iload_n 1, 1) := by decide +kernel
theorem dX8_walk_17 : decode cX8_walk 17 = .ok (.invokevirtual 212, 3) := by decide +kernel
theorem dX8_walk_20 : decode cX8_walk 20 = .ok (.aload_n 0, 1) := by decide +kernel
theorem dX8_walk_21 : decode cX8_walk 21 = .ok (.invokevirtual 215, 3) := by decide +kernel
theorem dX8_walk_24 : decode cX8_walk 24 = .ok (.ireturn, 1) := by decide +kernel
theorem dX8_mornings_0 : decode cX8_mornings 0 = .ok (.iconst 0, 1) := by decide +kernel
theorem dX8_mornings_1 : decode cX8_mornings 1 = .ok (.istore_n 1, 1) := by decide +kernel
theorem dX8_mornings_2 : decode cX8_mornings 2 = .ok (.iload_n 1, 1) := by decide +kernel
theorem dX8_mornings_3 : decode cX8_mornings 3 = .ok (.aload_n 0, 1) := by decide +kernel
theorem dX8_mornings_4 : decode cX8_mornings 4 = .ok (.getfield 146, 3) := by decide +kernel
theorem dX8_mornings_7 : decode cX8_mornings 7 = .ok (.if_icmp .ge 14, 3) := by decide +kernel
theorem dX8_mornings_10 : decode cX8_mornings 10 = .ok (.aload_n 0, 1) := by decide +kernel
theorem dX8_mornings_11 : decode cX8_mornings 11 = .ok (.iload_n 1, 1) := by decide +kernel
theorem dX8_mornings_12 : decode cX8_mornings 12 = .ok (.invokevirtual 212, 3) := by decide +kernel
theorem dX8_mornings_15 : decode cX8_mornings 15 = .ok (.iinc 1 1, 3) := by decide +kernel
theorem dX8_mornings_18 : decode cX8_mornings 18 = .ok (.goto (-16), 3) := by decide +kernel
theorem dX8_mornings_21 : decode cX8_mornings 21 = .ok (.return_, 1) := by decide +kernel
theorem dX8_morning_0 : decode cX8_morning 0 = .ok (.aload_n 0, 1) := by decide +kernel
theorem dX8_morning_1 : decode cX8_morning 1 = .ok (.invokevirtual 188, 3) := by decide +kernel
theorem dX8_morning_4 : decode cX8_morning 4 = .ok (.aload_n 0, 1) := by decide +kernel
theorem dX8_morning_5 : decode cX8_morning 5 = .ok (.invokevirtual 218, 3) := by decide +kernel
theorem dX8_morning_8 : decode cX8_morning 8 = .ok (.aload_n 0, 1) := by decide +kernel
theorem dX8_morning_9 : decode cX8_morning 9 = .ok (.invokevirtual 215, 3) := by decide +kernel
theorem dX8_morning_12 : decode cX8_morning 12 = .ok (.ireturn, 1) := by decide +kernel
theorem dX8_allOf_0 : decode cX8_allOf 0 = .ok (.aload_n 0, 1) := by decide +kernel
theorem dX8_allOf_1 : decode cX8_allOf 1 = .ok (.invokevirtual 188, 3) := by decide +kernel
theorem dX8_allOf_4 : decode cX8_allOf 4 = .ok (.aload_n 0, 1) := by decide +kernel
theorem dX8_allOf_5 : decode cX8_allOf 5 = .ok (.invokevirtual 218, 3) := by decide +kernel
theorem dX8_allOf_8 : decode cX8_allOf 8 = .ok (.iconst 0, 1) := by decide +kernel
theorem dX8_allOf_9 : decode cX8_allOf 9 = .ok (.istore_n 2, 1) := by decide +kernel
theorem dX8_allOf_10 : decode cX8_allOf 10 = .ok (.iconst 0, 1) := by decide +kernel
theorem dX8_allOf_11 : decode cX8_allOf 11 = .ok (.istore_n 3, 1) := by decide +kernel
theorem dX8_allOf_12 : decode cX8_allOf 12 = .ok (.iload_n 3, 1) := by decide +kernel
theorem dX8_allOf_13 : decode cX8_allOf 13 = .ok (.bipush 64, 2) := by decide +kernel
theorem dX8_allOf_15 : decode cX8_allOf 15 = .ok (.if_icmp .ge 26, 3) := by decide +kernel
theorem dX8_allOf_18 : decode cX8_allOf 18 = .ok (.iload_n 2, 1) := by decide +kernel
theorem dX8_allOf_19 : decode cX8_allOf 19 = .ok (.aload_n 0, 1) := by decide +kernel
theorem dX8_allOf_20 : decode cX8_allOf 20 = .ok (.getfield 52, 3) := by decide +kernel
theorem dX8_allOf_23 : decode cX8_allOf 23 = .ok (.iload_n 3, 1) := by decide +kernel
theorem dX8_allOf_24 : decode cX8_allOf 24 = .ok (.iaload, 1) := by decide +kernel
theorem dX8_allOf_25 : decode cX8_allOf 25 = .ok (.ifCond .le 7, 3) := by decide +kernel
theorem dX8_allOf_28 : decode cX8_allOf 28 = .ok (.iconst 1, 1) := by decide +kernel
theorem dX8_allOf_29 : decode cX8_allOf 29 = .ok (.goto 4, 3) := by decide +kernel
theorem dX8_allOf_32 : decode cX8_allOf 32 = .ok (.iconst 0, 1) := by decide +kernel
theorem dX8_allOf_33 : decode cX8_allOf 33 = .ok (.iadd, 1) := by decide +kernel
theorem dX8_allOf_34 : decode cX8_allOf 34 = .ok (.istore_n 2, 1) := by decide +kernel
theorem dX8_allOf_35 : decode cX8_allOf 35 = .ok (.iinc 3 1, 3) := by decide +kernel
theorem dX8_allOf_38 : decode cX8_allOf 38 = .ok (.goto (-26), 3) := by decide +kernel
theorem dX8_allOf_41 : decode cX8_allOf 41 = .ok (.iload_n 1, 1) := by decide +kernel
theorem dX8_allOf_42 : decode cX8_allOf 42 = .ok (.ifCond .ne 10, 3) := by decide +kernel
theorem dX8_allOf_45 : decode cX8_allOf 45 = .ok (.aload_n 0, 1) := by decide +kernel
theorem dX8_allOf_46 : decode cX8_allOf 46 = .ok (.getfield 152, 3) := by decide +kernel
theorem dX8_allOf_49 : decode cX8_allOf 49 = .ok (.goto 28, 3) := by decide +kernel
theorem dX8_allOf_52 : decode cX8_allOf 52 = .ok (.iload_n 1, 1) := by decide +kernel
theorem dX8_allOf_53 : decode cX8_allOf 53 = .ok (.iconst 1, 1) := by decide +kernel
theorem dX8_allOf_54 : decode cX8_allOf 54 = .ok (.if_icmp .ne 10, 3) := by decide +kernel
theorem dX8_allOf_57 : decode cX8_allOf 57 = .ok (.aload_n 0, 1) := by decide +kernel
theorem dX8_allOf_58 : decode cX8_allOf 58 = .ok (.getfield 155, 3) := by decide +kernel
theorem dX8_allOf_61 : decode cX8_allOf 61 = .ok (.goto 16, 3) := by decide +kernel
theorem dX8_allOf_64 : decode cX8_allOf 64 = .ok (.iload_n 1, 1) := by decide +kernel
theorem dX8_allOf_65 : decode cX8_allOf 65 = .ok (.iconst 2, 1) := by decide +kernel
theorem dX8_allOf_66 : decode cX8_allOf 66 = .ok (.if_icmp .ne 7, 3) := by decide +kernel
theorem dX8_allOf_69 : decode cX8_allOf 69 = .ok (.iload_n 2, 1) := by decide +kernel
theorem dX8_allOf_70 : decode cX8_allOf 70 = .ok (.goto 7, 3) := by decide +kernel
theorem dX8_allOf_73 : decode cX8_allOf 73 = .ok (.aload_n 0, 1) := by decide +kernel
theorem dX8_allOf_74 : decode cX8_allOf 74 = .ok (.getfield 158, 3) := by decide +kernel
theorem dX8_allOf_77 : decode cX8_allOf 77 = .ok (.ireturn, 1) := by decide +kernel
theorem dX8_all_0 : decode cX8_all 0 = .ok (.iload_n 1, 1) := by decide +kernel
theorem dX8_all_1 : decode cX8_all 1 = .ok (.i2l, 1) := by decide +kernel
theorem dX8_all_2 : decode cX8_all 2 = .ok (.lconst 0, 1) := by decide +kernel
theorem dX8_all_3 : decode cX8_all 3 = .ok (.ldc2_w 89, 3) := by decide +kernel
theorem dX8_all_6 : decode cX8_all 6 = .ok (.invokestatic 80, 3) := by decide +kernel
theorem dX8_all_9 : decode cX8_all 9 = .ok (.ifCond .eq 11, 3) := by decide +kernel
theorem dX8_all_12 : decode cX8_all 12 = .ok (.aload_n 0, 1) := by decide +kernel
theorem dX8_all_13 : decode cX8_all 13 = .ok (.iload_n 1, 1) := by decide +kernel
theorem dX8_all_14 : decode cX8_all 14 = .ok (.invokevirtual 221, 3) := by decide +kernel
theorem dX8_all_17 : decode cX8_all 17 = .ok (.goto 5, 3) := by decide +kernel
theorem dX8_all_20 : decode cX8_all 20 = .ok (.bipush (-2), 2) := by decide +kernel
theorem dX8_all_22 : decode cX8_all 22 = .ok (.ireturn, 1) := by decide +kernel
theorem dX8_straight_0 : decode cX8_straight 0 = .ok (.aload_n 0, 1) := by decide +kernel
theorem dX8_straight_1 : decode cX8_straight 1 = .ok (.iload_n 1, 1) := by decide +kernel
theorem dX8_straight_2 : decode cX8_straight 2 = .ok (.invokevirtual 209, 3) := by decide +kernel
theorem dX8_straight_5 : decode cX8_straight 5 = .ok (.ifCond .ne 6, 3) := by decide +kernel
theorem dX8_straight_8 : decode cX8_straight 8 = .ok (.bipush (-2), 2) := by decide +kernel
theorem dX8_straight_10 : decode cX8_straight 10 = .ok (.ireturn, 1) := by decide +kernel
theorem dX8_straight_11 : decode cX8_straight 11 = .ok (.aload_n 0, 1) := by decide +kernel
theorem dX8_straight_12 : decode cX8_straight 12 = .ok (.invokevirtual 188, 3) := by decide +kernel
theorem dX8_straight_15 : decode cX8_straight 15 = .ok (.aload_n 0, 1) := by decide +kernel
theorem dX8_straight_16 : decode cX8_straight 16 = .ok (.iload_n 1, 1) := by decide +kernel
theorem dX8_straight_17 : decode cX8_straight 17 = .ok (.invokevirtual 206, 3) := by decide +kernel
theorem dX8_straight_20 : decode cX8_straight 20 = .ok (.ireturn, 1) := by decide +kernel
theorem dX8_longerNow_0 : decode cX8_longerNow 0 = .ok (.aload_n 0, 1) := by decide +kernel
theorem dX8_longerNow_1 : decode cX8_longerNow 1 = .ok (.invokevirtual 188, 3) := by decide +kernel
theorem dX8_longerNow_4 : decode cX8_longerNow 4 = .ok (.aload_n 0, 1) := by decide +kernel
theorem dX8_longerNow_5 : decode cX8_longerNow 5 = .ok (.invokevirtual 218, 3) := by decide +kernel
theorem dX8_longerNow_8 : decode cX8_longerNow 8 = .ok (.aload_n 0, 1) := by decide +kernel
theorem dX8_longerNow_9 : decode cX8_longerNow 9 = .ok (.getfield 161, 3) := by decide +kernel
theorem dX8_longerNow_12 : decode cX8_longerNow 12 = .ok (.ireturn, 1) := by decide +kernel
theorem dX8_longer_0 : decode cX8_longer 0 = .ok (.aload_n 0, 1) := by decide +kernel
theorem dX8_longer_1 : decode cX8_longer 1 = .ok (.invokevirtual 224, 3) := by decide +kernel
theorem dX8_longer_4 : decode cX8_longer 4 = .ok (.ireturn, 1) := by decide +kernel
theorem dX8_codes_0 : decode cX8_codes 0 = .ok (.iconst 1, 1) := by decide +kernel
theorem dX8_codes_1 : decode cX8_codes 1 = .ok (.istore_n 1, 1) := by decide +kernel
theorem dX8_codes_2 : decode cX8_codes 2 = .ok (.iconst 0, 1) := by decide +kernel
theorem dX8_codes_3 : decode cX8_codes 3 = .ok (.istore_n 2, 1) := by decide +kernel
theorem dX8_codes_4 : decode cX8_codes 4 = .ok (.iload_n 2, 1) := by decide +kernel
theorem dX8_codes_5 : decode cX8_codes 5 = .ok (.aload_n 0, 1) := by decide +kernel
theorem dX8_codes_6 : decode cX8_codes 6 = .ok (.getfield 146, 3) := by decide +kernel
theorem dX8_codes_9 : decode cX8_codes 9 = .ok (.if_icmp .ge 16, 3) := by decide +kernel
theorem dX8_codes_12 : decode cX8_codes 12 = .ok (.iload_n 1, 1) := by decide +kernel
theorem dX8_codes_13 : decode cX8_codes 13 = .ok (.aload_n 0, 1) := by decide +kernel
theorem dX8_codes_14 : decode cX8_codes 14 = .ok (.getfield 146, 3) := by decide +kernel
theorem dX8_codes_17 : decode cX8_codes 17 = .ok (.imul, 1) := by decide +kernel
theorem dX8_codes_18 : decode cX8_codes 18 = .ok (.istore_n 1, 1) := by decide +kernel
theorem dX8_codes_19 : decode cX8_codes 19 = .ok (.iinc 2 1, 3) := by decide +kernel
theorem dX8_codes_22 : decode cX8_codes 22 = .ok (.goto (-18), 3) := by decide +kernel
theorem dX8_codes_25 : decode cX8_codes 25 = .ok (.iload_n 1, 1) := by decide +kernel
theorem dX8_codes_26 : decode cX8_codes 26 = .ok (.ireturn, 1) := by decide +kernel
theorem dX8_isOrder_0 : decode cX8_isOrder 0 = .ok (.iconst 0, 1) := by decide +kernel
theorem dX8_isOrder_1 : decode cX8_isOrder 1 = .ok (.istore_n 2, 1) := by decide +kernel
theorem dX8_isOrder_2 : decode cX8_isOrder 2 = .ok (.iload_n 1, 1) := by decide +kernel
theorem dX8_isOrder_3 : decode cX8_isOrder 3 = .ok (.istore_n 3, 1) := by decide +kernel
theorem dX8_isOrder_4 : decode cX8_isOrder 4 = .ok (.aload_n 0, 1) := by decide +kernel
theorem dX8_isOrder_5 : decode cX8_isOrder 5 = .ok (.getfield 146, 3) := by decide +kernel
theorem dX8_isOrder_8 : decode cX8_isOrder 8 = .ok (.iconst 1, 1) := by decide +kernel
theorem dX8_isOrder_9 : decode cX8_isOrder 9 = .ok (.isub, 1) := by decide +kernel
theorem dX8_isOrder_10 : decode cX8_isOrder 10 = .ok (.istore 4, 2) := by decide +kernel
theorem dX8_isOrder_12 : decode cX8_isOrder 12 = .ok (.iload 4, 2) := by decide +kernel
theorem dX8_isOrder_14 : decode cX8_isOrder 14 = .ok (.ifCond .lt 41, 3) := by decide +kernel
theorem dX8_isOrder_17 : decode cX8_isOrder 17 = .ok (.aload_n 0, 1) := by decide +kernel
theorem dX8_isOrder_18 : decode cX8_isOrder 18 = .ok (.getfield 69, 3) := by decide +kernel
theorem dX8_isOrder_21 : decode cX8_isOrder 21 = .ok (.iload 4, 2) := by decide +kernel
theorem dX8_isOrder_23 : decode cX8_isOrder 23 = .ok (.iload_n 3, 1) := by decide +kernel
theorem dX8_isOrder_24 : decode cX8_isOrder 24 = .ok (.aload_n 0, 1) := by decide +kernel
theorem dX8_isOrder_25 : decode cX8_isOrder 25 = .ok (.getfield 146, 3) := by decide +kernel
theorem dX8_isOrder_28 : decode cX8_isOrder 28 = .ok (.irem, 1) := by decide +kernel
theorem dX8_isOrder_29 : decode cX8_isOrder 29 = .ok (.iastore, 1) := by decide +kernel
theorem dX8_isOrder_30 : decode cX8_isOrder 30 = .ok (.iload_n 3, 1) := by decide +kernel
theorem dX8_isOrder_31 : decode cX8_isOrder 31 = .ok (.aload_n 0, 1) := by decide +kernel
theorem dX8_isOrder_32 : decode cX8_isOrder 32 = .ok (.getfield 146, 3) := by decide +kernel
theorem dX8_isOrder_35 : decode cX8_isOrder 35 = .ok (.idiv, 1) := by decide +kernel
theorem dX8_isOrder_36 : decode cX8_isOrder 36 = .ok (.istore_n 3, 1) := by decide +kernel
theorem dX8_isOrder_37 : decode cX8_isOrder 37 = .ok (.iload_n 2, 1) := by decide +kernel
theorem dX8_isOrder_38 : decode cX8_isOrder 38 = .ok (.iconst 1, 1) := by decide +kernel
theorem dX8_isOrder_39 : decode cX8_isOrder 39 = .ok (.aload_n 0, 1) := by decide +kernel
theorem dX8_isOrder_40 : decode cX8_isOrder 40 = .ok (.getfield 69, 3) := by decide +kernel
theorem dX8_isOrder_43 : decode cX8_isOrder 43 = .ok (.iload 4, 2) := by decide +kernel
theorem dX8_isOrder_45 : decode cX8_isOrder 45 = .ok (.iaload, 1) := by decide +kernel
theorem dX8_isOrder_46 : decode cX8_isOrder 46 = .ok (.ishl, 1) := by decide +kernel
theorem dX8_isOrder_47 : decode cX8_isOrder 47 = .ok (.ior, 1) := by decide +kernel
theorem dX8_isOrder_48 : decode cX8_isOrder 48 = .ok (.istore_n 2, 1) := by decide +kernel
theorem dX8_isOrder_49 : decode cX8_isOrder 49 = .ok (.iinc 4 (-1), 3) := by decide +kernel
theorem dX8_isOrder_52 : decode cX8_isOrder 52 = .ok (.goto (-40), 3) := by decide +kernel
theorem dX8_isOrder_55 : decode cX8_isOrder 55 = .ok (.iload_n 2, 1) := by decide +kernel
theorem dX8_isOrder_56 : decode cX8_isOrder 56 = .ok (.iconst 1, 1) := by decide +kernel
theorem dX8_isOrder_57 : decode cX8_isOrder 57 = .ok (.aload_n 0, 1) := by decide +kernel
theorem dX8_isOrder_58 : decode cX8_isOrder 58 = .ok (.getfield 146, 3) := by decide +kernel
theorem dX8_isOrder_61 : decode cX8_isOrder 61 = .ok (.ishl, 1) := by decide +kernel
theorem dX8_isOrder_62 : decode cX8_isOrder 62 = .ok (.iconst 1, 1) := by decide +kernel
theorem dX8_isOrder_63 : decode cX8_isOrder 63 = .ok (.isub, 1) := by decide +kernel
theorem dX8_isOrder_64 : decode cX8_isOrder 64 = .ok (.if_icmp .ne 7, 3) := by decide +kernel
theorem dX8_isOrder_67 : decode cX8_isOrder 67 = .ok (.iconst 1, 1) := by decide +kernel
theorem dX8_isOrder_68 : decode cX8_isOrder 68 = .ok (.goto 4, 3) := by decide +kernel
theorem dX8_isOrder_71 : decode cX8_isOrder 71 = .ok (.iconst 0, 1) := by decide +kernel
theorem dX8_isOrder_72 : decode cX8_isOrder 72 = .ok (.ireturn, 1) := by decide +kernel
theorem dX8_triesRow_0 : decode cX8_triesRow 0 = .ok (.aload_n 0, 1) := by decide +kernel
theorem dX8_triesRow_1 : decode cX8_triesRow 1 = .ok (.invokevirtual 149, 3) := by decide +kernel
theorem dX8_triesRow_4 : decode cX8_triesRow 4 = .ok (.iconst 0, 1) := by decide +kernel
theorem dX8_triesRow_5 : decode cX8_triesRow 5 = .ok (.istore_n 1, 1) := by decide +kernel
theorem dX8_triesRow_6 : decode cX8_triesRow 6 = .ok (.iload_n 1, 1) := by decide +kernel
theorem dX8_triesRow_7 : decode cX8_triesRow 7 = .ok (.aload_n 0, 1) := by decide +kernel
theorem dX8_triesRow_8 : decode cX8_triesRow 8 = .ok (.getfield 146, 3) := by decide +kernel
theorem dX8_triesRow_11 : decode cX8_triesRow 11 = .ok (.if_icmp .ge 19, 3) := by decide +kernel
theorem dX8_triesRow_14 : decode cX8_triesRow 14 = .ok (.aload_n 0, 1) := by decide +kernel
theorem dX8_triesRow_15 : decode cX8_triesRow 15 = .ok (.aload_n 0, 1) := by decide +kernel
theorem dX8_triesRow_16 : decode cX8_triesRow 16 = .ok (.getfield 69, 3) := by decide +kernel
theorem dX8_triesRow_19 : decode cX8_triesRow 19 = .ok (.iload_n 1, 1) := by decide +kernel
theorem dX8_triesRow_20 : decode cX8_triesRow 20 = .ok (.iaload, 1) := by decide +kernel
theorem dX8_triesRow_21 : decode cX8_triesRow 21 = .ok (.invokevirtual 212, 3) := by decide +kernel
theorem dX8_triesRow_24 : decode cX8_triesRow 24 = .ok (.iinc 1 1, 3) := by decide +kernel
theorem dX8_triesRow_27 : decode cX8_triesRow 27 = .ok (.goto (-21), 3) := by decide +kernel
theorem dX8_triesRow_30 : decode cX8_triesRow 30 = .ok (.return_, 1) := by decide +kernel
theorem dX8_keepsRow_0 : decode cX8_keepsRow 0 = .ok (.iconst 0, 1) := by decide +kernel
theorem dX8_keepsRow_1 : decode cX8_keepsRow 1 = .ok (.istore_n 1, 1) := by decide +kernel
theorem dX8_keepsRow_2 : decode cX8_keepsRow 2 = .ok (.iload_n 1, 1) := by decide +kernel
theorem dX8_keepsRow_3 : decode cX8_keepsRow 3 = .ok (.aload_n 0, 1) := by decide +kernel
theorem dX8_keepsRow_4 : decode cX8_keepsRow 4 = .ok (.getfield 146, 3) := by decide +kernel
theorem dX8_keepsRow_7 : decode cX8_keepsRow 7 = .ok (.if_icmp .ge 21, 3) := by decide +kernel
theorem dX8_keepsRow_10 : decode cX8_keepsRow 10 = .ok (.aload_n 0, 1) := by decide +kernel
theorem dX8_keepsRow_11 : decode cX8_keepsRow 11 = .ok (.getfield 72, 3) := by decide +kernel
theorem dX8_keepsRow_14 : decode cX8_keepsRow 14 = .ok (.iload_n 1, 1) := by decide +kernel
theorem dX8_keepsRow_15 : decode cX8_keepsRow 15 = .ok (.aload_n 0, 1) := by decide +kernel
theorem dX8_keepsRow_16 : decode cX8_keepsRow 16 = .ok (.getfield 69, 3) := by decide +kernel
theorem dX8_keepsRow_19 : decode cX8_keepsRow 19 = .ok (.iload_n 1, 1) := by decide +kernel
theorem dX8_keepsRow_20 : decode cX8_keepsRow 20 = .ok (.iaload, 1) := by decide +kernel
theorem dX8_keepsRow_21 : decode cX8_keepsRow 21 = .ok (.iastore, 1) := by decide +kernel
theorem dX8_keepsRow_22 : decode cX8_keepsRow 22 = .ok (.iinc 1 1, 3) := by decide +kernel
theorem dX8_keepsRow_25 : decode cX8_keepsRow 25 = .ok (.goto (-23), 3) := by decide +kernel
theorem dX8_keepsRow_28 : decode cX8_keepsRow 28 = .ok (.return_, 1) := by decide +kernel
theorem dX8_findOrders_0 : decode cX8_findOrders 0 = .ok (.aload_n 0, 1) := by decide +kernel
theorem dX8_findOrders_1 : decode cX8_findOrders 1 = .ok (.invokevirtual 188, 3) := by decide +kernel
theorem dX8_findOrders_4 : decode cX8_findOrders 4 = .ok (.aload_n 0, 1) := by decide +kernel
theorem dX8_findOrders_5 : decode cX8_findOrders 5 = .ok (.iconst (-1), 1) := by decide +kernel
theorem dX8_findOrders_6 : decode cX8_findOrders 6 = .ok (.putfield 227, 3) := by decide +kernel
theorem dX8_findOrders_9 : decode cX8_findOrders 9 = .ok (.aload_n 0, 1) := by decide +kernel
theorem dX8_findOrders_10 : decode cX8_findOrders 10 = .ok (.iconst (-1), 1) := by decide +kernel
theorem dX8_findOrders_11 : decode cX8_findOrders 11 = .ok (.putfield 230, 3) := by decide +kernel
theorem dX8_findOrders_14 : decode cX8_findOrders 14 = .ok (.iconst 0, 1) := by decide +kernel
theorem dX8_findOrders_15 : decode cX8_findOrders 15 = .ok (.istore_n 1, 1) := by decide +kernel
theorem dX8_findOrders_16 : decode cX8_findOrders 16 = .ok (.iload_n 1, 1) := by decide +kernel
theorem dX8_findOrders_17 : decode cX8_findOrders 17 = .ok (.aload_n 0, 1) := by decide +kernel
theorem dX8_findOrders_18 : decode cX8_findOrders 18 = .ok (.invokevirtual 233, 3) := by decide +kernel
theorem dX8_findOrders_21 : decode cX8_findOrders 21 = .ok (.if_icmp .ge 78, 3) := by decide +kernel
theorem dX8_findOrders_24 : decode cX8_findOrders 24 = .ok (.aload_n 0, 1) := by decide +kernel
theorem dX8_findOrders_25 : decode cX8_findOrders 25 = .ok (.iload_n 1, 1) := by decide +kernel
theorem dX8_findOrders_26 : decode cX8_findOrders 26 = .ok (.invokevirtual 236, 3) := by decide +kernel
theorem dX8_findOrders_29 : decode cX8_findOrders 29 = .ok (.ifCond .eq 64, 3) := by decide +kernel
theorem dX8_findOrders_32 : decode cX8_findOrders 32 = .ok (.aload_n 0, 1) := by decide +kernel
theorem dX8_findOrders_33 : decode cX8_findOrders 33 = .ok (.invokevirtual 239, 3) := by decide +kernel
theorem dX8_findOrders_36 : decode cX8_findOrders 36 = .ok (.aload_n 0, 1) := by decide +kernel
theorem dX8_findOrders_37 : decode cX8_findOrders 37 = .ok (.getfield 227, 3) := by decide +kernel
theorem dX8_findOrders_40 : decode cX8_findOrders 40 = .ok (.iconst (-1), 1) := by decide +kernel
theorem dX8_findOrders_41 : decode cX8_findOrders 41 = .ok (.if_icmp .eq 14, 3) := by decide +kernel
theorem dX8_findOrders_44 : decode cX8_findOrders 44 = .ok (.aload_n 0, 1) := by decide +kernel
theorem dX8_findOrders_45 : decode cX8_findOrders 45 = .ok (.getfield 152, 3) := by decide +kernel
theorem dX8_findOrders_48 : decode cX8_findOrders 48 = .ok (.aload_n 0, 1) := by decide +kernel
theorem dX8_findOrders_49 : decode cX8_findOrders 49 = .ok (.getfield 227, 3) := by decide +kernel
theorem dX8_findOrders_52 : decode cX8_findOrders 52 = .ok (.if_icmp .ge 15, 3) := by decide +kernel
theorem dX8_findOrders_55 : decode cX8_findOrders 55 = .ok (.aload_n 0, 1) := by decide +kernel
theorem dX8_findOrders_56 : decode cX8_findOrders 56 = .ok (.aload_n 0, 1) := by decide +kernel
theorem dX8_findOrders_57 : decode cX8_findOrders 57 = .ok (.getfield 152, 3) := by decide +kernel
theorem dX8_findOrders_60 : decode cX8_findOrders 60 = .ok (.putfield 227, 3) := by decide +kernel
theorem dX8_findOrders_63 : decode cX8_findOrders 63 = .ok (.aload_n 0, 1) := by decide +kernel
theorem dX8_findOrders_64 : decode cX8_findOrders 64 = .ok (.invokevirtual 242, 3) := by decide +kernel
theorem dX8_findOrders_67 : decode cX8_findOrders 67 = .ok (.aload_n 0, 1) := by decide +kernel
theorem dX8_findOrders_68 : decode cX8_findOrders 68 = .ok (.aload_n 0, 1) := by decide +kernel
theorem dX8_findOrders_69 : decode cX8_findOrders 69 = .ok (.getfield 152, 3) := by decide +kernel
theorem dX8_findOrders_72 : decode cX8_findOrders 72 = .ok (.aload_n 0, 1) := by decide +kernel
theorem dX8_findOrders_73 : decode cX8_findOrders 73 = .ok (.getfield 230, 3) := by decide +kernel
theorem dX8_findOrders_76 : decode cX8_findOrders 76 = .ok (.if_icmp .le 10, 3) := by decide +kernel
theorem dX8_findOrders_79 : decode cX8_findOrders 79 = .ok (.aload_n 0, 1) := by decide +kernel
theorem dX8_findOrders_80 : decode cX8_findOrders 80 = .ok (.getfield 152, 3) := by decide +kernel
theorem dX8_findOrders_83 : decode cX8_findOrders 83 = .ok (.goto 7, 3) := by decide +kernel
theorem dX8_findOrders_86 : decode cX8_findOrders 86 = .ok (.aload_n 0, 1) := by decide +kernel
theorem dX8_findOrders_87 : decode cX8_findOrders 87 = .ok (.getfield 230, 3) := by decide +kernel
theorem dX8_findOrders_90 : decode cX8_findOrders 90 = .ok (.putfield 230, 3) := by decide +kernel
theorem dX8_findOrders_93 : decode cX8_findOrders 93 = .ok (.iinc 1 1, 3) := by decide +kernel
theorem dX8_findOrders_96 : decode cX8_findOrders 96 = .ok (.goto (-80), 3) := by decide +kernel
theorem dX8_findOrders_99 : decode cX8_findOrders 99 = .ok (.return_, 1) := by decide +kernel
theorem dX8_orders_0 : decode cX8_orders 0 = .ok (.iload_n 1, 1) := by decide +kernel
theorem dX8_orders_1 : decode cX8_orders 1 = .ok (.invokestatic 245, 3) := by decide +kernel
theorem dX8_orders_4 : decode cX8_orders 4 = .ok (.ifCond .ne 6, 3) := by decide +kernel
theorem dX8_orders_7 : decode cX8_orders 7 = .ok (.bipush (-2), 2) := by decide +kernel
theorem dX8_orders_9 : decode cX8_orders 9 = .ok (.ireturn, 1) := by decide +kernel
theorem dX8_orders_10 : decode cX8_orders 10 = .ok (.aload_n 0, 1) := by decide +kernel
theorem dX8_orders_11 : decode cX8_orders 11 = .ok (.getfield 146, 3) := by decide +kernel
theorem dX8_orders_14 : decode cX8_orders 14 = .ok (.iconst 5, 1) := by decide +kernel
theorem dX8_orders_15 : decode cX8_orders 15 = .ok (.if_icmp .le 6, 3) := by decide +kernel
theorem dX8_orders_18 : decode cX8_orders 18 = .ok (.bipush (-4), 2) := by decide +kernel
theorem dX8_orders_20 : decode cX8_orders 20 = .ok (.ireturn, 1) := by decide +kernel
theorem dX8_orders_21 : decode cX8_orders 21 = .ok (.aload_n 0, 1) := by decide +kernel
theorem dX8_orders_22 : decode cX8_orders 22 = .ok (.invokevirtual 248, 3) := by decide +kernel
theorem dX8_orders_25 : decode cX8_orders 25 = .ok (.iload_n 1, 1) := by decide +kernel
theorem dX8_orders_26 : decode cX8_orders 26 = .ok (.ifCond .ne 10, 3) := by decide +kernel
theorem dX8_orders_29 : decode cX8_orders 29 = .ok (.aload_n 0, 1) := by decide +kernel
theorem dX8_orders_30 : decode cX8_orders 30 = .ok (.getfield 227, 3) := by decide +kernel
theorem dX8_orders_33 : decode cX8_orders 33 = .ok (.goto 7, 3) := by decide +kernel
theorem dX8_orders_36 : decode cX8_orders 36 = .ok (.aload_n 0, 1) := by decide +kernel
theorem dX8_orders_37 : decode cX8_orders 37 = .ok (.getfield 230, 3) := by decide +kernel
theorem dX8_orders_40 : decode cX8_orders 40 = .ok (.ireturn, 1) := by decide +kernel
theorem dX8_order_0 : decode cX8_order 0 = .ok (.iload_n 1, 1) := by decide +kernel
theorem dX8_order_1 : decode cX8_order 1 = .ok (.ifCond .ge 6, 3) := by decide +kernel
theorem dX8_order_4 : decode cX8_order 4 = .ok (.bipush (-2), 2) := by decide +kernel
theorem dX8_order_6 : decode cX8_order 6 = .ok (.ireturn, 1) := by decide +kernel
theorem dX8_order_7 : decode cX8_order 7 = .ok (.aload_n 0, 1) := by decide +kernel
theorem dX8_order_8 : decode cX8_order 8 = .ok (.getfield 146, 3) := by decide +kernel
theorem dX8_order_11 : decode cX8_order 11 = .ok (.iconst 5, 1) := by decide +kernel
theorem dX8_order_12 : decode cX8_order 12 = .ok (.if_icmp .le 6, 3) := by decide +kernel
theorem dX8_order_15 : decode cX8_order 15 = .ok (.bipush (-4), 2) := by decide +kernel
theorem dX8_order_17 : decode cX8_order 17 = .ok (.ireturn, 1) := by decide +kernel
theorem dX8_order_18 : decode cX8_order 18 = .ok (.iload_n 1, 1) := by decide +kernel
theorem dX8_order_19 : decode cX8_order 19 = .ok (.aload_n 0, 1) := by decide +kernel
theorem dX8_order_20 : decode cX8_order 20 = .ok (.getfield 146, 3) := by decide +kernel
theorem dX8_order_23 : decode cX8_order 23 = .ok (.if_icmp .lt 6, 3) := by decide +kernel
theorem dX8_order_26 : decode cX8_order 26 = .ok (.bipush (-2), 2) := by decide +kernel
theorem dX8_order_28 : decode cX8_order 28 = .ok (.ireturn, 1) := by decide +kernel
theorem dX8_order_29 : decode cX8_order 29 = .ok (.aload_n 0, 1) := by decide +kernel
theorem dX8_order_30 : decode cX8_order 30 = .ok (.invokevirtual 248, 3) := by decide +kernel
theorem dX8_order_33 : decode cX8_order 33 = .ok (.aload_n 0, 1) := by decide +kernel
theorem dX8_order_34 : decode cX8_order 34 = .ok (.getfield 72, 3) := by decide +kernel
theorem dX8_order_37 : decode cX8_order 37 = .ok (.iload_n 1, 1) := by decide +kernel
theorem dX8_order_38 : decode cX8_order 38 = .ok (.iaload, 1) := by decide +kernel
theorem dX8_order_39 : decode cX8_order 39 = .ok (.ireturn, 1) := by decide +kernel
theorem dX8_firstOf_0 : decode cX8_firstOf 0 = .ok (.aload_n 0, 1) := by decide +kernel
theorem dX8_firstOf_1 : decode cX8_firstOf 1 = .ok (.getfield 146, 3) := by decide +kernel
theorem dX8_firstOf_4 : decode cX8_firstOf 4 = .ok (.ifCond .ne 6, 3) := by decide +kernel
theorem dX8_firstOf_7 : decode cX8_firstOf 7 = .ok (.bipush (-3), 2) := by decide +kernel
theorem dX8_firstOf_9 : decode cX8_firstOf 9 = .ok (.ireturn, 1) := by decide +kernel
theorem dX8_firstOf_10 : decode cX8_firstOf 10 = .ok (.aload_n 0, 1) := by decide +kernel
theorem dX8_firstOf_11 : decode cX8_firstOf 11 = .ok (.invokevirtual 188, 3) := by decide +kernel
theorem dX8_firstOf_14 : decode cX8_firstOf 14 = .ok (.iconst (-1), 1) := by decide +kernel
theorem dX8_firstOf_15 : decode cX8_firstOf 15 = .ok (.istore_n 2, 1) := by decide +kernel
theorem dX8_firstOf_16 : decode cX8_firstOf 16 = .ok (.iconst 0, 1) := by decide +kernel
theorem dX8_firstOf_17 : decode cX8_firstOf 17 = .ok (.istore_n 3, 1) := by decide +kernel
theorem dX8_firstOf_18 : decode cX8_firstOf 18 = .ok (.iconst 0, 1) := by decide +kernel
theorem dX8_firstOf_19 : decode cX8_firstOf 19 = .ok (.istore 4, 2) := by decide +kernel
theorem dX8_firstOf_21 : decode cX8_firstOf 21 = .ok (.iload 4, 2) := by decide +kernel
theorem dX8_firstOf_23 : decode cX8_firstOf 23 = .ok (.aload_n 0, 1) := by decide +kernel
theorem dX8_firstOf_24 : decode cX8_firstOf 24 = .ok (.getfield 146, 3) := by decide +kernel
theorem dX8_firstOf_27 : decode cX8_firstOf 27 = .ok (.if_icmp .ge 71, 3) := by decide +kernel
theorem dX8_firstOf_30 : decode cX8_firstOf 30 = .ok (.aload_n 0, 1) := by decide +kernel
theorem dX8_firstOf_31 : decode cX8_firstOf 31 = .ok (.invokevirtual 149, 3) := by decide +kernel
theorem dX8_firstOf_34 : decode cX8_firstOf 34 = .ok (.aload_n 0, 1) := by decide +kernel
theorem dX8_firstOf_35 : decode cX8_firstOf 35 = .ok (.iload 4, 2) := by decide +kernel
theorem dX8_firstOf_37 : decode cX8_firstOf 37 = .ok (.invokevirtual 212, 3) := by decide +kernel
theorem dX8_firstOf_40 : decode cX8_firstOf 40 = .ok (.iconst 0, 1) := by decide +kernel
theorem dX8_firstOf_41 : decode cX8_firstOf 41 = .ok (.istore 5, 2) := by decide +kernel
theorem dX8_firstOf_43 : decode cX8_firstOf 43 = .ok (.iload 5, 2) := by decide +kernel
theorem dX8_firstOf_45 : decode cX8_firstOf 45 = .ok (.aload_n 0, 1) := by decide +kernel
theorem dX8_firstOf_46 : decode cX8_firstOf 46 = .ok (.getfield 146, 3) := by decide +kernel
theorem dX8_firstOf_49 : decode cX8_firstOf 49 = .ok (.if_icmp .ge 22, 3) := by decide +kernel
theorem dX8_firstOf_52 : decode cX8_firstOf 52 = .ok (.iload 5, 2) := by decide +kernel
theorem dX8_firstOf_54 : decode cX8_firstOf 54 = .ok (.iload 4, 2) := by decide +kernel
theorem dX8_firstOf_56 : decode cX8_firstOf 56 = .ok (.if_icmp .eq 9, 3) := by decide +kernel
theorem dX8_firstOf_59 : decode cX8_firstOf 59 = .ok (.aload_n 0, 1) := by decide +kernel
theorem dX8_firstOf_60 : decode cX8_firstOf 60 = .ok (.iload 5, 2) := by decide +kernel
theorem dX8_firstOf_62 : decode cX8_firstOf 62 = .ok (.invokevirtual 212, 3) := by decide +kernel
theorem dX8_firstOf_65 : decode cX8_firstOf 65 = .ok (.iinc 5 1, 3) := by decide +kernel
theorem dX8_firstOf_68 : decode cX8_firstOf 68 = .ok (.goto (-25), 3) := by decide +kernel
theorem dX8_firstOf_71 : decode cX8_firstOf 71 = .ok (.iload_n 2, 1) := by decide +kernel
theorem dX8_firstOf_72 : decode cX8_firstOf 72 = .ok (.iconst (-1), 1) := by decide +kernel
theorem dX8_firstOf_73 : decode cX8_firstOf 73 = .ok (.if_icmp .eq 11, 3) := by decide +kernel
theorem dX8_firstOf_76 : decode cX8_firstOf 76 = .ok (.aload_n 0, 1) := by decide +kernel
theorem dX8_firstOf_77 : decode cX8_firstOf 77 = .ok (.getfield 152, 3) := by decide +kernel
theorem dX8_firstOf_80 : decode cX8_firstOf 80 = .ok (.iload_n 3, 1) := by decide +kernel
theorem dX8_firstOf_81 : decode cX8_firstOf 81 = .ok (.if_icmp .ge 11, 3) := by decide +kernel
theorem dX8_firstOf_84 : decode cX8_firstOf 84 = .ok (.iload 4, 2) := by decide +kernel
theorem dX8_firstOf_86 : decode cX8_firstOf 86 = .ok (.istore_n 2, 1) := by decide +kernel
theorem dX8_firstOf_87 : decode cX8_firstOf 87 = .ok (.aload_n 0, 1) := by decide +kernel
theorem dX8_firstOf_88 : decode cX8_firstOf 88 = .ok (.getfield 152, 3) := by decide +kernel
theorem dX8_firstOf_91 : decode cX8_firstOf 91 = .ok (.istore_n 3, 1) := by decide +kernel
theorem dX8_firstOf_92 : decode cX8_firstOf 92 = .ok (.iinc 4 1, 3) := by decide +kernel
theorem dX8_firstOf_95 : decode cX8_firstOf 95 = .ok (.goto (-74), 3) := by decide +kernel
theorem dX8_firstOf_98 : decode cX8_firstOf 98 = .ok (.iload_n 1, 1) := by decide +kernel
theorem dX8_firstOf_99 : decode cX8_firstOf 99 = .ok (.ifCond .ne 7, 3) := by decide +kernel
theorem dX8_firstOf_102 : decode cX8_firstOf 102 = .ok (.iload_n 2, 1) := by decide +kernel
theorem dX8_firstOf_103 : decode cX8_firstOf 103 = .ok (.goto 4, 3) := by decide +kernel
theorem dX8_firstOf_106 : decode cX8_firstOf 106 = .ok (.iload_n 3, 1) := by decide +kernel
theorem dX8_firstOf_107 : decode cX8_firstOf 107 = .ok (.ireturn, 1) := by decide +kernel
theorem dX8_first_0 : decode cX8_first 0 = .ok (.iload_n 1, 1) := by decide +kernel
theorem dX8_first_1 : decode cX8_first 1 = .ok (.invokestatic 245, 3) := by decide +kernel
theorem dX8_first_4 : decode cX8_first 4 = .ok (.ifCond .eq 11, 3) := by decide +kernel
theorem dX8_first_7 : decode cX8_first 7 = .ok (.aload_n 0, 1) := by decide +kernel
theorem dX8_first_8 : decode cX8_first 8 = .ok (.iload_n 1, 1) := by decide +kernel
theorem dX8_first_9 : decode cX8_first 9 = .ok (.invokevirtual 251, 3) := by decide +kernel
theorem dX8_first_12 : decode cX8_first 12 = .ok (.goto 5, 3) := by decide +kernel
theorem dX8_first_15 : decode cX8_first 15 = .ok (.bipush (-2), 2) := by decide +kernel
theorem dX8_first_17 : decode cX8_first 17 = .ok (.ireturn, 1) := by decide +kernel
theorem dX8_findYard_0 : decode cX8_findYard 0 = .ok (.aload_n 0, 1) := by decide +kernel
theorem dX8_findYard_1 : decode cX8_findYard 1 = .ok (.invokevirtual 188, 3) := by decide +kernel
theorem dX8_findYard_4 : decode cX8_findYard 4 = .ok (.aload_n 0, 1) := by decide +kernel
theorem dX8_findYard_5 : decode cX8_findYard 5 = .ok (.invokevirtual 218, 3) := by decide +kernel
theorem dX8_findYard_8 : decode cX8_findYard 8 = .ok (.aload_n 0, 1) := by decide +kernel
theorem dX8_findYard_9 : decode cX8_findYard 9 = .ok (.getfield 152, 3) := by decide +kernel
theorem dX8_findYard_12 : decode cX8_findYard 12 = .ok (.istore_n 1, 1) := by decide +kernel
theorem dX8_findYard_13 : decode cX8_findYard 13 = .ok (.aload_n 0, 1) := by decide +kernel
theorem dX8_findYard_14 : decode cX8_findYard 14 = .ok (.iconst (-1), 1) := by decide +kernel
theorem dX8_findYard_15 : decode cX8_findYard 15 = .ok (.putfield 254, 3) := by decide +kernel
theorem dX8_findYard_18 : decode cX8_findYard 18 = .ok (.aload_n 0, 1) := by decide +kernel
theorem dX8_findYard_19 : decode cX8_findYard 19 = .ok (.iconst 0, 1) := by decide +kernel
theorem dX8_findYard_20 : decode cX8_findYard 20 = .ok (.putfield 257, 3) := by decide +kernel
theorem dX8_findYard_23 : decode cX8_findYard 23 = .ok (.iconst 0, 1) := by decide +kernel
theorem dX8_findYard_24 : decode cX8_findYard 24 = .ok (.istore_n 2, 1) := by decide +kernel
theorem dX8_findYard_25 : decode cX8_findYard 25 = .ok (.iload_n 2, 1) := by decide +kernel
theorem dX8_findYard_26 : decode cX8_findYard 26 = .ok (.bipush 64, 2) := by decide +kernel
theorem dX8_findYard_28 : decode cX8_findYard 28 = .ok (.if_icmp .ge 71, 3) := by decide +kernel
theorem dX8_findYard_31 : decode cX8_findYard 31 = .ok (.aload_n 0, 1) := by decide +kernel
theorem dX8_findYard_32 : decode cX8_findYard 32 = .ok (.getfield 25, 3) := by decide +kernel
theorem dX8_findYard_35 : decode cX8_findYard 35 = .ok (.iload_n 2, 1) := by decide +kernel
theorem dX8_findYard_36 : decode cX8_findYard 36 = .ok (.iaload, 1) := by decide +kernel
theorem dX8_findYard_37 : decode cX8_findYard 37 = .ok (.iconst 1, 1) := by decide +kernel
theorem dX8_findYard_38 : decode cX8_findYard 38 = .ok (.if_icmp .eq 55, 3) := by decide +kernel
theorem dX8_findYard_41 : decode cX8_findYard 41 = .ok (.aload_n 0, 1) := by decide +kernel
theorem dX8_findYard_42 : decode cX8_findYard 42 = .ok (.getfield 28, 3) := by decide +kernel
theorem dX8_findYard_45 : decode cX8_findYard 45 = .ok (.iload_n 2, 1) := by decide +kernel
theorem dX8_findYard_46 : decode cX8_findYard 46 = .ok (.iaload, 1) := by decide +kernel
theorem dX8_findYard_47 : decode cX8_findYard 47 = .ok (.ifCond .le 46, 3) := by decide +kernel
theorem dX8_findYard_50 : decode cX8_findYard 50 = .ok (.aload_n 0, 1) := by decide +kernel
theorem dX8_findYard_51 : decode cX8_findYard 51 = .ok (.invokevirtual 149, 3) := by decide +kernel
theorem dX8_findYard_54 : decode cX8_findYard 54 = .ok (.aload_n 0, 1) := by decide +kernel
theorem dX8_findYard_55 : decode cX8_findYard 55 = .ok (.getfield 46, 3) := by decide +kernel
theorem dX8_findYard_58 : decode cX8_findYard 58 = .ok (.iload_n 2, 1) := by decide +kernel
theorem dX8_findYard_59 : decode cX8_findYard 59 = .ok (.iconst 0, 1) := by decide +kernel
theorem dX8_findYard_60 : decode cX8_findYard 60 = .ok (.iastore, 1) := by decide +kernel
theorem dX8_findYard_61 : decode cX8_findYard 61 = .ok (.aload_n 0, 1) := by decide +kernel
theorem dX8_findYard_62 : decode cX8_findYard 62 = .ok (.invokevirtual 218, 3) := by decide +kernel
theorem dX8_findYard_65 : decode cX8_findYard 65 = .ok (.iload_n 1, 1) := by decide +kernel
theorem dX8_findYard_66 : decode cX8_findYard 66 = .ok (.aload_n 0, 1) := by decide +kernel
theorem dX8_findYard_67 : decode cX8_findYard 67 = .ok (.getfield 152, 3) := by decide +kernel
theorem dX8_findYard_70 : decode cX8_findYard 70 = .ok (.isub, 1) := by decide +kernel
theorem dX8_findYard_71 : decode cX8_findYard 71 = .ok (.aload_n 0, 1) := by decide +kernel
theorem dX8_findYard_72 : decode cX8_findYard 72 = .ok (.getfield 257, 3) := by decide +kernel
theorem dX8_findYard_75 : decode cX8_findYard 75 = .ok (.if_icmp .le 18, 3) := by decide +kernel
theorem dX8_findYard_78 : decode cX8_findYard 78 = .ok (.aload_n 0, 1) := by decide +kernel
theorem dX8_findYard_79 : decode cX8_findYard 79 = .ok (.iload_n 2, 1) := by decide +kernel
theorem dX8_findYard_80 : decode cX8_findYard 80 = .ok (.putfield 254, 3) := by decide +kernel
theorem dX8_findYard_83 : decode cX8_findYard 83 = .ok (.aload_n 0, 1) := by decide +kernel
theorem dX8_findYard_84 : decode cX8_findYard 84 = .ok (.iload_n 1, 1) := by decide +kernel
theorem dX8_findYard_85 : decode cX8_findYard 85 = .ok (.aload_n 0, 1) := by decide +kernel
theorem dX8_findYard_86 : decode cX8_findYard 86 = .ok (.getfield 152, 3) := by decide +kernel
theorem dX8_findYard_89 : decode cX8_findYard 89 = .ok (.isub, 1) := by decide +kernel
theorem dX8_findYard_90 : decode cX8_findYard 90 = .ok (.putfield 257, 3) := by decide +kernel
theorem dX8_findYard_93 : decode cX8_findYard 93 = .ok (.iinc 2 1, 3) := by decide +kernel
theorem dX8_findYard_96 : decode cX8_findYard 96 = .ok (.goto (-71), 3) := by decide +kernel
theorem dX8_findYard_99 : decode cX8_findYard 99 = .ok (.return_, 1) := by decide +kernel
theorem dX8_yard_0 : decode cX8_yard 0 = .ok (.iload_n 1, 1) := by decide +kernel
theorem dX8_yard_1 : decode cX8_yard 1 = .ok (.invokestatic 245, 3) := by decide +kernel
theorem dX8_yard_4 : decode cX8_yard 4 = .ok (.ifCond .ne 6, 3) := by decide +kernel
theorem dX8_yard_7 : decode cX8_yard 7 = .ok (.bipush (-2), 2) := by decide +kernel
theorem dX8_yard_9 : decode cX8_yard 9 = .ok (.ireturn, 1) := by decide +kernel
theorem dX8_yard_10 : decode cX8_yard 10 = .ok (.aload_n 0, 1) := by decide +kernel
theorem dX8_yard_11 : decode cX8_yard 11 = .ok (.invokevirtual 260, 3) := by decide +kernel
theorem dX8_yard_14 : decode cX8_yard 14 = .ok (.iload_n 1, 1) := by decide +kernel
theorem dX8_yard_15 : decode cX8_yard 15 = .ok (.ifCond .ne 10, 3) := by decide +kernel
theorem dX8_yard_18 : decode cX8_yard 18 = .ok (.aload_n 0, 1) := by decide +kernel
theorem dX8_yard_19 : decode cX8_yard 19 = .ok (.getfield 254, 3) := by decide +kernel
theorem dX8_yard_22 : decode cX8_yard 22 = .ok (.goto 7, 3) := by decide +kernel
theorem dX8_yard_25 : decode cX8_yard 25 = .ok (.aload_n 0, 1) := by decide +kernel
theorem dX8_yard_26 : decode cX8_yard 26 = .ok (.getfield 257, 3) := by decide +kernel
theorem dX8_yard_29 : decode cX8_yard 29 = .ok (.ireturn, 1) := by decide +kernel
theorem dX8_grits_0 : decode cX8_grits 0 = .ok (.aload_n 0, 1) := by decide +kernel
theorem dX8_grits_1 : decode cX8_grits 1 = .ok (.invokevirtual 188, 3) := by decide +kernel
theorem dX8_grits_4 : decode cX8_grits 4 = .ok (.aload_n 0, 1) := by decide +kernel
theorem dX8_grits_5 : decode cX8_grits 5 = .ok (.invokevirtual 218, 3) := by decide +kernel
theorem dX8_grits_8 : decode cX8_grits 8 = .ok (.iconst 0, 1) := by decide +kernel
theorem dX8_grits_9 : decode cX8_grits 9 = .ok (.istore_n 3, 1) := by decide +kernel
theorem dX8_grits_10 : decode cX8_grits 10 = .ok (.iload_n 3, 1) := by decide +kernel
theorem dX8_grits_11 : decode cX8_grits 11 = .ok (.bipush 64, 2) := by decide +kernel
theorem dX8_grits_13 : decode cX8_grits 13 = .ok (.if_icmp .ge 16, 3) := by decide +kernel
theorem dX8_grits_16 : decode cX8_grits 16 = .ok (.aload_n 0, 1) := by decide +kernel
theorem dX8_grits_17 : decode cX8_grits 17 = .ok (.getfield 75, 3) := by decide +kernel
theorem dX8_grits_20 : decode cX8_grits 20 = .ok (.iload_n 3, 1) := by decide +kernel
theorem dX8_grits_21 : decode cX8_grits 21 = .ok (.iconst 0, 1) := by decide +kernel
theorem dX8_grits_22 : decode cX8_grits 22 = .ok (.bastore, 1) := by decide +kernel
theorem dX8_grits_23 : decode cX8_grits 23 = .ok (.iinc 3 1, 3) := by decide +kernel
theorem dX8_grits_26 : decode cX8_grits 26 = .ok (.goto (-16), 3) := by decide +kernel
theorem dX8_grits_29 : decode cX8_grits 29 = .ok (.iconst (-1), 1) := by decide +kernel
theorem dX8_grits_30 : decode cX8_grits 30 = .ok (.istore_n 3, 1) := by decide +kernel
theorem dX8_grits_31 : decode cX8_grits 31 = .ok (.iconst 0, 1) := by decide +kernel
theorem dX8_grits_32 : decode cX8_grits 32 = .ok (.istore 4, 2) := by decide +kernel
theorem dX8_grits_34 : decode cX8_grits 34 = .ok (.iload 4, 2) := by decide +kernel
theorem dX8_grits_36 : decode cX8_grits 36 = .ok (.iload_n 1, 1) := by decide +kernel
theorem dX8_grits_37 : decode cX8_grits 37 = .ok (.if_icmp .ge 136, 3) := by decide +kernel
theorem dX8_grits_40 : decode cX8_grits 40 = .ok (.iconst (-1), 1) := by decide +kernel
theorem dX8_grits_41 : decode cX8_grits 41 = .ok (.istore 5, 2) := by decide +kernel
theorem dX8_grits_43 : decode cX8_grits 43 = .ok (.iconst 0, 1) := by decide +kernel
theorem dX8_grits_44 : decode cX8_grits 44 = .ok (.istore 6, 2) := by decide +kernel
theorem dX8_grits_46 : decode cX8_grits 46 = .ok (.iconst 0, 1) := by decide +kernel
theorem dX8_grits_47 : decode cX8_grits 47 = .ok (.istore 7, 2) := by decide +kernel
theorem dX8_grits_49 : decode cX8_grits 49 = .ok (.iload 7, 2) := by decide +kernel
theorem dX8_grits_51 : decode cX8_grits 51 = .ok (.bipush 64, 2) := by decide +kernel
theorem dX8_grits_53 : decode cX8_grits 53 = .ok (.if_icmp .ge 87, 3) := by decide +kernel
theorem dX8_grits_56 : decode cX8_grits 56 = .ok (.aload_n 0, 1) := by decide +kernel
theorem dX8_grits_57 : decode cX8_grits 57 = .ok (.getfield 75, 3) := by decide +kernel
theorem dX8_grits_60 : decode cX8_grits 60 = .ok (.iload 7, 2) := by decide +kernel
theorem dX8_grits_62 : decode cX8_grits 62 = .ok (.baload, 1) := by decide +kernel
theorem dX8_grits_63 : decode cX8_grits 63 = .ok (.ifCond .ne 27, 3) := by decide +kernel
theorem dX8_grits_66 : decode cX8_grits 66 = .ok (.aload_n 0, 1) := by decide +kernel
theorem dX8_grits_67 : decode cX8_grits 67 = .ok (.getfield 34, 3) := by decide +kernel
theorem dX8_grits_70 : decode cX8_grits 70 = .ok (.iload 7, 2) := by decide +kernel
theorem dX8_grits_72 : decode cX8_grits 72 = .ok (.iaload, 1) := by decide +kernel
theorem dX8_grits_73 : decode cX8_grits 73 = .ok (.aload_n 0, 1) := by decide +kernel
theorem dX8_grits_74 : decode cX8_grits 74 = .ok (.getfield 52, 3) := by decide +kernel
theorem dX8_grits_77 : decode cX8_grits 77 = .ok (.iload 7, 2) := by decide +kernel
theorem dX8_grits_79 : decode cX8_grits 79 = .ok (.iaload, 1) := by decide +kernel
theorem dX8_grits_80 : decode cX8_grits 80 = .ok (.imul, 1) := by decide +kernel
theorem dX8_grits_81 : decode cX8_grits 81 = .ok (.iload 6, 2) := by decide +kernel
theorem dX8_grits_83 : decode cX8_grits 83 = .ok (.if_icmp .le 7, 3) := by decide +kernel
theorem dX8_grits_86 : decode cX8_grits 86 = .ok (.iconst 1, 1) := by decide +kernel
theorem dX8_grits_87 : decode cX8_grits 87 = .ok (.goto 4, 3) := by decide +kernel
theorem dX8_grits_90 : decode cX8_grits 90 = .ok (.iconst 0, 1) := by decide +kernel
theorem dX8_grits_91 : decode cX8_grits 91 = .ok (.istore 8, 2) := by decide +kernel
theorem dX8_grits_93 : decode cX8_grits 93 = .ok (.iload 8, 2) := by decide +kernel
theorem dX8_grits_95 : decode cX8_grits 95 = .ok (.ifCond .eq 8, 3) := by decide +kernel
theorem dX8_grits_98 : decode cX8_grits 98 = .ok (.iload 7, 2) := by decide +kernel
theorem dX8_grits_100 : decode cX8_grits 100 = .ok (.goto 5, 3) := by decide +kernel
theorem dX8_grits_103 : decode cX8_grits 103 = .ok (.iload 5, 2) := by decide +kernel
theorem dX8_grits_105 : decode cX8_grits 105 = .ok (.istore 5, 2) := by decide +kernel
theorem dX8_grits_107 : decode cX8_grits 107 = .ok (.iload 8, 2) := by decide +kernel
theorem dX8_grits_109 : decode cX8_grits 109 = .ok (.ifCond .eq 21, 3) := by decide +kernel
theorem dX8_grits_112 : decode cX8_grits 112 = .ok (.aload_n 0, 1) := by decide +kernel
theorem dX8_grits_113 : decode cX8_grits 113 = .ok (.getfield 34, 3) := by decide +kernel
theorem dX8_grits_116 : decode cX8_grits 116 = .ok (.iload 7, 2) := by decide +kernel
theorem dX8_grits_118 : decode cX8_grits 118 = .ok (.iaload, 1) := by decide +kernel
theorem dX8_grits_119 : decode cX8_grits 119 = .ok (.aload_n 0, 1) := by decide +kernel
theorem dX8_grits_120 : decode cX8_grits 120 = .ok (.getfield 52, 3) := by decide +kernel
theorem dX8_grits_123 : decode cX8_grits 123 = .ok (.iload 7, 2) := by decide +kernel
theorem dX8_grits_125 : decode cX8_grits 125 = .ok (.iaload, 1) := by decide +kernel
theorem dX8_grits_126 : decode cX8_grits 126 = .ok (.imul, 1) := by decide +kernel
theorem dX8_grits_127 : decode cX8_grits 127 = .ok (.goto 5, 3) := by decide +kernel
theorem dX8_grits_130 : decode cX8_grits 130 = .ok (.iload 6, 2) := by decide +kernel
theorem dX8_grits_132 : decode cX8_grits 132 = .ok (.istore 6, 2) := by decide +kernel
theorem dX8_grits_134 : decode cX8_grits 134 = .ok (.iinc 7 1, 3) := by decide +kernel
theorem dX8_grits_137 : decode cX8_grits 137 = .ok (.goto (-88), 3) := by decide +kernel
theorem dX8_grits_140 : decode cX8_grits 140 = .ok (.iload 5, 2) := by decide +kernel
theorem dX8_grits_142 : decode cX8_grits 142 = .ok (.iconst (-1), 1) := by decide +kernel
theorem dX8_grits_143 : decode cX8_grits 143 = .ok (.if_icmp .eq 11, 3) := by decide +kernel
theorem dX8_grits_146 : decode cX8_grits 146 = .ok (.aload_n 0, 1) := by decide +kernel
theorem dX8_grits_147 : decode cX8_grits 147 = .ok (.getfield 75, 3) := by decide +kernel
theorem dX8_grits_150 : decode cX8_grits 150 = .ok (.iload 5, 2) := by decide +kernel
theorem dX8_grits_152 : decode cX8_grits 152 = .ok (.iconst 1, 1) := by decide +kernel
theorem dX8_grits_153 : decode cX8_grits 153 = .ok (.bastore, 1) := by decide +kernel
theorem dX8_grits_154 : decode cX8_grits 154 = .ok (.iload 4, 2) := by decide +kernel
theorem dX8_grits_156 : decode cX8_grits 156 = .ok (.iload_n 2, 1) := by decide +kernel
theorem dX8_grits_157 : decode cX8_grits 157 = .ok (.if_icmp .ne 8, 3) := by decide +kernel
theorem dX8_grits_160 : decode cX8_grits 160 = .ok (.iload 5, 2) := by decide +kernel
theorem dX8_grits_162 : decode cX8_grits 162 = .ok (.goto 4, 3) := by decide +kernel
theorem dX8_grits_165 : decode cX8_grits 165 = .ok (.iload_n 3, 1) := by decide +kernel
theorem dX8_grits_166 : decode cX8_grits 166 = .ok (.istore_n 3, 1) := by decide +kernel
theorem dX8_grits_167 : decode cX8_grits 167 = .ok (.iinc 4 1, 3) := by decide +kernel
theorem dX8_grits_170 : decode cX8_grits 170 = .ok (.goto (-136), 3) := by decide +kernel
theorem dX8_grits_173 : decode cX8_grits 173 = .ok (.iload_n 3, 1) := by decide +kernel
theorem dX8_grits_174 : decode cX8_grits 174 = .ok (.ireturn, 1) := by decide +kernel
theorem dX8_part_0 : decode cX8_part 0 = .ok (.lload_n 0, 1) := by decide +kernel
theorem dX8_part_1 : decode cX8_part 1 = .ok (.lstore 5, 2) := by decide +kernel
theorem dX8_part_3 : decode cX8_part 3 = .ok (.lload_n 2, 1) := by decide +kernel
theorem dX8_part_4 : decode cX8_part 4 = .ok (.lstore 7, 2) := by decide +kernel
theorem dX8_part_6 : decode cX8_part 6 = .ok (.lload 7, 2) := by decide +kernel
theorem dX8_part_8 : decode cX8_part 8 = .ok (.lconst 0, 1) := by decide +kernel
theorem dX8_part_9 : decode cX8_part 9 = .ok (.lcmp, 1) := by decide +kernel
theorem dX8_part_10 : decode cX8_part 10 = .ok (.ifCond .eq 21, 3) := by decide +kernel
theorem dX8_part_13 : decode cX8_part 13 = .ok (.lload 5, 2) := by decide +kernel
theorem dX8_part_15 : decode cX8_part 15 = .ok (.lload 7, 2) := by decide +kernel
theorem dX8_part_17 : decode cX8_part 17 = .ok (.lrem, 1) := by decide +kernel
theorem dX8_part_18 : decode cX8_part 18 = .ok (.lstore 9, 2) := by decide +kernel
theorem dX8_part_20 : decode cX8_part 20 = .ok (.lload 7, 2) := by decide +kernel
theorem dX8_part_22 : decode cX8_part 22 = .ok (.lstore 5, 2) := by decide +kernel
theorem dX8_part_24 : decode cX8_part 24 = .ok (.lload 9, 2) := by decide +kernel
theorem dX8_part_26 : decode cX8_part 26 = .ok (.lstore 7, 2) := by decide +kernel
theorem dX8_part_28 : decode cX8_part 28 = .ok (.goto (-22), 3) := by decide +kernel
theorem dX8_part_31 : decode cX8_part 31 = .ok (.iload 4, 2) := by decide +kernel
theorem dX8_part_33 : decode cX8_part 33 = .ok (.ifCond .ne 7, 3) := by decide +kernel
theorem dX8_part_36 : decode cX8_part 36 = .ok (.lload_n 0, 1) := by decide +kernel
theorem dX8_part_37 : decode cX8_part 37 = .ok (.goto 4, 3) := by decide +kernel
theorem dX8_part_40 : decode cX8_part 40 = .ok (.lload_n 2, 1) := by decide +kernel
theorem dX8_part_41 : decode cX8_part 41 = .ok (.lload 5, 2) := by decide +kernel
theorem dX8_part_43 : decode cX8_part 43 = .ok (.ldiv, 1) := by decide +kernel
theorem dX8_part_44 : decode cX8_part 44 = .ok (.lreturn, 1) := by decide +kernel
theorem dX8_leftOf_0 : decode cX8_leftOf 0 = .ok (.aload_n 0, 1) := by decide +kernel
theorem dX8_leftOf_1 : decode cX8_leftOf 1 = .ok (.iload_n 1, 1) := by decide +kernel
theorem dX8_leftOf_2 : decode cX8_leftOf 2 = .ok (.iconst (-1), 1) := by decide +kernel
theorem dX8_leftOf_3 : decode cX8_leftOf 3 = .ok (.invokevirtual 263, 3) := by decide +kernel
theorem dX8_leftOf_6 : decode cX8_leftOf 6 = .ok (.pop, 1) := by decide +kernel
theorem dX8_leftOf_7 : decode cX8_leftOf 7 = .ok (.lconst 0, 1) := by decide +kernel
theorem dX8_leftOf_8 : decode cX8_leftOf 8 = .ok (.lstore_n 3, 1) := by decide +kernel
theorem dX8_leftOf_9 : decode cX8_leftOf 9 = .ok (.iconst 0, 1) := by decide +kernel
theorem dX8_leftOf_10 : decode cX8_leftOf 10 = .ok (.istore 5, 2) := by decide +kernel
theorem dX8_leftOf_12 : decode cX8_leftOf 12 = .ok (.iload 5, 2) := by decide +kernel
theorem dX8_leftOf_14 : decode cX8_leftOf 14 = .ok (.bipush 64, 2) := by decide +kernel
theorem dX8_leftOf_16 : decode cX8_leftOf 16 = .ok (.if_icmp .ge 43, 3) := by decide +kernel
theorem dX8_leftOf_19 : decode cX8_leftOf 19 = .ok (.lload_n 3, 1) := by decide +kernel
theorem dX8_leftOf_20 : decode cX8_leftOf 20 = .ok (.aload_n 0, 1) := by decide +kernel
theorem dX8_leftOf_21 : decode cX8_leftOf 21 = .ok (.getfield 75, 3) := by decide +kernel
theorem dX8_leftOf_24 : decode cX8_leftOf 24 = .ok (.iload 5, 2) := by decide +kernel
theorem dX8_leftOf_26 : decode cX8_leftOf 26 = .ok (.baload, 1) := by decide +kernel
theorem dX8_leftOf_27 : decode cX8_leftOf 27 = .ok (.ifCond .eq 7, 3) := by decide +kernel
theorem dX8_leftOf_30 : decode cX8_leftOf 30 = .ok (.lconst 0, 1) := by decide +kernel
theorem dX8_leftOf_31 : decode cX8_leftOf 31 = .ok (.goto 20, 3) := by decide +kernel
theorem dX8_leftOf_34 : decode cX8_leftOf 34 = .ok (.aload_n 0, 1) := by decide +kernel
theorem dX8_leftOf_35 : decode cX8_leftOf 35 = .ok (.getfield 34, 3) := by decide +kernel
theorem dX8_leftOf_38 : decode cX8_leftOf 38 = .ok (.iload 5, 2) := by decide +kernel
theorem dX8_leftOf_40 : decode cX8_leftOf 40 = .ok (.iaload, 1) := by decide +kernel
theorem dX8_leftOf_41 : decode cX8_leftOf 41 = .ok (.i2l, 1) := by decide +kernel
theorem dX8_leftOf_42 : decode cX8_leftOf 42 = .ok (.aload_n 0, 1) := by decide +kernel
theorem dX8_leftOf_43 : decode cX8_leftOf 43 = .ok (.getfield 52, 3) := by decide +kernel
theorem dX8_leftOf_46 : decode cX8_leftOf 46 = .ok (.iload 5, 2) := by decide +kernel
theorem dX8_leftOf_48 : decode cX8_leftOf 48 = .ok (.iaload, 1) := by decide +kernel
theorem dX8_leftOf_49 : decode cX8_leftOf 49 = .ok (.i2l, 1) := by decide +kernel
theorem dX8_leftOf_50 : decode cX8_leftOf 50 = .ok (.lmul, 1) := by decide +kernel
theorem dX8_leftOf_51 : decode cX8_leftOf 51 = .ok (.ladd, 1) := by decide +kernel
theorem dX8_leftOf_52 : decode cX8_leftOf 52 = .ok (.lstore_n 3, 1) := by decide +kernel
theorem dX8_leftOf_53 : decode cX8_leftOf 53 = .ok (.iinc 5 1, 3) := by decide +kernel
theorem dX8_leftOf_56 : decode cX8_leftOf 56 = .ok (.goto (-44), 3) := by decide +kernel
theorem dX8_leftOf_59 : decode cX8_leftOf 59 = .ok (.lload_n 3, 1) := by decide +kernel
theorem dX8_leftOf_60 : decode cX8_leftOf 60 = .ok (.ldc2_w 144, 3) := by decide +kernel
theorem dX8_leftOf_63 : decode cX8_leftOf 63 = .ok (.iload_n 2, 1) := by decide +kernel
theorem dX8_leftOf_64 : decode cX8_leftOf 64 = .ok (.invokestatic 266, 3) := by decide +kernel
theorem dX8_leftOf_67 : decode cX8_leftOf 67 = .ok (.lreturn, 1) := by decide +kernel
theorem dX8_falls_0 : decode cX8_falls 0 = .ok (.iload_n 1, 1) := by decide +kernel
theorem dX8_falls_1 : decode cX8_falls 1 = .ok (.invokestatic 245, 3) := by decide +kernel
theorem dX8_falls_4 : decode cX8_falls 4 = .ok (.ifCond .eq 12, 3) := by decide +kernel
theorem dX8_falls_7 : decode cX8_falls 7 = .ok (.aload_n 0, 1) := by decide +kernel
theorem dX8_falls_8 : decode cX8_falls 8 = .ok (.iconst 0, 1) := by decide +kernel
theorem dX8_falls_9 : decode cX8_falls 9 = .ok (.iload_n 1, 1) := by decide +kernel
theorem dX8_falls_10 : decode cX8_falls 10 = .ok (.invokevirtual 270, 3) := by decide +kernel
theorem dX8_falls_13 : decode cX8_falls 13 = .ok (.goto 8, 3) := by decide +kernel
theorem dX8_falls_16 : decode cX8_falls 16 = .ok (.bipush (-2), 2) := by decide +kernel
theorem dX8_falls_18 : decode cX8_falls 18 = .ok (.invokestatic 274, 3) := by decide +kernel
theorem dX8_falls_21 : decode cX8_falls 21 = .ok (.lreturn, 1) := by decide +kernel
theorem dX8_isGrit_0 : decode cX8_isGrit 0 = .ok (.iload_n 0, 1) := by decide +kernel
theorem dX8_isGrit_1 : decode cX8_isGrit 1 = .ok (.i2l, 1) := by decide +kernel
theorem dX8_isGrit_2 : decode cX8_isGrit 2 = .ok (.lconst 0, 1) := by decide +kernel
theorem dX8_isGrit_3 : decode cX8_isGrit 3 = .ok (.ldc2_w 278, 3) := by decide +kernel
theorem dX8_isGrit_6 : decode cX8_isGrit 6 = .ok (.invokestatic 80, 3) := by decide +kernel
theorem dX8_isGrit_9 : decode cX8_isGrit 9 = .ok (.ireturn, 1) := by decide +kernel
theorem dX8_grit_0 : decode cX8_grit 0 = .ok (.iload_n 1, 1) := by decide +kernel
theorem dX8_grit_1 : decode cX8_grit 1 = .ok (.invokestatic 280, 3) := by decide +kernel
theorem dX8_grit_4 : decode cX8_grit 4 = .ok (.ifCond .eq 16, 3) := by decide +kernel
theorem dX8_grit_7 : decode cX8_grit 7 = .ok (.iload_n 2, 1) := by decide +kernel
theorem dX8_grit_8 : decode cX8_grit 8 = .ok (.ifCond .lt 12, 3) := by decide +kernel
theorem dX8_grit_11 : decode cX8_grit 11 = .ok (.aload_n 0, 1) := by decide +kernel
theorem dX8_grit_12 : decode cX8_grit 12 = .ok (.iload_n 1, 1) := by decide +kernel
theorem dX8_grit_13 : decode cX8_grit 13 = .ok (.iload_n 2, 1) := by decide +kernel
theorem dX8_grit_14 : decode cX8_grit 14 = .ok (.invokevirtual 263, 3) := by decide +kernel
theorem dX8_grit_17 : decode cX8_grit 17 = .ok (.goto 5, 3) := by decide +kernel
theorem dX8_grit_20 : decode cX8_grit 20 = .ok (.bipush (-2), 2) := by decide +kernel
theorem dX8_grit_22 : decode cX8_grit 22 = .ok (.ireturn, 1) := by decide +kernel
theorem dX8_left_0 : decode cX8_left 0 = .ok (.iload_n 1, 1) := by decide +kernel
theorem dX8_left_1 : decode cX8_left 1 = .ok (.invokestatic 280, 3) := by decide +kernel
theorem dX8_left_4 : decode cX8_left 4 = .ok (.ifCond .eq 19, 3) := by decide +kernel
theorem dX8_left_7 : decode cX8_left 7 = .ok (.iload_n 2, 1) := by decide +kernel
theorem dX8_left_8 : decode cX8_left 8 = .ok (.invokestatic 245, 3) := by decide +kernel
theorem dX8_left_11 : decode cX8_left 11 = .ok (.ifCond .eq 12, 3) := by decide +kernel
theorem dX8_left_14 : decode cX8_left 14 = .ok (.aload_n 0, 1) := by decide +kernel
theorem dX8_left_15 : decode cX8_left 15 = .ok (.iload_n 1, 1) := by decide +kernel
theorem dX8_left_16 : decode cX8_left 16 = .ok (.iload_n 2, 1) := by decide +kernel
theorem dX8_left_17 : decode cX8_left 17 = .ok (.invokevirtual 270, 3) := by decide +kernel
theorem dX8_left_20 : decode cX8_left 20 = .ok (.goto 8, 3) := by decide +kernel
theorem dX8_left_23 : decode cX8_left 23 = .ok (.bipush (-2), 2) := by decide +kernel
theorem dX8_left_25 : decode cX8_left 25 = .ok (.invokestatic 274, 3) := by decide +kernel
theorem dX8_left_28 : decode cX8_left 28 = .ok (.lreturn, 1) := by decide +kernel
theorem dX8_isPicture_0 : decode cX8_isPicture 0 = .ok (.iconst 1, 1) := by decide +kernel
theorem dX8_isPicture_1 : decode cX8_isPicture 1 = .ok (.istore_n 2, 1) := by decide +kernel
theorem dX8_isPicture_2 : decode cX8_isPicture 2 = .ok (.iconst 0, 1) := by decide +kernel
theorem dX8_isPicture_3 : decode cX8_isPicture 3 = .ok (.istore_n 3, 1) := by decide +kernel
theorem dX8_isPicture_4 : decode cX8_isPicture 4 = .ok (.iload_n 3, 1) := by decide +kernel
theorem dX8_isPicture_5 : decode cX8_isPicture 5 = .ok (.aload_n 0, 1) := by decide +kernel
theorem dX8_isPicture_6 : decode cX8_isPicture 6 = .ok (.getfield 13, 3) := by decide +kernel
theorem dX8_isPicture_9 : decode cX8_isPicture 9 = .ok (.iload_n 1, 1) := by decide +kernel
theorem dX8_isPicture_10 : decode cX8_isPicture 10 = .ok (.iaload, 1) := by decide +kernel
theorem dX8_isPicture_11 : decode cX8_isPicture 11 = .ok (.if_icmp .ge 39, 3) := by decide +kernel
theorem dX8_isPicture_14 : decode cX8_isPicture 14 = .ok (.iload_n 2, 1) := by decide +kernel
theorem dX8_isPicture_15 : decode cX8_isPicture 15 = .ok (.ifCond .eq 27, 3) := by decide +kernel
theorem dX8_isPicture_18 : decode cX8_isPicture 18 = .ok (.aload_n 0, 1) := by decide +kernel
theorem dX8_isPicture_19 : decode cX8_isPicture 19 = .ok (.getfield 16, 3) := by decide +kernel
theorem dX8_isPicture_22 : decode cX8_isPicture 22 = .ok (.bipush 64, 2) := by decide +kernel
theorem dX8_isPicture_24 : decode cX8_isPicture 24 = .ok (.iload_n 1, 1) := by decide +kernel
theorem dX8_isPicture_25 : decode cX8_isPicture 25 = .ok (.imul, 1) := by decide +kernel
theorem dX8_isPicture_26 : decode cX8_isPicture 26 = .ok (.iload_n 3, 1) := by decide +kernel
theorem dX8_isPicture_27 : decode cX8_isPicture 27 = .ok (.iadd, 1) := by decide +kernel
theorem dX8_isPicture_28 : decode cX8_isPicture 28 = .ok (.iaload, 1) := by decide +kernel
theorem dX8_isPicture_29 : decode cX8_isPicture 29 = .ok (.aload_n 0, 1) := by decide +kernel
theorem dX8_isPicture_30 : decode cX8_isPicture 30 = .ok (.getfield 52, 3) := by decide +kernel
theorem dX8_isPicture_33 : decode cX8_isPicture 33 = .ok (.iload_n 3, 1) := by decide +kernel
theorem dX8_isPicture_34 : decode cX8_isPicture 34 = .ok (.iaload, 1) := by decide +kernel
theorem dX8_isPicture_35 : decode cX8_isPicture 35 = .ok (.if_icmp .ne 7, 3) := by decide +kernel
theorem dX8_isPicture_38 : decode cX8_isPicture 38 = .ok (.iconst 1, 1) := by decide +kernel
theorem dX8_isPicture_39 : decode cX8_isPicture 39 = .ok (.goto 4, 3) := by decide +kernel
theorem dX8_isPicture_42 : decode cX8_isPicture 42 = .ok (.iconst 0, 1) := by decide +kernel
theorem dX8_isPicture_43 : decode cX8_isPicture 43 = .ok (.istore_n 2, 1) := by decide +kernel
theorem dX8_isPicture_44 : decode cX8_isPicture 44 = .ok (.iinc 3 1, 3) := by decide +kernel
theorem dX8_isPicture_47 : decode cX8_isPicture 47 = .ok (.goto (-43), 3) := by decide +kernel
theorem dX8_isPicture_50 : decode cX8_isPicture 50 = .ok (.iload_n 2, 1) := by decide +kernel
theorem dX8_isPicture_51 : decode cX8_isPicture 51 = .ok (.ireturn, 1) := by decide +kernel
theorem dX8_findTower_0 : decode cX8_findTower 0 = .ok (.aload_n 0, 1) := by decide +kernel
theorem dX8_findTower_1 : decode cX8_findTower 1 = .ok (.invokevirtual 188, 3) := by decide +kernel
theorem dX8_findTower_4 : decode cX8_findTower 4 = .ok (.aload_n 0, 1) := by decide +kernel
theorem dX8_findTower_5 : decode cX8_findTower 5 = .ok (.iconst 0, 1) := by decide +kernel
theorem dX8_findTower_6 : decode cX8_findTower 6 = .ok (.putfield 283, 3) := by decide +kernel
theorem dX8_findTower_9 : decode cX8_findTower 9 = .ok (.aload_n 0, 1) := by decide +kernel
theorem dX8_findTower_10 : decode cX8_findTower 10 = .ok (.iconst 0, 1) := by decide +kernel
theorem dX8_findTower_11 : decode cX8_findTower 11 = .ok (.putfield 286, 3) := by decide +kernel
theorem dX8_findTower_14 : decode cX8_findTower 14 = .ok (.iconst 0, 1) := by decide +kernel
theorem dX8_findTower_15 : decode cX8_findTower 15 = .ok (.istore_n 2, 1) := by decide +kernel
theorem dX8_findTower_16 : decode cX8_findTower 16 = .ok (.iload_n 2, 1) := by decide +kernel
theorem dX8_findTower_17 : decode cX8_findTower 17 = .ok (.aload_n 0, 1) := by decide +kernel
theorem dX8_findTower_18 : decode cX8_findTower 18 = .ok (.invokevirtual 233, 3) := by decide +kernel
theorem dX8_findTower_21 : decode cX8_findTower 21 = .ok (.if_icmp .ge 78, 3) := by decide +kernel
theorem dX8_findTower_24 : decode cX8_findTower 24 = .ok (.aload_n 0, 1) := by decide +kernel
theorem dX8_findTower_25 : decode cX8_findTower 25 = .ok (.iload_n 2, 1) := by decide +kernel
theorem dX8_findTower_26 : decode cX8_findTower 26 = .ok (.invokevirtual 236, 3) := by decide +kernel
theorem dX8_findTower_29 : decode cX8_findTower 29 = .ok (.ifCond .eq 64, 3) := by decide +kernel
theorem dX8_findTower_32 : decode cX8_findTower 32 = .ok (.aload_n 0, 1) := by decide +kernel
theorem dX8_findTower_33 : decode cX8_findTower 33 = .ok (.invokevirtual 239, 3) := by decide +kernel
theorem dX8_findTower_36 : decode cX8_findTower 36 = .ok (.aload_n 0, 1) := by decide +kernel
theorem dX8_findTower_37 : decode cX8_findTower 37 = .ok (.iload_n 1, 1) := by decide +kernel
theorem dX8_findTower_38 : decode cX8_findTower 38 = .ok (.invokevirtual 289, 3) := by decide +kernel
theorem dX8_findTower_41 : decode cX8_findTower 41 = .ok (.ifCond .eq 52, 3) := by decide +kernel
theorem dX8_findTower_44 : decode cX8_findTower 44 = .ok (.aload_n 0, 1) := by decide +kernel
theorem dX8_findTower_45 : decode cX8_findTower 45 = .ok (.getfield 283, 3) := by decide +kernel
theorem dX8_findTower_48 : decode cX8_findTower 48 = .ok (.ifCond .ne 7, 3) := by decide +kernel
theorem dX8_findTower_51 : decode cX8_findTower 51 = .ok (.aload_n 0, 1) := by decide +kernel
theorem dX8_findTower_52 : decode cX8_findTower 52 = .ok (.invokevirtual 242, 3) := by decide +kernel
theorem dX8_findTower_55 : decode cX8_findTower 55 = .ok (.aload_n 0, 1) := by decide +kernel
theorem dX8_findTower_56 : decode cX8_findTower 56 = .ok (.dup, 1) := by decide +kernel
theorem dX8_findTower_57 : decode cX8_findTower 57 = .ok (.getfield 283, 3) := by decide +kernel
theorem dX8_findTower_60 : decode cX8_findTower 60 = .ok (.iconst 1, 1) := by decide +kernel
theorem dX8_findTower_61 : decode cX8_findTower 61 = .ok (.iadd, 1) := by decide +kernel
theorem dX8_findTower_62 : decode cX8_findTower 62 = .ok (.putfield 283, 3) := by decide +kernel
theorem dX8_findTower_65 : decode cX8_findTower 65 = .ok (.aload_n 0, 1) := by decide +kernel
theorem dX8_findTower_66 : decode cX8_findTower 66 = .ok (.dup, 1) := by decide +kernel
theorem dX8_findTower_67 : decode cX8_findTower 67 = .ok (.getfield 286, 3) := by decide +kernel
theorem dX8_findTower_70 : decode cX8_findTower 70 = .ok (.aload_n 0, 1) := by decide +kernel
theorem dX8_findTower_71 : decode cX8_findTower 71 = .ok (.getfield 146, 3) := by decide +kernel
theorem dX8_findTower_74 : decode cX8_findTower 74 = .ok (.ifCond .le 14, 3) := by decide +kernel
theorem dX8_findTower_77 : decode cX8_findTower 77 = .ok (.iconst 1, 1) := by decide +kernel
theorem dX8_findTower_78 : decode cX8_findTower 78 = .ok (.aload_n 0, 1) := by decide +kernel
theorem dX8_findTower_79 : decode cX8_findTower 79 = .ok (.getfield 69, 3) := by decide +kernel
theorem dX8_findTower_82 : decode cX8_findTower 82 = .ok (.iconst 0, 1) := by decide +kernel
theorem dX8_findTower_83 : decode cX8_findTower 83 = .ok (.iaload, 1) := by decide +kernel
theorem dX8_findTower_84 : decode cX8_findTower 84 = .ok (.ishl, 1) := by decide +kernel
theorem dX8_findTower_85 : decode cX8_findTower 85 = .ok (.goto 4, 3) := by decide +kernel
theorem dX8_findTower_88 : decode cX8_findTower 88 = .ok (.iconst 0, 1) := by decide +kernel
theorem dX8_findTower_89 : decode cX8_findTower 89 = .ok (.ior, 1) := by decide +kernel
theorem dX8_findTower_90 : decode cX8_findTower 90 = .ok (.putfield 286, 3) := by decide +kernel
theorem dX8_findTower_93 : decode cX8_findTower 93 = .ok (.iinc 2 1, 3) := by decide +kernel
theorem dX8_findTower_96 : decode cX8_findTower 96 = .ok (.goto (-80), 3) := by decide +kernel
theorem dX8_findTower_99 : decode cX8_findTower 99 = .ok (.return_, 1) := by decide +kernel
theorem dX8_tower_0 : decode cX8_tower 0 = .ok (.iload_n 1, 1) := by decide +kernel
theorem dX8_tower_1 : decode cX8_tower 1 = .ok (.invokestatic 91, 3) := by decide +kernel
theorem dX8_tower_4 : decode cX8_tower 4 = .ok (.ifCond .eq 10, 3) := by decide +kernel
theorem dX8_tower_7 : decode cX8_tower 7 = .ok (.iload_n 2, 1) := by decide +kernel
theorem dX8_tower_8 : decode cX8_tower 8 = .ok (.invokestatic 245, 3) := by decide +kernel
theorem dX8_tower_11 : decode cX8_tower 11 = .ok (.ifCond .ne 6, 3) := by decide +kernel
theorem dX8_tower_14 : decode cX8_tower 14 = .ok (.bipush (-2), 2) := by decide +kernel
theorem dX8_tower_16 : decode cX8_tower 16 = .ok (.ireturn, 1) := by decide +kernel
theorem dX8_tower_17 : decode cX8_tower 17 = .ok (.aload_n 0, 1) := by decide +kernel
theorem dX8_tower_18 : decode cX8_tower 18 = .ok (.getfield 7, 3) := by decide +kernel
theorem dX8_tower_21 : decode cX8_tower 21 = .ok (.iload_n 1, 1) := by decide +kernel
theorem dX8_tower_22 : decode cX8_tower 22 = .ok (.iaload, 1) := by decide +kernel
theorem dX8_tower_23 : decode cX8_tower 23 = .ok (.ifCond .ge 9, 3) := by decide +kernel
theorem dX8_tower_26 : decode cX8_tower 26 = .ok (.aload_n 0, 1) := by decide +kernel
theorem dX8_tower_27 : decode cX8_tower 27 = .ok (.iconst 1, 1) := by decide +kernel
theorem dX8_tower_28 : decode cX8_tower 28 = .ok (.invokevirtual 97, 3) := by decide +kernel
theorem dX8_tower_31 : decode cX8_tower 31 = .ok (.ireturn, 1) := by decide +kernel
theorem dX8_tower_32 : decode cX8_tower 32 = .ok (.aload_n 0, 1) := by decide +kernel
theorem dX8_tower_33 : decode cX8_tower 33 = .ok (.getfield 146, 3) := by decide +kernel
theorem dX8_tower_36 : decode cX8_tower 36 = .ok (.iconst 5, 1) := by decide +kernel
theorem dX8_tower_37 : decode cX8_tower 37 = .ok (.if_icmp .le 6, 3) := by decide +kernel
theorem dX8_tower_40 : decode cX8_tower 40 = .ok (.bipush (-4), 2) := by decide +kernel
theorem dX8_tower_42 : decode cX8_tower 42 = .ok (.ireturn, 1) := by decide +kernel
theorem dX8_tower_43 : decode cX8_tower 43 = .ok (.aload_n 0, 1) := by decide +kernel
theorem dX8_tower_44 : decode cX8_tower 44 = .ok (.iload_n 1, 1) := by decide +kernel
theorem dX8_tower_45 : decode cX8_tower 45 = .ok (.invokevirtual 292, 3) := by decide +kernel
theorem dX8_tower_48 : decode cX8_tower 48 = .ok (.iload_n 2, 1) := by decide +kernel
theorem dX8_tower_49 : decode cX8_tower 49 = .ok (.ifCond .ne 10, 3) := by decide +kernel
theorem dX8_tower_52 : decode cX8_tower 52 = .ok (.aload_n 0, 1) := by decide +kernel
theorem dX8_tower_53 : decode cX8_tower 53 = .ok (.getfield 283, 3) := by decide +kernel
theorem dX8_tower_56 : decode cX8_tower 56 = .ok (.goto 7, 3) := by decide +kernel
theorem dX8_tower_59 : decode cX8_tower 59 = .ok (.aload_n 0, 1) := by decide +kernel
theorem dX8_tower_60 : decode cX8_tower 60 = .ok (.getfield 286, 3) := by decide +kernel
theorem dX8_tower_63 : decode cX8_tower 63 = .ok (.ireturn, 1) := by decide +kernel
theorem dX8_towerOrder_0 : decode cX8_towerOrder 0 = .ok (.iload_n 1, 1) := by decide +kernel
theorem dX8_towerOrder_1 : decode cX8_towerOrder 1 = .ok (.invokestatic 91, 3) := by decide +kernel
theorem dX8_towerOrder_4 : decode cX8_towerOrder 4 = .ok (.ifCond .eq 11, 3) := by decide +kernel
theorem dX8_towerOrder_7 : decode cX8_towerOrder 7 = .ok (.aload_n 0, 1) := by decide +kernel
theorem dX8_towerOrder_8 : decode cX8_towerOrder 8 = .ok (.iload_n 2, 1) := by decide +kernel
theorem dX8_towerOrder_9 : decode cX8_towerOrder 9 = .ok (.invokevirtual 209, 3) := by decide +kernel
theorem dX8_towerOrder_12 : decode cX8_towerOrder 12 = .ok (.ifCond .ne 6, 3) := by decide +kernel
theorem dX8_towerOrder_15 : decode cX8_towerOrder 15 = .ok (.bipush (-2), 2) := by decide +kernel
theorem dX8_towerOrder_17 : decode cX8_towerOrder 17 = .ok (.ireturn, 1) := by decide +kernel
theorem dX8_towerOrder_18 : decode cX8_towerOrder 18 = .ok (.aload_n 0, 1) := by decide +kernel
theorem dX8_towerOrder_19 : decode cX8_towerOrder 19 = .ok (.getfield 7, 3) := by decide +kernel
theorem dX8_towerOrder_22 : decode cX8_towerOrder 22 = .ok (.iload_n 1, 1) := by decide +kernel
theorem dX8_towerOrder_23 : decode cX8_towerOrder 23 = .ok (.iaload, 1) := by decide +kernel
theorem dX8_towerOrder_24 : decode cX8_towerOrder 24 = .ok (.ifCond .ge 9, 3) := by decide +kernel
theorem dX8_towerOrder_27 : decode cX8_towerOrder 27 = .ok (.aload_n 0, 1) := by decide +kernel
theorem dX8_towerOrder_28 : decode cX8_towerOrder 28 = .ok (.iconst 1, 1) := by decide +kernel
theorem dX8_towerOrder_29 : decode cX8_towerOrder 29 = .ok (.invokevirtual 97, 3) := by decide +kernel
theorem dX8_towerOrder_32 : decode cX8_towerOrder 32 = .ok (.ireturn, 1) := by decide +kernel
theorem dX8_towerOrder_33 : decode cX8_towerOrder 33 = .ok (.aload_n 0, 1) := by decide +kernel
theorem dX8_towerOrder_34 : decode cX8_towerOrder 34 = .ok (.getfield 146, 3) := by decide +kernel
theorem dX8_towerOrder_37 : decode cX8_towerOrder 37 = .ok (.iconst 5, 1) := by decide +kernel
theorem dX8_towerOrder_38 : decode cX8_towerOrder 38 = .ok (.if_icmp .le 6, 3) := by decide +kernel
theorem dX8_towerOrder_41 : decode cX8_towerOrder 41 = .ok (.bipush (-4), 2) := by decide +kernel
theorem dX8_towerOrder_43 : decode cX8_towerOrder 43 = .ok (.ireturn, 1) := by decide +kernel
theorem dX8_towerOrder_44 : decode cX8_towerOrder 44 = .ok (.aload_n 0, 1) := by decide +kernel
theorem dX8_towerOrder_45 : decode cX8_towerOrder 45 = .ok (.iload_n 1, 1) := by decide +kernel
theorem dX8_towerOrder_46 : decode cX8_towerOrder 46 = .ok (.invokevirtual 292, 3) := by decide +kernel
theorem dX8_towerOrder_49 : decode cX8_towerOrder 49 = .ok (.aload_n 0, 1) := by decide +kernel
theorem dX8_towerOrder_50 : decode cX8_towerOrder 50 = .ok (.getfield 283, 3) := by decide +kernel
theorem dX8_towerOrder_53 : decode cX8_towerOrder 53 = .ok (.ifCond .ne 7, 3) := by decide +kernel
theorem dX8_towerOrder_56 : decode cX8_towerOrder 56 = .ok (.iconst (-1), 1) := by decide +kernel
theorem dX8_towerOrder_57 : decode cX8_towerOrder 57 = .ok (.goto 9, 3) := by decide +kernel
theorem dX8_towerOrder_60 : decode cX8_towerOrder 60 = .ok (.aload_n 0, 1) := by decide +kernel
theorem dX8_towerOrder_61 : decode cX8_towerOrder 61 = .ok (.getfield 72, 3) := by decide +kernel
theorem dX8_towerOrder_64 : decode cX8_towerOrder 64 = .ok (.iload_n 2, 1) := by decide +kernel
theorem dX8_towerOrder_65 : decode cX8_towerOrder 65 = .ok (.iaload, 1) := by decide +kernel
theorem dX8_towerOrder_66 : decode cX8_towerOrder 66 = .ok (.ireturn, 1) := by decide +kernel
theorem dX8_hints_0 : decode cX8_hints 0 = .ok (.iload_n 1, 1) := by decide +kernel
theorem dX8_hints_1 : decode cX8_hints 1 = .ok (.invokestatic 91, 3) := by decide +kernel
theorem dX8_hints_4 : decode cX8_hints 4 = .ok (.ifCond .eq 18, 3) := by decide +kernel
theorem dX8_hints_7 : decode cX8_hints 7 = .ok (.aload_n 0, 1) := by decide +kernel
theorem dX8_hints_8 : decode cX8_hints 8 = .ok (.iload_n 2, 1) := by decide +kernel
theorem dX8_hints_9 : decode cX8_hints 9 = .ok (.invokevirtual 209, 3) := by decide +kernel
theorem dX8_hints_12 : decode cX8_hints 12 = .ok (.ifCond .eq 10, 3) := by decide +kernel
theorem dX8_hints_15 : decode cX8_hints 15 = .ok (.iload_n 3, 1) := by decide +kernel
theorem dX8_hints_16 : decode cX8_hints 16 = .ok (.invokestatic 245, 3) := by decide +kernel
theorem dX8_hints_19 : decode cX8_hints 19 = .ok (.ifCond .ne 6, 3) := by decide +kernel
theorem dX8_hints_22 : decode cX8_hints 22 = .ok (.bipush (-2), 2) := by decide +kernel
theorem dX8_hints_24 : decode cX8_hints 24 = .ok (.ireturn, 1) := by decide +kernel
theorem dX8_hints_25 : decode cX8_hints 25 = .ok (.aload_n 0, 1) := by decide +kernel
theorem dX8_hints_26 : decode cX8_hints 26 = .ok (.getfield 7, 3) := by decide +kernel
theorem dX8_hints_29 : decode cX8_hints 29 = .ok (.iload_n 1, 1) := by decide +kernel
theorem dX8_hints_30 : decode cX8_hints 30 = .ok (.iaload, 1) := by decide +kernel
theorem dX8_hints_31 : decode cX8_hints 31 = .ok (.ifCond .ge 9, 3) := by decide +kernel
theorem dX8_hints_34 : decode cX8_hints 34 = .ok (.aload_n 0, 1) := by decide +kernel
theorem dX8_hints_35 : decode cX8_hints 35 = .ok (.iconst 1, 1) := by decide +kernel
theorem dX8_hints_36 : decode cX8_hints 36 = .ok (.invokevirtual 97, 3) := by decide +kernel
theorem dX8_hints_39 : decode cX8_hints 39 = .ok (.ireturn, 1) := by decide +kernel
theorem dX8_hints_40 : decode cX8_hints 40 = .ok (.aload_n 0, 1) := by decide +kernel
theorem dX8_hints_41 : decode cX8_hints 41 = .ok (.invokevirtual 188, 3) := by decide +kernel
theorem dX8_hints_44 : decode cX8_hints 44 = .ok (.iconst 0, 1) := by decide +kernel
theorem dX8_hints_45 : decode cX8_hints 45 = .ok (.istore 4, 2) := by decide +kernel
theorem dX8_hints_47 : decode cX8_hints 47 = .ok (.iconst (-1), 1) := by decide +kernel
theorem dX8_hints_48 : decode cX8_hints 48 = .ok (.istore 5, 2) := by decide +kernel
theorem dX8_hints_50 : decode cX8_hints 50 = .ok (.iconst 0, 1) := by decide +kernel
theorem dX8_hints_51 : decode cX8_hints 51 = .ok (.istore 6, 2) := by decide +kernel
theorem dX8_hints_53 : decode cX8_hints 53 = .ok (.iload 6, 2) := by decide +kernel
theorem dX8_hints_55 : decode cX8_hints 55 = .ok (.bipush 64, 2) := by decide +kernel
theorem dX8_hints_57 : decode cX8_hints 57 = .ok (.if_icmp .ge 76, 3) := by decide +kernel
theorem dX8_hints_60 : decode cX8_hints 60 = .ok (.aload_n 0, 1) := by decide +kernel
theorem dX8_hints_61 : decode cX8_hints 61 = .ok (.getfield 25, 3) := by decide +kernel
theorem dX8_hints_64 : decode cX8_hints 64 = .ok (.iload 6, 2) := by decide +kernel
theorem dX8_hints_66 : decode cX8_hints 66 = .ok (.iaload, 1) := by decide +kernel
theorem dX8_hints_67 : decode cX8_hints 67 = .ok (.ifCond .ne 60, 3) := by decide +kernel
theorem dX8_hints_70 : decode cX8_hints 70 = .ok (.aload_n 0, 1) := by decide +kernel
theorem dX8_hints_71 : decode cX8_hints 71 = .ok (.iload 6, 2) := by decide +kernel
theorem dX8_hints_73 : decode cX8_hints 73 = .ok (.putfield 59, 3) := by decide +kernel
theorem dX8_hints_76 : decode cX8_hints 76 = .ok (.aload_n 0, 1) := by decide +kernel
theorem dX8_hints_77 : decode cX8_hints 77 = .ok (.invokevirtual 149, 3) := by decide +kernel
theorem dX8_hints_80 : decode cX8_hints 80 = .ok (.aload_n 0, 1) := by decide +kernel
theorem dX8_hints_81 : decode cX8_hints 81 = .ok (.iload_n 2, 1) := by decide +kernel
theorem dX8_hints_82 : decode cX8_hints 82 = .ok (.invokevirtual 212, 3) := by decide +kernel
theorem dX8_hints_85 : decode cX8_hints 85 = .ok (.aload_n 0, 1) := by decide +kernel
theorem dX8_hints_86 : decode cX8_hints 86 = .ok (.iload_n 1, 1) := by decide +kernel
theorem dX8_hints_87 : decode cX8_hints 87 = .ok (.invokevirtual 289, 3) := by decide +kernel
theorem dX8_hints_90 : decode cX8_hints 90 = .ok (.istore 7, 2) := by decide +kernel
theorem dX8_hints_92 : decode cX8_hints 92 = .ok (.iload 7, 2) := by decide +kernel
theorem dX8_hints_94 : decode cX8_hints 94 = .ok (.ifCond .eq 14, 3) := by decide +kernel
theorem dX8_hints_97 : decode cX8_hints 97 = .ok (.iload 5, 2) := by decide +kernel
theorem dX8_hints_99 : decode cX8_hints 99 = .ok (.iconst (-1), 1) := by decide +kernel
theorem dX8_hints_100 : decode cX8_hints 100 = .ok (.if_icmp .ne 8, 3) := by decide +kernel
theorem dX8_hints_103 : decode cX8_hints 103 = .ok (.iload 6, 2) := by decide +kernel
theorem dX8_hints_105 : decode cX8_hints 105 = .ok (.goto 5, 3) := by decide +kernel
theorem dX8_hints_108 : decode cX8_hints 108 = .ok (.iload 5, 2) := by decide +kernel
theorem dX8_hints_110 : decode cX8_hints 110 = .ok (.istore 5, 2) := by decide +kernel
theorem dX8_hints_112 : decode cX8_hints 112 = .ok (.iload 4, 2) := by decide +kernel
theorem dX8_hints_114 : decode cX8_hints 114 = .ok (.iload 7, 2) := by decide +kernel
theorem dX8_hints_116 : decode cX8_hints 116 = .ok (.ifCond .eq 7, 3) := by decide +kernel
theorem dX8_hints_119 : decode cX8_hints 119 = .ok (.iconst 1, 1) := by decide +kernel
theorem dX8_hints_120 : decode cX8_hints 120 = .ok (.goto 4, 3) := by decide +kernel
theorem dX8_hints_123 : decode cX8_hints 123 = .ok (.iconst 0, 1) := by decide +kernel
theorem dX8_hints_124 : decode cX8_hints 124 = .ok (.iadd, 1) := by decide +kernel
theorem dX8_hints_125 : decode cX8_hints 125 = .ok (.istore 4, 2) := by decide +kernel
theorem dX8_hints_127 : decode cX8_hints 127 = .ok (.iinc 6 1, 3) := by decide +kernel
theorem dX8_hints_130 : decode cX8_hints 130 = .ok (.goto (-77), 3) := by decide +kernel
theorem dX8_hints_133 : decode cX8_hints 133 = .ok (.iload_n 3, 1) := by decide +kernel
theorem dX8_hints_134 : decode cX8_hints 134 = .ok (.ifCond .ne 8, 3) := by decide +kernel
theorem dX8_hints_137 : decode cX8_hints 137 = .ok (.iload 4, 2) := by decide +kernel
theorem dX8_hints_139 : decode cX8_hints 139 = .ok (.goto 5, 3) := by decide +kernel
theorem dX8_hints_142 : decode cX8_hints 142 = .ok (.iload 5, 2) := by decide +kernel
theorem dX8_hints_144 : decode cX8_hints 144 = .ok (.ireturn, 1) := by decide +kernel
theorem dX8_write_0 : decode cX8_write 0 = .ok (.iload_n 1, 1) := by decide +kernel
theorem dX8_write_1 : decode cX8_write 1 = .ok (.invokestatic 91, 3) := by decide +kernel
theorem dX8_write_4 : decode cX8_write 4 = .ok (.ifCond .ne 6, 3) := by decide +kernel
theorem dX8_write_7 : decode cX8_write 7 = .ok (.bipush (-2), 2) := by decide +kernel
theorem dX8_write_9 : decode cX8_write 9 = .ok (.ireturn, 1) := by decide +kernel
theorem dX8_write_10 : decode cX8_write 10 = .ok (.aload_n 0, 1) := by decide +kernel
theorem dX8_write_11 : decode cX8_write 11 = .ok (.getfield 7, 3) := by decide +kernel
theorem dX8_write_14 : decode cX8_write 14 = .ok (.iload_n 1, 1) := by decide +kernel
theorem dX8_write_15 : decode cX8_write 15 = .ok (.iaload, 1) := by decide +kernel
theorem dX8_write_16 : decode cX8_write 16 = .ok (.ifCond .ge 9, 3) := by decide +kernel
theorem dX8_write_19 : decode cX8_write 19 = .ok (.aload_n 0, 1) := by decide +kernel
theorem dX8_write_20 : decode cX8_write 20 = .ok (.iconst 1, 1) := by decide +kernel
theorem dX8_write_21 : decode cX8_write 21 = .ok (.invokevirtual 97, 3) := by decide +kernel
theorem dX8_write_24 : decode cX8_write 24 = .ok (.ireturn, 1) := by decide +kernel
theorem dX8_write_25 : decode cX8_write 25 = .ok (.aload_n 0, 1) := by decide +kernel
theorem dX8_write_26 : decode cX8_write 26 = .ok (.invokevirtual 188, 3) := by decide +kernel
theorem dX8_write_29 : decode cX8_write 29 = .ok (.aload_n 0, 1) := by decide +kernel
theorem dX8_write_30 : decode cX8_write 30 = .ok (.invokevirtual 218, 3) := by decide +kernel
theorem dX8_write_33 : decode cX8_write 33 = .ok (.iconst 0, 1) := by decide +kernel
theorem dX8_write_34 : decode cX8_write 34 = .ok (.istore_n 2, 1) := by decide +kernel
theorem dX8_write_35 : decode cX8_write 35 = .ok (.iload_n 2, 1) := by decide +kernel
theorem dX8_write_36 : decode cX8_write 36 = .ok (.aload_n 0, 1) := by decide +kernel
theorem dX8_write_37 : decode cX8_write 37 = .ok (.getfield 13, 3) := by decide +kernel
theorem dX8_write_40 : decode cX8_write 40 = .ok (.iload_n 1, 1) := by decide +kernel
theorem dX8_write_41 : decode cX8_write 41 = .ok (.iaload, 1) := by decide +kernel
theorem dX8_write_42 : decode cX8_write 42 = .ok (.if_icmp .ge 35, 3) := by decide +kernel
theorem dX8_write_45 : decode cX8_write 45 = .ok (.aload_n 0, 1) := by decide +kernel
theorem dX8_write_46 : decode cX8_write 46 = .ok (.getfield 16, 3) := by decide +kernel
theorem dX8_write_49 : decode cX8_write 49 = .ok (.bipush 64, 2) := by decide +kernel
theorem dX8_write_51 : decode cX8_write 51 = .ok (.iload_n 1, 1) := by decide +kernel
theorem dX8_write_52 : decode cX8_write 52 = .ok (.imul, 1) := by decide +kernel
theorem dX8_write_53 : decode cX8_write 53 = .ok (.iload_n 2, 1) := by decide +kernel
theorem dX8_write_54 : decode cX8_write 54 = .ok (.iadd, 1) := by decide +kernel
theorem dX8_write_55 : decode cX8_write 55 = .ok (.aload_n 0, 1) := by decide +kernel
theorem dX8_write_56 : decode cX8_write 56 = .ok (.getfield 7, 3) := by decide +kernel
theorem dX8_write_59 : decode cX8_write 59 = .ok (.iload_n 1, 1) := by decide +kernel
theorem dX8_write_60 : decode cX8_write 60 = .ok (.iaload, 1) := by decide +kernel
theorem dX8_write_61 : decode cX8_write 61 = .ok (.aload_n 0, 1) := by decide +kernel
theorem dX8_write_62 : decode cX8_write 62 = .ok (.getfield 52, 3) := by decide +kernel
theorem dX8_write_65 : decode cX8_write 65 = .ok (.iload_n 2, 1) := by decide +kernel
theorem dX8_write_66 : decode cX8_write 66 = .ok (.iaload, 1) := by decide +kernel
theorem dX8_write_67 : decode cX8_write 67 = .ok (.invokestatic 105, 3) := by decide +kernel
theorem dX8_write_70 : decode cX8_write 70 = .ok (.iastore, 1) := by decide +kernel
theorem dX8_write_71 : decode cX8_write 71 = .ok (.iinc 2 1, 3) := by decide +kernel
theorem dX8_write_74 : decode cX8_write 74 = .ok (.goto (-39), 3) := by decide +kernel
theorem dX8_write_77 : decode cX8_write 77 = .ok (.aload_n 0, 1) := by decide +kernel
theorem dX8_write_78 : decode cX8_write 78 = .ok (.getfield 13, 3) := by decide +kernel
theorem dX8_write_81 : decode cX8_write 81 = .ok (.iload_n 1, 1) := by decide +kernel
theorem dX8_write_82 : decode cX8_write 82 = .ok (.iaload, 1) := by decide +kernel
theorem dX8_write_83 : decode cX8_write 83 = .ok (.ireturn, 1) := by decide +kernel
theorem dX8_count_0 : decode cX8_count 0 = .ok (.iconst 0, 1) := by decide +kernel
theorem dX8_count_1 : decode cX8_count 1 = .ok (.istore_n 2, 1) := by decide +kernel
theorem dX8_count_2 : decode cX8_count 2 = .ok (.aload_n 0, 1) := by decide +kernel
theorem dX8_count_3 : decode cX8_count 3 = .ok (.invokevirtual 122, 3) := by decide +kernel
theorem dX8_count_6 : decode cX8_count 6 = .ok (.pop, 1) := by decide +kernel
theorem dX8_count_7 : decode cX8_count 7 = .ok (.iload_n 1, 1) := by decide +kernel
theorem dX8_count_8 : decode cX8_count 8 = .ok (.tableswitch 168 0 8 #[52, 57, 57, 91, 91, 91, 91, 158, 163], 52) := by decide +kernel
theorem dX8_count_60 : decode cX8_count 60 = .ok (.aload_n 0, 1) := by decide +kernel
theorem dX8_count_61 : decode cX8_count 61 = .ok (.getfield 112, 3) := by decide +kernel
theorem dX8_count_64 : decode cX8_count 64 = .ok (.ireturn, 1) := by decide +kernel
theorem dX8_count_65 : decode cX8_count 65 = .ok (.iconst 0, 1) := by decide +kernel
theorem dX8_count_66 : decode cX8_count 66 = .ok (.istore_n 3, 1) := by decide +kernel
theorem dX8_count_67 : decode cX8_count 67 = .ok (.iload_n 3, 1) := by decide +kernel
theorem dX8_count_68 : decode cX8_count 68 = .ok (.bipush 64, 2) := by decide +kernel
theorem dX8_count_70 : decode cX8_count 70 = .ok (.if_icmp .ge 27, 3) := by decide +kernel
theorem dX8_count_73 : decode cX8_count 73 = .ok (.iload_n 2, 1) := by decide +kernel
theorem dX8_count_74 : decode cX8_count 74 = .ok (.aload_n 0, 1) := by decide +kernel
theorem dX8_count_75 : decode cX8_count 75 = .ok (.getfield 25, 3) := by decide +kernel
theorem dX8_count_78 : decode cX8_count 78 = .ok (.iload_n 3, 1) := by decide +kernel
theorem dX8_count_79 : decode cX8_count 79 = .ok (.iaload, 1) := by decide +kernel
theorem dX8_count_80 : decode cX8_count 80 = .ok (.iload_n 1, 1) := by decide +kernel
theorem dX8_count_81 : decode cX8_count 81 = .ok (.if_icmp .ne 7, 3) := by decide +kernel
theorem dX8_count_84 : decode cX8_count 84 = .ok (.iconst 1, 1) := by decide +kernel
theorem dX8_count_85 : decode cX8_count 85 = .ok (.goto 4, 3) := by decide +kernel
theorem dX8_count_88 : decode cX8_count 88 = .ok (.iconst 0, 1) := by decide +kernel
theorem dX8_count_89 : decode cX8_count 89 = .ok (.iadd, 1) := by decide +kernel
theorem dX8_count_90 : decode cX8_count 90 = .ok (.istore_n 2, 1) := by decide +kernel
theorem dX8_count_91 : decode cX8_count 91 = .ok (.iinc 3 1, 3) := by decide +kernel
theorem dX8_count_94 : decode cX8_count 94 = .ok (.goto (-27), 3) := by decide +kernel
theorem dX8_count_97 : decode cX8_count 97 = .ok (.iload_n 2, 1) := by decide +kernel
theorem dX8_count_98 : decode cX8_count 98 = .ok (.ireturn, 1) := by decide +kernel
theorem dX8_count_99 : decode cX8_count 99 = .ok (.iconst 0, 1) := by decide +kernel
theorem dX8_count_100 : decode cX8_count 100 = .ok (.istore_n 3, 1) := by decide +kernel
theorem dX8_count_101 : decode cX8_count 101 = .ok (.iload_n 3, 1) := by decide +kernel
theorem dX8_count_102 : decode cX8_count 102 = .ok (.bipush 64, 2) := by decide +kernel
theorem dX8_count_104 : decode cX8_count 104 = .ok (.if_icmp .ge 60, 3) := by decide +kernel
theorem dX8_count_107 : decode cX8_count 107 = .ok (.iload_n 2, 1) := by decide +kernel
theorem dX8_count_108 : decode cX8_count 108 = .ok (.iload_n 1, 1) := by decide +kernel
theorem dX8_count_109 : decode cX8_count 109 = .ok (.iconst 3, 1) := by decide +kernel
theorem dX8_count_110 : decode cX8_count 110 = .ok (.if_icmp .ne 12, 3) := by decide +kernel
theorem dX8_count_113 : decode cX8_count 113 = .ok (.aload_n 0, 1) := by decide +kernel
theorem dX8_count_114 : decode cX8_count 114 = .ok (.getfield 28, 3) := by decide +kernel
theorem dX8_count_117 : decode cX8_count 117 = .ok (.iload_n 3, 1) := by decide +kernel
theorem dX8_count_118 : decode cX8_count 118 = .ok (.iaload, 1) := by decide +kernel
theorem dX8_count_119 : decode cX8_count 119 = .ok (.goto 37, 3) := by decide +kernel
theorem dX8_count_122 : decode cX8_count 122 = .ok (.iload_n 1, 1) := by decide +kernel
theorem dX8_count_123 : decode cX8_count 123 = .ok (.iconst 4, 1) := by decide +kernel
theorem dX8_count_124 : decode cX8_count 124 = .ok (.if_icmp .ne 12, 3) := by decide +kernel
theorem dX8_count_127 : decode cX8_count 127 = .ok (.aload_n 0, 1) := by decide +kernel
theorem dX8_count_128 : decode cX8_count 128 = .ok (.getfield 31, 3) := by decide +kernel
theorem dX8_count_131 : decode cX8_count 131 = .ok (.iload_n 3, 1) := by decide +kernel
theorem dX8_count_132 : decode cX8_count 132 = .ok (.iaload, 1) := by decide +kernel
theorem dX8_count_133 : decode cX8_count 133 = .ok (.goto 23, 3) := by decide +kernel
theorem dX8_count_136 : decode cX8_count 136 = .ok (.iload_n 1, 1) := by decide +kernel
theorem dX8_count_137 : decode cX8_count 137 = .ok (.iconst 5, 1) := by decide +kernel
theorem dX8_count_138 : decode cX8_count 138 = .ok (.if_icmp .ne 12, 3) := by decide +kernel
theorem dX8_count_141 : decode cX8_count 141 = .ok (.aload_n 0, 1) := by decide +kernel
theorem dX8_count_142 : decode cX8_count 142 = .ok (.getfield 34, 3) := by decide +kernel
theorem dX8_count_145 : decode cX8_count 145 = .ok (.iload_n 3, 1) := by decide +kernel
theorem dX8_count_146 : decode cX8_count 146 = .ok (.iaload, 1) := by decide +kernel
theorem dX8_count_147 : decode cX8_count 147 = .ok (.goto 9, 3) := by decide +kernel
theorem dX8_count_150 : decode cX8_count 150 = .ok (.aload_n 0, 1) := by decide +kernel
theorem dX8_count_151 : decode cX8_count 151 = .ok (.getfield 37, 3) := by decide +kernel
theorem dX8_count_154 : decode cX8_count 154 = .ok (.iload_n 3, 1) := by decide +kernel
theorem dX8_count_155 : decode cX8_count 155 = .ok (.iaload, 1) := by decide +kernel
theorem dX8_count_156 : decode cX8_count 156 = .ok (.iadd, 1) := by decide +kernel
theorem dX8_count_157 : decode cX8_count 157 = .ok (.istore_n 2, 1) := by decide +kernel
theorem dX8_count_158 : decode cX8_count 158 = .ok (.iinc 3 1, 3) := by decide +kernel
theorem dX8_count_161 : decode cX8_count 161 = .ok (.goto (-60), 3) := by decide +kernel
theorem dX8_count_164 : decode cX8_count 164 = .ok (.iload_n 2, 1) := by decide +kernel
theorem dX8_count_165 : decode cX8_count 165 = .ok (.ireturn, 1) := by decide +kernel
theorem dX8_count_166 : decode cX8_count 166 = .ok (.aload_n 0, 1) := by decide +kernel
theorem dX8_count_167 : decode cX8_count 167 = .ok (.getfield 146, 3) := by decide +kernel
theorem dX8_count_170 : decode cX8_count 170 = .ok (.ireturn, 1) := by decide +kernel
theorem dX8_count_171 : decode cX8_count 171 = .ok (.aload_n 0, 1) := by decide +kernel
theorem dX8_count_172 : decode cX8_count 172 = .ok (.getfield 86, 3) := by decide +kernel
theorem dX8_count_175 : decode cX8_count 175 = .ok (.ireturn, 1) := by decide +kernel
theorem dX8_count_176 : decode cX8_count 176 = .ok (.bipush (-2), 2) := by decide +kernel
theorem dX8_count_178 : decode cX8_count 178 = .ok (.ireturn, 1) := by decide +kernel
theorem dX8_digest_0 : decode cX8_digest 0 = .ok (.ldc2_w 295, 3) := by decide +kernel
theorem dX8_digest_3 : decode cX8_digest 3 = .ok (.lstore_n 1, 1) := by decide +kernel
theorem dX8_digest_4 : decode cX8_digest 4 = .ok (.iconst 0, 1) := by decide +kernel
theorem dX8_digest_5 : decode cX8_digest 5 = .ok (.istore_n 3, 1) := by decide +kernel
theorem dX8_digest_6 : decode cX8_digest 6 = .ok (.iload_n 3, 1) := by decide +kernel
theorem dX8_digest_7 : decode cX8_digest 7 = .ok (.bipush 8, 2) := by decide +kernel
theorem dX8_digest_9 : decode cX8_digest 9 = .ok (.if_icmp .ge 22, 3) := by decide +kernel
theorem dX8_digest_12 : decode cX8_digest 12 = .ok (.ldc2_w 297, 3) := by decide +kernel
theorem dX8_digest_15 : decode cX8_digest 15 = .ok (.lload_n 1, 1) := by decide +kernel
theorem dX8_digest_16 : decode cX8_digest 16 = .ok (.lmul, 1) := by decide +kernel
theorem dX8_digest_17 : decode cX8_digest 17 = .ok (.aload_n 0, 1) := by decide +kernel
theorem dX8_digest_18 : decode cX8_digest 18 = .ok (.iload_n 3, 1) := by decide +kernel
theorem dX8_digest_19 : decode cX8_digest 19 = .ok (.invokevirtual 299, 3) := by decide +kernel
theorem dX8_digest_22 : decode cX8_digest 22 = .ok (.i2l, 1) := by decide +kernel
theorem dX8_digest_23 : decode cX8_digest 23 = .ok (.ladd, 1) := by decide +kernel
theorem dX8_digest_24 : decode cX8_digest 24 = .ok (.lstore_n 1, 1) := by decide +kernel
theorem dX8_digest_25 : decode cX8_digest 25 = .ok (.iinc 3 1, 3) := by decide +kernel
theorem dX8_digest_28 : decode cX8_digest 28 = .ok (.goto (-22), 3) := by decide +kernel
theorem dX8_digest_31 : decode cX8_digest 31 = .ok (.ldc2_w 297, 3) := by decide +kernel
theorem dX8_digest_34 : decode cX8_digest 34 = .ok (.lload_n 1, 1) := by decide +kernel
theorem dX8_digest_35 : decode cX8_digest 35 = .ok (.lmul, 1) := by decide +kernel
theorem dX8_digest_36 : decode cX8_digest 36 = .ok (.aload_n 0, 1) := by decide +kernel
theorem dX8_digest_37 : decode cX8_digest 37 = .ok (.invokevirtual 122, 3) := by decide +kernel
theorem dX8_digest_40 : decode cX8_digest 40 = .ok (.i2l, 1) := by decide +kernel
theorem dX8_digest_41 : decode cX8_digest 41 = .ok (.ladd, 1) := by decide +kernel
theorem dX8_digest_42 : decode cX8_digest 42 = .ok (.lstore_n 1, 1) := by decide +kernel
theorem dX8_digest_43 : decode cX8_digest 43 = .ok (.iconst 0, 1) := by decide +kernel
theorem dX8_digest_44 : decode cX8_digest 44 = .ok (.istore_n 3, 1) := by decide +kernel
theorem dX8_digest_45 : decode cX8_digest 45 = .ok (.iload_n 3, 1) := by decide +kernel
theorem dX8_digest_46 : decode cX8_digest 46 = .ok (.bipush 64, 2) := by decide +kernel
theorem dX8_digest_48 : decode cX8_digest 48 = .ok (.if_icmp .ge 39, 3) := by decide +kernel
theorem dX8_digest_51 : decode cX8_digest 51 = .ok (.iconst 0, 1) := by decide +kernel
theorem dX8_digest_52 : decode cX8_digest 52 = .ok (.istore 4, 2) := by decide +kernel
theorem dX8_digest_54 : decode cX8_digest 54 = .ok (.iload 4, 2) := by decide +kernel
theorem dX8_digest_56 : decode cX8_digest 56 = .ok (.iconst 5, 1) := by decide +kernel
theorem dX8_digest_57 : decode cX8_digest 57 = .ok (.if_icmp .ge 24, 3) := by decide +kernel
theorem dX8_digest_60 : decode cX8_digest 60 = .ok (.ldc2_w 297, 3) := by decide +kernel
theorem dX8_digest_63 : decode cX8_digest 63 = .ok (.lload_n 1, 1) := by decide +kernel
theorem dX8_digest_64 : decode cX8_digest 64 = .ok (.lmul, 1) := by decide +kernel
theorem dX8_digest_65 : decode cX8_digest 65 = .ok (.aload_n 0, 1) := by decide +kernel
theorem dX8_digest_66 : decode cX8_digest 66 = .ok (.iload_n 3, 1) := by decide +kernel
theorem dX8_digest_67 : decode cX8_digest 67 = .ok (.iload 4, 2) := by decide +kernel
theorem dX8_digest_69 : decode cX8_digest 69 = .ok (.invokevirtual 130, 3) := by decide +kernel
theorem dX8_digest_72 : decode cX8_digest 72 = .ok (.i2l, 1) := by decide +kernel
theorem dX8_digest_73 : decode cX8_digest 73 = .ok (.ladd, 1) := by decide +kernel
theorem dX8_digest_74 : decode cX8_digest 74 = .ok (.lstore_n 1, 1) := by decide +kernel
theorem dX8_digest_75 : decode cX8_digest 75 = .ok (.iinc 4 1, 3) := by decide +kernel
theorem dX8_digest_78 : decode cX8_digest 78 = .ok (.goto (-24), 3) := by decide +kernel
theorem dX8_digest_81 : decode cX8_digest 81 = .ok (.iinc 3 1, 3) := by decide +kernel
theorem dX8_digest_84 : decode cX8_digest 84 = .ok (.goto (-39), 3) := by decide +kernel
theorem dX8_digest_87 : decode cX8_digest 87 = .ok (.iconst 0, 1) := by decide +kernel
theorem dX8_digest_88 : decode cX8_digest 88 = .ok (.istore_n 3, 1) := by decide +kernel
theorem dX8_digest_89 : decode cX8_digest 89 = .ok (.iload_n 3, 1) := by decide +kernel
theorem dX8_digest_90 : decode cX8_digest 90 = .ok (.aload_n 0, 1) := by decide +kernel
theorem dX8_digest_91 : decode cX8_digest 91 = .ok (.getfield 146, 3) := by decide +kernel
theorem dX8_digest_94 : decode cX8_digest 94 = .ok (.if_icmp .ge 51, 3) := by decide +kernel
theorem dX8_digest_97 : decode cX8_digest 97 = .ok (.aload_n 0, 1) := by decide +kernel
theorem dX8_digest_98 : decode cX8_digest 98 = .ok (.invokevirtual 188, 3) := by decide +kernel
theorem dX8_digest_101 : decode cX8_digest 101 = .ok (.ldc2_w 297, 3) := by decide +kernel
theorem dX8_digest_104 : decode cX8_digest 104 = .ok (.lload_n 1, 1) := by decide +kernel
theorem dX8_digest_105 : decode cX8_digest 105 = .ok (.lmul, 1) := by decide +kernel
theorem dX8_digest_106 : decode cX8_digest 106 = .ok (.aload_n 0, 1) := by decide +kernel
theorem dX8_digest_107 : decode cX8_digest 107 = .ok (.iload_n 3, 1) := by decide +kernel
theorem dX8_digest_108 : decode cX8_digest 108 = .ok (.invokevirtual 206, 3) := by decide +kernel
theorem dX8_digest_111 : decode cX8_digest 111 = .ok (.i2l, 1) := by decide +kernel
theorem dX8_digest_112 : decode cX8_digest 112 = .ok (.ladd, 1) := by decide +kernel
theorem dX8_digest_113 : decode cX8_digest 113 = .ok (.lstore_n 1, 1) := by decide +kernel
theorem dX8_digest_114 : decode cX8_digest 114 = .ok (.ldc2_w 297, 3) := by decide +kernel
theorem dX8_digest_117 : decode cX8_digest 117 = .ok (.lload_n 1, 1) := by decide +kernel
theorem dX8_digest_118 : decode cX8_digest 118 = .ok (.lmul, 1) := by decide +kernel
theorem dX8_digest_119 : decode cX8_digest 119 = .ok (.aload_n 0, 1) := by decide +kernel
theorem dX8_digest_120 : decode cX8_digest 120 = .ok (.aload_n 0, 1) := by decide +kernel
theorem dX8_digest_121 : decode cX8_digest 121 = .ok (.getfield 40, 3) := by decide +kernel
theorem dX8_digest_124 : decode cX8_digest 124 = .ok (.iload_n 3, 1) := by decide +kernel
theorem dX8_digest_125 : decode cX8_digest 125 = .ok (.iaload, 1) := by decide +kernel
theorem dX8_digest_126 : decode cX8_digest 126 = .ok (.aload_n 0, 1) := by decide +kernel
theorem dX8_digest_127 : decode cX8_digest 127 = .ok (.getfield 43, 3) := by decide +kernel
theorem dX8_digest_130 : decode cX8_digest 130 = .ok (.iload_n 3, 1) := by decide +kernel
theorem dX8_digest_131 : decode cX8_digest 131 = .ok (.iaload, 1) := by decide +kernel
theorem dX8_digest_132 : decode cX8_digest 132 = .ok (.iconst (-1), 1) := by decide +kernel
theorem dX8_digest_133 : decode cX8_digest 133 = .ok (.invokevirtual 199, 3) := by decide +kernel
theorem dX8_digest_136 : decode cX8_digest 136 = .ok (.i2l, 1) := by decide +kernel
theorem dX8_digest_137 : decode cX8_digest 137 = .ok (.ladd, 1) := by decide +kernel
theorem dX8_digest_138 : decode cX8_digest 138 = .ok (.lstore_n 1, 1) := by decide +kernel
theorem dX8_digest_139 : decode cX8_digest 139 = .ok (.iinc 3 1, 3) := by decide +kernel
theorem dX8_digest_142 : decode cX8_digest 142 = .ok (.goto (-53), 3) := by decide +kernel
theorem dX8_digest_145 : decode cX8_digest 145 = .ok (.iconst 0, 1) := by decide +kernel
theorem dX8_digest_146 : decode cX8_digest 146 = .ok (.istore_n 3, 1) := by decide +kernel
theorem dX8_digest_147 : decode cX8_digest 147 = .ok (.iload_n 3, 1) := by decide +kernel
theorem dX8_digest_148 : decode cX8_digest 148 = .ok (.iconst 4, 1) := by decide +kernel
theorem dX8_digest_149 : decode cX8_digest 149 = .ok (.if_icmp .ge 22, 3) := by decide +kernel
theorem dX8_digest_152 : decode cX8_digest 152 = .ok (.ldc2_w 297, 3) := by decide +kernel
theorem dX8_digest_155 : decode cX8_digest 155 = .ok (.lload_n 1, 1) := by decide +kernel
theorem dX8_digest_156 : decode cX8_digest 156 = .ok (.lmul, 1) := by decide +kernel
theorem dX8_digest_157 : decode cX8_digest 157 = .ok (.aload_n 0, 1) := by decide +kernel
theorem dX8_digest_158 : decode cX8_digest 158 = .ok (.iload_n 3, 1) := by decide +kernel
theorem dX8_digest_159 : decode cX8_digest 159 = .ok (.invokevirtual 221, 3) := by decide +kernel
theorem dX8_digest_162 : decode cX8_digest 162 = .ok (.i2l, 1) := by decide +kernel
theorem dX8_digest_163 : decode cX8_digest 163 = .ok (.ladd, 1) := by decide +kernel
theorem dX8_digest_164 : decode cX8_digest 164 = .ok (.lstore_n 1, 1) := by decide +kernel
theorem dX8_digest_165 : decode cX8_digest 165 = .ok (.iinc 3 1, 3) := by decide +kernel
theorem dX8_digest_168 : decode cX8_digest 168 = .ok (.goto (-21), 3) := by decide +kernel
theorem dX8_digest_171 : decode cX8_digest 171 = .ok (.ldc2_w 297, 3) := by decide +kernel
theorem dX8_digest_174 : decode cX8_digest 174 = .ok (.lload_n 1, 1) := by decide +kernel
theorem dX8_digest_175 : decode cX8_digest 175 = .ok (.lmul, 1) := by decide +kernel
theorem dX8_digest_176 : decode cX8_digest 176 = .ok (.aload_n 0, 1) := by decide +kernel
theorem dX8_digest_177 : decode cX8_digest 177 = .ok (.invokevirtual 224, 3) := by decide +kernel
theorem dX8_digest_180 : decode cX8_digest 180 = .ok (.i2l, 1) := by decide +kernel
theorem dX8_digest_181 : decode cX8_digest 181 = .ok (.ladd, 1) := by decide +kernel
theorem dX8_digest_182 : decode cX8_digest 182 = .ok (.lstore_n 1, 1) := by decide +kernel
theorem dX8_digest_183 : decode cX8_digest 183 = .ok (.ldc2_w 297, 3) := by decide +kernel
theorem dX8_digest_186 : decode cX8_digest 186 = .ok (.lload_n 1, 1) := by decide +kernel
theorem dX8_digest_187 : decode cX8_digest 187 = .ok (.lmul, 1) := by decide +kernel
theorem dX8_digest_188 : decode cX8_digest 188 = .ok (.aload_n 0, 1) := by decide +kernel
theorem dX8_digest_189 : decode cX8_digest 189 = .ok (.iconst 0, 1) := by decide +kernel
theorem dX8_digest_190 : decode cX8_digest 190 = .ok (.invokevirtual 251, 3) := by decide +kernel
theorem dX8_digest_193 : decode cX8_digest 193 = .ok (.i2l, 1) := by decide +kernel
theorem dX8_digest_194 : decode cX8_digest 194 = .ok (.ladd, 1) := by decide +kernel
theorem dX8_digest_195 : decode cX8_digest 195 = .ok (.lstore_n 1, 1) := by decide +kernel
theorem dX8_digest_196 : decode cX8_digest 196 = .ok (.ldc2_w 297, 3) := by decide +kernel
theorem dX8_digest_199 : decode cX8_digest 199 = .ok (.lload_n 1, 1) := by decide +kernel
theorem dX8_digest_200 : decode cX8_digest 200 = .ok (.lmul, 1) := by decide +kernel
theorem dX8_digest_201 : decode cX8_digest 201 = .ok (.aload_n 0, 1) := by decide +kernel
theorem dX8_digest_202 : decode cX8_digest 202 = .ok (.iconst 1, 1) := by decide +kernel
theorem dX8_digest_203 : decode cX8_digest 203 = .ok (.invokevirtual 251, 3) := by decide +kernel
theorem dX8_digest_206 : decode cX8_digest 206 = .ok (.i2l, 1) := by decide +kernel
theorem dX8_digest_207 : decode cX8_digest 207 = .ok (.ladd, 1) := by decide +kernel
theorem dX8_digest_208 : decode cX8_digest 208 = .ok (.lstore_n 1, 1) := by decide +kernel
theorem dX8_digest_209 : decode cX8_digest 209 = .ok (.aload_n 0, 1) := by decide +kernel
theorem dX8_digest_210 : decode cX8_digest 210 = .ok (.invokevirtual 260, 3) := by decide +kernel
theorem dX8_digest_213 : decode cX8_digest 213 = .ok (.ldc2_w 297, 3) := by decide +kernel
theorem dX8_digest_216 : decode cX8_digest 216 = .ok (.lload_n 1, 1) := by decide +kernel
theorem dX8_digest_217 : decode cX8_digest 217 = .ok (.lmul, 1) := by decide +kernel
theorem dX8_digest_218 : decode cX8_digest 218 = .ok (.aload_n 0, 1) := by decide +kernel
theorem dX8_digest_219 : decode cX8_digest 219 = .ok (.getfield 254, 3) := by decide +kernel
theorem dX8_digest_222 : decode cX8_digest 222 = .ok (.i2l, 1) := by decide +kernel
theorem dX8_digest_223 : decode cX8_digest 223 = .ok (.ladd, 1) := by decide +kernel
theorem dX8_digest_224 : decode cX8_digest 224 = .ok (.lstore_n 1, 1) := by decide +kernel
theorem dX8_digest_225 : decode cX8_digest 225 = .ok (.ldc2_w 297, 3) := by decide +kernel
theorem dX8_digest_228 : decode cX8_digest 228 = .ok (.lload_n 1, 1) := by decide +kernel
theorem dX8_digest_229 : decode cX8_digest 229 = .ok (.lmul, 1) := by decide +kernel
theorem dX8_digest_230 : decode cX8_digest 230 = .ok (.aload_n 0, 1) := by decide +kernel
theorem dX8_digest_231 : decode cX8_digest 231 = .ok (.getfield 257, 3) := by decide +kernel
theorem dX8_digest_234 : decode cX8_digest 234 = .ok (.i2l, 1) := by decide +kernel
theorem dX8_digest_235 : decode cX8_digest 235 = .ok (.ladd, 1) := by decide +kernel
theorem dX8_digest_236 : decode cX8_digest 236 = .ok (.lstore_n 1, 1) := by decide +kernel
theorem dX8_digest_237 : decode cX8_digest 237 = .ok (.iconst 0, 1) := by decide +kernel
theorem dX8_digest_238 : decode cX8_digest 238 = .ok (.istore_n 3, 1) := by decide +kernel
theorem dX8_digest_239 : decode cX8_digest 239 = .ok (.iload_n 3, 1) := by decide +kernel
theorem dX8_digest_240 : decode cX8_digest 240 = .ok (.iconst 2, 1) := by decide +kernel
theorem dX8_digest_241 : decode cX8_digest 241 = .ok (.if_icmp .ge 22, 3) := by decide +kernel
theorem dX8_digest_244 : decode cX8_digest 244 = .ok (.ldc2_w 297, 3) := by decide +kernel
theorem dX8_digest_247 : decode cX8_digest 247 = .ok (.lload_n 1, 1) := by decide +kernel
theorem dX8_digest_248 : decode cX8_digest 248 = .ok (.lmul, 1) := by decide +kernel
theorem dX8_digest_249 : decode cX8_digest 249 = .ok (.aload_n 0, 1) := by decide +kernel
theorem dX8_digest_250 : decode cX8_digest 250 = .ok (.iconst 0, 1) := by decide +kernel
theorem dX8_digest_251 : decode cX8_digest 251 = .ok (.iload_n 3, 1) := by decide +kernel
theorem dX8_digest_252 : decode cX8_digest 252 = .ok (.invokevirtual 270, 3) := by decide +kernel
theorem dX8_digest_255 : decode cX8_digest 255 = .ok (.ladd, 1) := by decide +kernel
theorem dX8_digest_256 : decode cX8_digest 256 = .ok (.lstore_n 1, 1) := by decide +kernel
theorem dX8_digest_257 : decode cX8_digest 257 = .ok (.iinc 3 1, 3) := by decide +kernel
theorem dX8_digest_260 : decode cX8_digest 260 = .ok (.goto (-21), 3) := by decide +kernel
theorem dX8_digest_263 : decode cX8_digest 263 = .ok (.iconst 0, 1) := by decide +kernel
theorem dX8_digest_264 : decode cX8_digest 264 = .ok (.istore_n 3, 1) := by decide +kernel
theorem dX8_digest_265 : decode cX8_digest 265 = .ok (.iload_n 3, 1) := by decide +kernel
theorem dX8_digest_266 : decode cX8_digest 266 = .ok (.iconst 2, 1) := by decide +kernel
theorem dX8_digest_267 : decode cX8_digest 267 = .ok (.if_icmp .ge 22, 3) := by decide +kernel
theorem dX8_digest_270 : decode cX8_digest 270 = .ok (.ldc2_w 297, 3) := by decide +kernel
theorem dX8_digest_273 : decode cX8_digest 273 = .ok (.lload_n 1, 1) := by decide +kernel
theorem dX8_digest_274 : decode cX8_digest 274 = .ok (.lmul, 1) := by decide +kernel
theorem dX8_digest_275 : decode cX8_digest 275 = .ok (.aload_n 0, 1) := by decide +kernel
theorem dX8_digest_276 : decode cX8_digest 276 = .ok (.iconst 2, 1) := by decide +kernel
theorem dX8_digest_277 : decode cX8_digest 277 = .ok (.iload_n 3, 1) := by decide +kernel
theorem dX8_digest_278 : decode cX8_digest 278 = .ok (.invokevirtual 270, 3) := by decide +kernel
theorem dX8_digest_281 : decode cX8_digest 281 = .ok (.ladd, 1) := by decide +kernel
theorem dX8_digest_282 : decode cX8_digest 282 = .ok (.lstore_n 1, 1) := by decide +kernel
theorem dX8_digest_283 : decode cX8_digest 283 = .ok (.iinc 3 1, 3) := by decide +kernel
theorem dX8_digest_286 : decode cX8_digest 286 = .ok (.goto (-21), 3) := by decide +kernel
theorem dX8_digest_289 : decode cX8_digest 289 = .ok (.lload_n 1, 1) := by decide +kernel
theorem dX8_digest_290 : decode cX8_digest 290 = .ok (.lreturn, 1) := by decide +kernel
