theorem dX7_init_0 : decode cX7_init 0 = .ok (.aload_n 0, 1) := by decide +kernel
theorem dX7_init_1 : decode cX7_init 1 = .ok (.invokespecial 1, 3) := by decide +kernel
theorem dX7_init_4 : decode cX7_init 4 = .ok (.aload_n 0, 1) := by decide +kernel
theorem dX7_init_5 : decode cX7_init 5 = .ok (.new 7, 3) := by decide +kernel
theorem dX7_init_8 : decode cX7_init 8 = .ok (.dup, 1) := by decide +kernel
theorem dX7_init_9 : decode cX7_init 9 = .ok (.invokespecial 9, 3) := by decide +kernel
theorem dX7_init_12 : decode cX7_init 12 = .ok (.putfield 10, 3) := by decide +kernel
theorem dX7_init_15 : decode cX7_init 15 = .ok (.aload_n 0, 1) := by decide +kernel
theorem dX7_init_16 : decode cX7_init 16 = .ok (.new 16, 3) := by decide +kernel
theorem dX7_init_19 : decode cX7_init 19 = .ok (.dup, 1) := by decide +kernel
theorem dX7_init_20 : decode cX7_init 20 = .ok (.invokespecial 18, 3) := by decide +kernel
theorem dX7_init_23 : decode cX7_init 23 = .ok (.putfield 19, 3) := by decide +kernel
theorem dX7_init_26 : decode cX7_init 26 = .ok (.aload_n 0, 1) := by decide +kernel
theorem dX7_init_27 : decode cX7_init 27 = .ok (.new 23, 3) := by decide +kernel
theorem dX7_init_30 : decode cX7_init 30 = .ok (.dup, 1) := by decide +kernel
theorem dX7_init_31 : decode cX7_init 31 = .ok (.invokespecial 25, 3) := by decide +kernel
theorem dX7_init_34 : decode cX7_init 34 = .ok (.putfield 26, 3) := by decide +kernel
theorem dX7_init_37 : decode cX7_init 37 = .ok (.aload_n 0, 1) := by decide +kernel
theorem dX7_init_38 : decode cX7_init 38 = .ok (.new 30, 3) := by decide +kernel
theorem dX7_init_41 : decode cX7_init 41 = .ok (.dup, 1) := by decide +kernel
theorem dX7_init_42 : decode cX7_init 42 = .ok (.invokespecial 32, 3) := by decide +kernel
theorem dX7_init_45 : decode cX7_init 45 = .ok (.putfield 33, 3) := by decide +kernel
theorem dX7_init_48 : decode cX7_init 48 = .ok (.aload_n 0, 1) := by decide +kernel
theorem dX7_init_49 : decode cX7_init 49 = .ok (.new 37, 3) := by decide +kernel
theorem dX7_init_52 : decode cX7_init 52 = .ok (.dup, 1) := by decide +kernel
theorem dX7_init_53 : decode cX7_init 53 = .ok (.aload_n 0, 1) := by decide +kernel
theorem dX7_init_54 : decode cX7_init 54 = .ok (.getfield 10, 3) := by decide +kernel
theorem dX7_init_57 : decode cX7_init 57 = .ok (.aload_n 0, 1) := by decide +kernel
theorem dX7_init_58 : decode cX7_init 58 = .ok (.getfield 33, 3) := by decide +kernel
theorem dX7_init_61 : decode cX7_init 61 = .ok (.invokespecial 39, 3) := by decide +kernel
theorem dX7_init_64 : decode cX7_init 64 = .ok (.putfield 42, 3) := by decide +kernel
theorem dX7_init_67 : decode cX7_init 67 = .ok (.aload_n 0, 1) := by decide +kernel
theorem dX7_init_68 : decode cX7_init 68 = .ok (.new 46, 3) := by decide +kernel
theorem dX7_init_71 : decode cX7_init 71 = .ok (.dup, 1) := by decide +kernel
theorem dX7_init_72 : decode cX7_init 72 = .ok (.aload_n 0, 1) := by decide +kernel
theorem dX7_init_73 : decode cX7_init 73 = .ok (.getfield 10, 3) := by decide +kernel
theorem dX7_init_76 : decode cX7_init 76 = .ok (.aload_n 0, 1) := by decide +kernel
theorem dX7_init_77 : decode cX7_init 77 = .ok (.getfield 26, 3) := by decide +kernel
theorem dX7_init_80 : decode cX7_init 80 = .ok (.aload_n 0, 1) := by decide +kernel
theorem dX7_init_81 : decode cX7_init 81 = .ok (.getfield 33, 3) := by decide +kernel
theorem dX7_init_84 : decode cX7_init 84 = .ok (.invokespecial 48, 3) := by decide +kernel
theorem dX7_init_87 : decode cX7_init 87 = .ok (.putfield 51, 3) := by decide +kernel
theorem dX7_init_90 : decode cX7_init 90 = .ok (.aload_n 0, 1) := by decide +kernel
theorem dX7_init_91 : decode cX7_init 91 = .ok (.iconst 4, 1) := by decide +kernel
theorem dX7_init_92 : decode cX7_init 92 = .ok (.anewarray 55, 3) := by decide +kernel
theorem dX7_init_95 : decode cX7_init 95 = .ok (.putfield 57, 3) := by decide +kernel
theorem dX7_init_98 : decode cX7_init 98 = .ok (.aload_n 0, 1) := by decide +kernel
theorem dX7_init_99 : decode cX7_init 99 = .ok (.iconst 0, 1) := by decide +kernel
theorem dX7_init_100 : decode cX7_init 100 = .ok (.putfield 61, 3) := by decide +kernel
theorem dX7_init_103 : decode cX7_init 103 = .ok (.aload_n 0, 1) := by decide +kernel
theorem dX7_init_104 : decode cX7_init 104 = .ok (.iconst (-1), 1) := by decide +kernel
theorem dX7_init_105 : decode cX7_init 105 = .ok (.putfield 65, 3) := by decide +kernel
theorem dX7_init_108 : decode cX7_init 108 = .ok (.aload_n 0, 1) := by decide +kernel
theorem dX7_init_109 : decode cX7_init 109 = .ok (.iconst 0, 1) := by decide +kernel
theorem dX7_init_110 : decode cX7_init 110 = .ok (.putfield 68, 3) := by decide +kernel
theorem dX7_init_113 : decode cX7_init 113 = .ok (.aload_n 0, 1) := by decide +kernel
theorem dX7_init_114 : decode cX7_init 114 = .ok (.iconst (-1), 1) := by decide +kernel
theorem dX7_init_115 : decode cX7_init 115 = .ok (.putfield 71, 3) := by decide +kernel
theorem dX7_init_118 : decode cX7_init 118 = .ok (.aload_n 0, 1) := by decide +kernel
theorem dX7_init_119 : decode cX7_init 119 = .ok (.iconst 0, 1) := by decide +kernel
theorem dX7_init_120 : decode cX7_init 120 = .ok (.putfield 74, 3) := by decide +kernel
theorem dX7_init_123 : decode cX7_init 123 = .ok (.iconst 0, 1) := by decide +kernel
theorem dX7_init_124 : decode cX7_init 124 = .ok (.istore_n 1, 1) := by decide +kernel
theorem dX7_init_125 : decode cX7_init 125 = .ok (.iload_n 1, 1) := by decide +kernel
theorem dX7_init_126 : decode cX7_init 126 = .ok (.iconst 4, 1) := by decide +kernel
theorem dX7_init_127 : decode cX7_init 127 = .ok (.if_icmp .ge 22, 3) := by decide +kernel
theorem dX7_init_130 : decode cX7_init 130 = .ok (.aload_n 0, 1) := by decide +kernel
theorem dX7_init_131 : decode cX7_init 131 = .ok (.getfield 57, 3) := by decide +kernel
theorem dX7_init_134 : decode cX7_init 134 = .ok (.iload_n 1, 1) := by decide +kernel
theorem dX7_init_135 : decode cX7_init 135 = .ok (.new 55, 3) := by decide +kernel
theorem dX7_init_138 : decode cX7_init 138 = .ok (.dup, 1) := by decide +kernel
theorem dX7_init_139 : decode cX7_init 139 = .ok (.invokespecial 77, 3) := by decide +kernel
theorem dX7_init_142 : decode cX7_init 142 = .ok (.aastore, 1) := by decide +kernel
theorem dX7_init_143 : decode cX7_init 143 = .ok (.iinc 1 1, 3) := by decide +kernel
theorem dX7_init_146 : decode cX7_init 146 = .ok (.goto (-21), 3) := by decide +kernel
theorem dX7_init_149 : decode cX7_init 149 = .ok (.return_, 1) := by decide +kernel
theorem dX7_type_0 : decode cX7_type 0 = .ok (.iload_n 1, 1) := by decide +kernel
theorem dX7_type_1 : decode cX7_type 1 = .ok (.ifCond .lt 10, 3) := by decide +kernel
theorem dX7_type_4 : decode cX7_type 4 = .ok (.iload_n 1, 1) := by decide +kernel
theorem dX7_type_5 : decode cX7_type 5 = .ok (.sipush 255, 3) := by decide +kernel
theorem dX7_type_8 : decode cX7_type 8 = .ok (.if_icmp .le 6, 3) := by decide +kernel
theorem dX7_type_11 : decode cX7_type 11 = .ok (.bipush (-2), 2) := by decide +kernel
theorem dX7_type_13 : decode cX7_type 13 = .ok (.ireturn, 1) := by decide +kernel
theorem dX7_type_14 : decode cX7_type 14 = .ok (.aload_n 0, 1) := by decide +kernel
theorem dX7_type_15 : decode cX7_type 15 = .ok (.getfield 10, 3) := by decide +kernel
theorem dX7_type_18 : decode cX7_type 18 = .ok (.iload_n 1, 1) := by decide +kernel
theorem dX7_type_19 : decode cX7_type 19 = .ok (.invokevirtual 78, 3) := by decide +kernel
theorem dX7_type_22 : decode cX7_type 22 = .ok (.ifCond .eq 13, 3) := by decide +kernel
theorem dX7_type_25 : decode cX7_type 25 = .ok (.aload_n 0, 1) := by decide +kernel
theorem dX7_type_26 : decode cX7_type 26 = .ok (.getfield 10, 3) := by decide +kernel
theorem dX7_type_29 : decode cX7_type 29 = .ok (.getfield 82, 3) := by decide +kernel
theorem dX7_type_32 : decode cX7_type 32 = .ok (.goto 5, 3) := by decide +kernel
theorem dX7_type_35 : decode cX7_type 35 = .ok (.bipush (-4), 2) := by decide +kernel
theorem dX7_type_37 : decode cX7_type 37 = .ok (.ireturn, 1) := by decide +kernel
theorem dX7_wipe_0 : decode cX7_wipe 0 = .ok (.aload_n 0, 1) := by decide +kernel
theorem dX7_wipe_1 : decode cX7_wipe 1 = .ok (.getfield 10, 3) := by decide +kernel
theorem dX7_wipe_4 : decode cX7_wipe 4 = .ok (.getfield 82, 3) := by decide +kernel
theorem dX7_wipe_7 : decode cX7_wipe 7 = .ok (.istore_n 1, 1) := by decide +kernel
theorem dX7_wipe_8 : decode cX7_wipe 8 = .ok (.aload_n 0, 1) := by decide +kernel
theorem dX7_wipe_9 : decode cX7_wipe 9 = .ok (.getfield 10, 3) := by decide +kernel
theorem dX7_wipe_12 : decode cX7_wipe 12 = .ok (.invokevirtual 85, 3) := by decide +kernel
theorem dX7_wipe_15 : decode cX7_wipe 15 = .ok (.iload_n 1, 1) := by decide +kernel
theorem dX7_wipe_16 : decode cX7_wipe 16 = .ok (.ireturn, 1) := by decide +kernel
theorem dX7_fault_0 : decode cX7_fault 0 = .ok (.aload_n 0, 1) := by decide +kernel
theorem dX7_fault_1 : decode cX7_fault 1 = .ok (.getfield 10, 3) := by decide +kernel
theorem dX7_fault_4 : decode cX7_fault 4 = .ok (.getfield 88, 3) := by decide +kernel
theorem dX7_fault_7 : decode cX7_fault 7 = .ok (.ireturn, 1) := by decide +kernel
theorem dX7_cell_0 : decode cX7_cell 0 = .ok (.iload_n 1, 1) := by decide +kernel
theorem dX7_cell_1 : decode cX7_cell 1 = .ok (.invokestatic 91, 3) := by decide +kernel
theorem dX7_cell_4 : decode cX7_cell 4 = .ok (.ifCond .ne 6, 3) := by decide +kernel
theorem dX7_cell_7 : decode cX7_cell 7 = .ok (.bipush (-2), 2) := by decide +kernel
theorem dX7_cell_9 : decode cX7_cell 9 = .ok (.ireturn, 1) := by decide +kernel
theorem dX7_cell_10 : decode cX7_cell 10 = .ok (.iload_n 2, 1) := by decide +kernel
theorem dX7_cell_11 : decode cX7_cell 11 = .ok (.tableswitch 82 0 4 #[33, 42, 52, 62, 72], 33) := by decide +kernel
theorem dX7_cell_44 : decode cX7_cell 44 = .ok (.aload_n 0, 1) := by decide +kernel
theorem dX7_cell_45 : decode cX7_cell 45 = .ok (.getfield 10, 3) := by decide +kernel
theorem dX7_cell_48 : decode cX7_cell 48 = .ok (.iload_n 1, 1) := by decide +kernel
theorem dX7_cell_49 : decode cX7_cell 49 = .ok (.invokevirtual 94, 3) := by decide +kernel
theorem dX7_cell_52 : decode cX7_cell 52 = .ok (.ireturn, 1) := by decide +kernel
theorem dX7_cell_53 : decode cX7_cell 53 = .ok (.aload_n 0, 1) := by decide +kernel
theorem dX7_cell_54 : decode cX7_cell 54 = .ok (.getfield 19, 3) := by decide +kernel
theorem dX7_cell_57 : decode cX7_cell 57 = .ok (.getfield 98, 3) := by decide +kernel
theorem dX7_cell_60 : decode cX7_cell 60 = .ok (.iload_n 1, 1) := by decide +kernel
theorem dX7_cell_61 : decode cX7_cell 61 = .ok (.iaload, 1) := by decide +kernel
theorem dX7_cell_62 : decode cX7_cell 62 = .ok (.ireturn, 1) := by decide +kernel
theorem dX7_cell_63 : decode cX7_cell 63 = .ok (.aload_n 0, 1) := by decide +kernel
theorem dX7_cell_64 : decode cX7_cell 64 = .ok (.getfield 19, 3) := by decide +kernel
theorem dX7_cell_67 : decode cX7_cell 67 = .ok (.getfield 102, 3) := by decide +kernel
theorem dX7_cell_70 : decode cX7_cell 70 = .ok (.iload_n 1, 1) := by decide +kernel
theorem dX7_cell_71 : decode cX7_cell 71 = .ok (.iaload, 1) := by decide +kernel
theorem dX7_cell_72 : decode cX7_cell 72 = .ok (.ireturn, 1) := by decide +kernel
theorem dX7_cell_73 : decode cX7_cell 73 = .ok (.aload_n 0, 1) := by decide +kernel
theorem dX7_cell_74 : decode cX7_cell 74 = .ok (.getfield 19, 3) := by decide +kernel
theorem dX7_cell_77 : decode cX7_cell 77 = .ok (.getfield 105, 3) := by decide +kernel
theorem dX7_cell_80 : decode cX7_cell 80 = .ok (.iload_n 1, 1) := by decide +kernel
theorem dX7_cell_81 : decode cX7_cell 81 = .ok (.iaload, 1) := by decide +kernel
theorem dX7_cell_82 : decode cX7_cell 82 = .ok (.ireturn, 1) := by decide +kernel
theorem dX7_cell_83 : decode cX7_cell 83 = .ok (.aload_n 0, 1) := by decide +kernel
theorem dX7_cell_84 : decode cX7_cell 84 = .ok (.getfield 19, 3) := by decide +kernel
theorem dX7_cell_87 : decode cX7_cell 87 = .ok (.getfield 108, 3) := by decide +kernel
theorem dX7_cell_90 : decode cX7_cell 90 = .ok (.iload_n 1, 1) := by decide +kernel
theorem dX7_cell_91 : decode cX7_cell 91 = .ok (.iaload, 1) := by decide +kernel
theorem dX7_cell_92 : decode cX7_cell 92 = .ok (.ireturn, 1) := by decide +kernel
theorem dX7_cell_93 : decode cX7_cell 93 = .ok (.bipush (-2), 2) := by decide +kernel
theorem dX7_cell_95 : decode cX7_cell 95 = .ok (.ireturn, 1) := by decide +kernel
theorem dX7_snows_0 : decode cX7_snows 0 = .ok (.iload_n 1, 1) := by decide +kernel
theorem dX7_snows_1 : decode cX7_snows 1 = .ok (.ifCond .lt 9, 3) := by decide +kernel
theorem dX7_snows_4 : decode cX7_snows 4 = .ok (.iload_n 1, 1) := by decide +kernel
theorem dX7_snows_5 : decode cX7_snows 5 = .ok (.bipush 9, 2) := by decide +kernel
theorem dX7_snows_7 : decode cX7_snows 7 = .ok (.if_icmp .le 8, 3) := by decide +kernel
theorem dX7_snows_10 : decode cX7_snows 10 = .ok (.bipush (-2), 2) := by decide +kernel
theorem dX7_snows_12 : decode cX7_snows 12 = .ok (.goto 18, 3) := by decide +kernel
theorem dX7_snows_15 : decode cX7_snows 15 = .ok (.aload_n 0, 1) := by decide +kernel
theorem dX7_snows_16 : decode cX7_snows 16 = .ok (.getfield 19, 3) := by decide +kernel
theorem dX7_snows_19 : decode cX7_snows 19 = .ok (.iload_n 1, 1) := by decide +kernel
theorem dX7_snows_20 : decode cX7_snows 20 = .ok (.aload_n 0, 1) := by decide +kernel
theorem dX7_snows_21 : decode cX7_snows 21 = .ok (.getfield 10, 3) := by decide +kernel
theorem dX7_snows_24 : decode cX7_snows 24 = .ok (.getfield 111, 3) := by decide +kernel
theorem dX7_snows_27 : decode cX7_snows 27 = .ok (.invokevirtual 115, 3) := by decide +kernel
theorem dX7_snows_30 : decode cX7_snows 30 = .ok (.ireturn, 1) := by decide +kernel
theorem dX7_thaws_0 : decode cX7_thaws 0 = .ok (.iload_n 1, 1) := by decide +kernel
theorem dX7_thaws_1 : decode cX7_thaws 1 = .ok (.ifCond .lt 9, 3) := by decide +kernel
theorem dX7_thaws_4 : decode cX7_thaws 4 = .ok (.iload_n 1, 1) := by decide +kernel
theorem dX7_thaws_5 : decode cX7_thaws 5 = .ok (.bipush 9, 2) := by decide +kernel
theorem dX7_thaws_7 : decode cX7_thaws 7 = .ok (.if_icmp .le 8, 3) := by decide +kernel
theorem dX7_thaws_10 : decode cX7_thaws 10 = .ok (.bipush (-2), 2) := by decide +kernel
theorem dX7_thaws_12 : decode cX7_thaws 12 = .ok (.goto 11, 3) := by decide +kernel
theorem dX7_thaws_15 : decode cX7_thaws 15 = .ok (.aload_n 0, 1) := by decide +kernel
theorem dX7_thaws_16 : decode cX7_thaws 16 = .ok (.getfield 19, 3) := by decide +kernel
theorem dX7_thaws_19 : decode cX7_thaws 19 = .ok (.iload_n 1, 1) := by decide +kernel
theorem dX7_thaws_20 : decode cX7_thaws 20 = .ok (.invokevirtual 119, 3) := by decide +kernel
theorem dX7_thaws_23 : decode cX7_thaws 23 = .ok (.ireturn, 1) := by decide +kernel
theorem dX7_freezes_0 : decode cX7_freezes 0 = .ok (.aload_n 0, 1) := by decide +kernel
theorem dX7_freezes_1 : decode cX7_freezes 1 = .ok (.getfield 19, 3) := by decide +kernel
theorem dX7_freezes_4 : decode cX7_freezes 4 = .ok (.invokevirtual 122, 3) := by decide +kernel
theorem dX7_freezes_7 : decode cX7_freezes 7 = .ok (.ireturn, 1) := by decide +kernel
theorem dX7_clear_0 : decode cX7_clear 0 = .ok (.iload_n 1, 1) := by decide +kernel
theorem dX7_clear_1 : decode cX7_clear 1 = .ok (.invokestatic 91, 3) := by decide +kernel
theorem dX7_clear_4 : decode cX7_clear 4 = .ok (.ifCond .eq 12, 3) := by decide +kernel
theorem dX7_clear_7 : decode cX7_clear 7 = .ok (.iload_n 2, 1) := by decide +kernel
theorem dX7_clear_8 : decode cX7_clear 8 = .ok (.ifCond .lt 8, 3) := by decide +kernel
theorem dX7_clear_11 : decode cX7_clear 11 = .ok (.iload_n 2, 1) := by decide +kernel
theorem dX7_clear_12 : decode cX7_clear 12 = .ok (.iconst 3, 1) := by decide +kernel
theorem dX7_clear_13 : decode cX7_clear 13 = .ok (.if_icmp .le 6, 3) := by decide +kernel
theorem dX7_clear_16 : decode cX7_clear 16 = .ok (.bipush (-2), 2) := by decide +kernel
theorem dX7_clear_18 : decode cX7_clear 18 = .ok (.ireturn, 1) := by decide +kernel
theorem dX7_clear_19 : decode cX7_clear 19 = .ok (.iload_n 1, 1) := by decide +kernel
theorem dX7_clear_20 : decode cX7_clear 20 = .ok (.iload_n 2, 1) := by decide +kernel
theorem dX7_clear_21 : decode cX7_clear 21 = .ok (.invokestatic 126, 3) := by decide +kernel
theorem dX7_clear_24 : decode cX7_clear 24 = .ok (.istore_n 3, 1) := by decide +kernel
theorem dX7_clear_25 : decode cX7_clear 25 = .ok (.iload_n 3, 1) := by decide +kernel
theorem dX7_clear_26 : decode cX7_clear 26 = .ok (.iconst (-1), 1) := by decide +kernel
theorem dX7_clear_27 : decode cX7_clear 27 = .ok (.if_icmp .eq 31, 3) := by decide +kernel
theorem dX7_clear_30 : decode cX7_clear 30 = .ok (.aload_n 0, 1) := by decide +kernel
theorem dX7_clear_31 : decode cX7_clear 31 = .ok (.getfield 10, 3) := by decide +kernel
theorem dX7_clear_34 : decode cX7_clear 34 = .ok (.getfield 111, 3) := by decide +kernel
theorem dX7_clear_37 : decode cX7_clear 37 = .ok (.iload_n 1, 1) := by decide +kernel
theorem dX7_clear_38 : decode cX7_clear 38 = .ok (.invokestatic 130, 3) := by decide +kernel
theorem dX7_clear_41 : decode cX7_clear 41 = .ok (.ifCond .ne 17, 3) := by decide +kernel
theorem dX7_clear_44 : decode cX7_clear 44 = .ok (.aload_n 0, 1) := by decide +kernel
theorem dX7_clear_45 : decode cX7_clear 45 = .ok (.getfield 10, 3) := by decide +kernel
theorem dX7_clear_48 : decode cX7_clear 48 = .ok (.getfield 111, 3) := by decide +kernel
theorem dX7_clear_51 : decode cX7_clear 51 = .ok (.iload_n 3, 1) := by decide +kernel
theorem dX7_clear_52 : decode cX7_clear 52 = .ok (.invokestatic 130, 3) := by decide +kernel
theorem dX7_clear_55 : decode cX7_clear 55 = .ok (.ifCond .eq 6, 3) := by decide +kernel
theorem dX7_clear_58 : decode cX7_clear 58 = .ok (.bipush (-3), 2) := by decide +kernel
theorem dX7_clear_60 : decode cX7_clear 60 = .ok (.ireturn, 1) := by decide +kernel
theorem dX7_clear_61 : decode cX7_clear 61 = .ok (.aload_n 0, 1) := by decide +kernel
theorem dX7_clear_62 : decode cX7_clear 62 = .ok (.getfield 19, 3) := by decide +kernel
theorem dX7_clear_65 : decode cX7_clear 65 = .ok (.iload_n 1, 1) := by decide +kernel
theorem dX7_clear_66 : decode cX7_clear 66 = .ok (.iload_n 3, 1) := by decide +kernel
theorem dX7_clear_67 : decode cX7_clear 67 = .ok (.invokevirtual 134, 3) := by decide +kernel
theorem dX7_clear_70 : decode cX7_clear 70 = .ok (.ireturn, 1) := by decide +kernel
theorem dX7_read_0 : decode cX7_read 0 = .ok (.iload_n 1, 1) := by decide +kernel
theorem dX7_read_1 : decode cX7_read 1 = .ok (.invokestatic 137, 3) := by decide +kernel
theorem dX7_read_4 : decode cX7_read 4 = .ok (.ifCond .ne 6, 3) := by decide +kernel
theorem dX7_read_7 : decode cX7_read 7 = .ok (.bipush (-2), 2) := by decide +kernel
theorem dX7_read_9 : decode cX7_read 9 = .ok (.ireturn, 1) := by decide +kernel
theorem dX7_read_10 : decode cX7_read 10 = .ok (.aload_n 0, 1) := by decide +kernel
theorem dX7_read_11 : decode cX7_read 11 = .ok (.getfield 57, 3) := by decide +kernel
theorem dX7_read_14 : decode cX7_read 14 = .ok (.iload_n 1, 1) := by decide +kernel
theorem dX7_read_15 : decode cX7_read 15 = .ok (.aaload, 1) := by decide +kernel
theorem dX7_read_16 : decode cX7_read 16 = .ok (.invokevirtual 140, 3) := by decide +kernel
theorem dX7_read_19 : decode cX7_read 19 = .ok (.ifCond .eq 9, 3) := by decide +kernel
theorem dX7_read_22 : decode cX7_read 22 = .ok (.aload_n 0, 1) := by decide +kernel
theorem dX7_read_23 : decode cX7_read 23 = .ok (.iconst 1, 1) := by decide +kernel
theorem dX7_read_24 : decode cX7_read 24 = .ok (.invokevirtual 144, 3) := by decide +kernel
theorem dX7_read_27 : decode cX7_read 27 = .ok (.ireturn, 1) := by decide +kernel
theorem dX7_read_28 : decode cX7_read 28 = .ok (.aload_n 0, 1) := by decide +kernel
theorem dX7_read_29 : decode cX7_read 29 = .ok (.getfield 19, 3) := by decide +kernel
theorem dX7_read_32 : decode cX7_read 32 = .ok (.aload_n 0, 1) := by decide +kernel
theorem dX7_read_33 : decode cX7_read 33 = .ok (.getfield 57, 3) := by decide +kernel
theorem dX7_read_36 : decode cX7_read 36 = .ok (.iload_n 1, 1) := by decide +kernel
theorem dX7_read_37 : decode cX7_read 37 = .ok (.aaload, 1) := by decide +kernel
theorem dX7_read_38 : decode cX7_read 38 = .ok (.invokevirtual 147, 3) := by decide +kernel
theorem dX7_read_41 : decode cX7_read 41 = .ok (.ireturn, 1) := by decide +kernel
theorem dX7_walker_0 : decode cX7_walker 0 = .ok (.iload_n 1, 1) := by decide +kernel
theorem dX7_walker_1 : decode cX7_walker 1 = .ok (.invokestatic 91, 3) := by decide +kernel
theorem dX7_walker_4 : decode cX7_walker 4 = .ok (.ifCond .eq 10, 3) := by decide +kernel
theorem dX7_walker_7 : decode cX7_walker 7 = .ok (.iload_n 2, 1) := by decide +kernel
theorem dX7_walker_8 : decode cX7_walker 8 = .ok (.invokestatic 91, 3) := by decide +kernel
theorem dX7_walker_11 : decode cX7_walker 11 = .ok (.ifCond .ne 6, 3) := by decide +kernel
theorem dX7_walker_14 : decode cX7_walker 14 = .ok (.bipush (-2), 2) := by decide +kernel
theorem dX7_walker_16 : decode cX7_walker 16 = .ok (.ireturn, 1) := by decide +kernel
theorem dX7_walker_17 : decode cX7_walker 17 = .ok (.aload_n 0, 1) := by decide +kernel
theorem dX7_walker_18 : decode cX7_walker 18 = .ok (.getfield 26, 3) := by decide +kernel
theorem dX7_walker_21 : decode cX7_walker 21 = .ok (.iload_n 1, 1) := by decide +kernel
theorem dX7_walker_22 : decode cX7_walker 22 = .ok (.iload_n 2, 1) := by decide +kernel
theorem dX7_walker_23 : decode cX7_walker 23 = .ok (.invokevirtual 151, 3) := by decide +kernel
theorem dX7_walker_26 : decode cX7_walker 26 = .ok (.ifCond .eq 15, 3) := by decide +kernel
theorem dX7_walker_29 : decode cX7_walker 29 = .ok (.aload_n 0, 1) := by decide +kernel
theorem dX7_walker_30 : decode cX7_walker 30 = .ok (.getfield 26, 3) := by decide +kernel
theorem dX7_walker_33 : decode cX7_walker 33 = .ok (.getfield 155, 3) := by decide +kernel
theorem dX7_walker_36 : decode cX7_walker 36 = .ok (.iconst 1, 1) := by decide +kernel
theorem dX7_walker_37 : decode cX7_walker 37 = .ok (.isub, 1) := by decide +kernel
theorem dX7_walker_38 : decode cX7_walker 38 = .ok (.goto 5, 3) := by decide +kernel
theorem dX7_walker_41 : decode cX7_walker 41 = .ok (.bipush (-4), 2) := by decide +kernel
theorem dX7_walker_43 : decode cX7_walker 43 = .ok (.ireturn, 1) := by decide +kernel
theorem dX7_gone_0 : decode cX7_gone 0 = .ok (.aload_n 0, 1) := by decide +kernel
theorem dX7_gone_1 : decode cX7_gone 1 = .ok (.getfield 26, 3) := by decide +kernel
theorem dX7_gone_4 : decode cX7_gone 4 = .ok (.getfield 155, 3) := by decide +kernel
theorem dX7_gone_7 : decode cX7_gone 7 = .ok (.istore_n 1, 1) := by decide +kernel
theorem dX7_gone_8 : decode cX7_gone 8 = .ok (.aload_n 0, 1) := by decide +kernel
theorem dX7_gone_9 : decode cX7_gone 9 = .ok (.getfield 26, 3) := by decide +kernel
theorem dX7_gone_12 : decode cX7_gone 12 = .ok (.iconst 0, 1) := by decide +kernel
theorem dX7_gone_13 : decode cX7_gone 13 = .ok (.putfield 155, 3) := by decide +kernel
theorem dX7_gone_16 : decode cX7_gone 16 = .ok (.iload_n 1, 1) := by decide +kernel
theorem dX7_gone_17 : decode cX7_gone 17 = .ok (.ireturn, 1) := by decide +kernel
theorem dX7_plan_0 : decode cX7_plan 0 = .ok (.iload_n 1, 1) := by decide +kernel
theorem dX7_plan_1 : decode cX7_plan 1 = .ok (.invokestatic 91, 3) := by decide +kernel
theorem dX7_plan_4 : decode cX7_plan 4 = .ok (.ifCond .eq 15, 3) := by decide +kernel
theorem dX7_plan_7 : decode cX7_plan 7 = .ok (.iload_n 2, 1) := by decide +kernel
theorem dX7_plan_8 : decode cX7_plan 8 = .ok (.invokestatic 91, 3) := by decide +kernel
theorem dX7_plan_11 : decode cX7_plan 11 = .ok (.ifCond .eq 8, 3) := by decide +kernel
theorem dX7_plan_14 : decode cX7_plan 14 = .ok (.iload_n 3, 1) := by decide +kernel
theorem dX7_plan_15 : decode cX7_plan 15 = .ok (.iconst (-1), 1) := by decide +kernel
theorem dX7_plan_16 : decode cX7_plan 16 = .ok (.if_icmp .ge 6, 3) := by decide +kernel
theorem dX7_plan_19 : decode cX7_plan 19 = .ok (.bipush (-2), 2) := by decide +kernel
theorem dX7_plan_21 : decode cX7_plan 21 = .ok (.ireturn, 1) := by decide +kernel
theorem dX7_plan_22 : decode cX7_plan 22 = .ok (.aload_n 0, 1) := by decide +kernel
theorem dX7_plan_23 : decode cX7_plan 23 = .ok (.getfield 10, 3) := by decide +kernel
theorem dX7_plan_26 : decode cX7_plan 26 = .ok (.getfield 158, 3) := by decide +kernel
theorem dX7_plan_29 : decode cX7_plan 29 = .ok (.iload_n 1, 1) := by decide +kernel
theorem dX7_plan_30 : decode cX7_plan 30 = .ok (.invokestatic 130, 3) := by decide +kernel
theorem dX7_plan_33 : decode cX7_plan 33 = .ok (.ifCond .eq 5, 3) := by decide +kernel
theorem dX7_plan_36 : decode cX7_plan 36 = .ok (.iconst (-1), 1) := by decide +kernel
theorem dX7_plan_37 : decode cX7_plan 37 = .ok (.ireturn, 1) := by decide +kernel
theorem dX7_plan_38 : decode cX7_plan 38 = .ok (.aload_n 0, 1) := by decide +kernel
theorem dX7_plan_39 : decode cX7_plan 39 = .ok (.getfield 33, 3) := by decide +kernel
theorem dX7_plan_42 : decode cX7_plan 42 = .ok (.iload_n 1, 1) := by decide +kernel
theorem dX7_plan_43 : decode cX7_plan 43 = .ok (.iload_n 2, 1) := by decide +kernel
theorem dX7_plan_44 : decode cX7_plan 44 = .ok (.aload_n 0, 1) := by decide +kernel
theorem dX7_plan_45 : decode cX7_plan 45 = .ok (.getfield 10, 3) := by decide +kernel
theorem dX7_plan_48 : decode cX7_plan 48 = .ok (.getfield 111, 3) := by decide +kernel
theorem dX7_plan_51 : decode cX7_plan 51 = .ok (.aload_n 0, 1) := by decide +kernel
theorem dX7_plan_52 : decode cX7_plan 52 = .ok (.getfield 19, 3) := by decide +kernel
theorem dX7_plan_55 : decode cX7_plan 55 = .ok (.getfield 98, 3) := by decide +kernel
theorem dX7_plan_58 : decode cX7_plan 58 = .ok (.invokevirtual 161, 3) := by decide +kernel
theorem dX7_plan_61 : decode cX7_plan 61 = .ok (.istore 4, 2) := by decide +kernel
theorem dX7_plan_63 : decode cX7_plan 63 = .ok (.iload_n 3, 1) := by decide +kernel
theorem dX7_plan_64 : decode cX7_plan 64 = .ok (.iconst (-1), 1) := by decide +kernel
theorem dX7_plan_65 : decode cX7_plan 65 = .ok (.if_icmp .ne 6, 3) := by decide +kernel
theorem dX7_plan_68 : decode cX7_plan 68 = .ok (.iload 4, 2) := by decide +kernel
theorem dX7_plan_70 : decode cX7_plan 70 = .ok (.ireturn, 1) := by decide +kernel
theorem dX7_plan_71 : decode cX7_plan 71 = .ok (.iload_n 3, 1) := by decide +kernel
theorem dX7_plan_72 : decode cX7_plan 72 = .ok (.aload_n 0, 1) := by decide +kernel
theorem dX7_plan_73 : decode cX7_plan 73 = .ok (.getfield 33, 3) := by decide +kernel
theorem dX7_plan_76 : decode cX7_plan 76 = .ok (.getfield 165, 3) := by decide +kernel
theorem dX7_plan_79 : decode cX7_plan 79 = .ok (.if_icmp .ge 15, 3) := by decide +kernel
theorem dX7_plan_82 : decode cX7_plan 82 = .ok (.aload_n 0, 1) := by decide +kernel
theorem dX7_plan_83 : decode cX7_plan 83 = .ok (.getfield 33, 3) := by decide +kernel
theorem dX7_plan_86 : decode cX7_plan 86 = .ok (.getfield 166, 3) := by decide +kernel
theorem dX7_plan_89 : decode cX7_plan 89 = .ok (.iload_n 3, 1) := by decide +kernel
theorem dX7_plan_90 : decode cX7_plan 90 = .ok (.iaload, 1) := by decide +kernel
theorem dX7_plan_91 : decode cX7_plan 91 = .ok (.goto 4, 3) := by decide +kernel
theorem dX7_plan_94 : decode cX7_plan 94 = .ok (.iconst (-1), 1) := by decide +kernel
theorem dX7_plan_95 : decode cX7_plan 95 = .ok (.ireturn, 1) := by decide +kernel
theorem dX7_walk_0 : decode cX7_walk 0 = .ok (.aload_n 0, 1) := by decide +kernel
theorem dX7_walk_1 : decode cX7_walk 1 = .ok (.iload_n 1, 1) := by decide +kernel
theorem dX7_walk_2 : decode cX7_walk 2 = .ok (.invokevirtual 169, 3) := by decide +kernel
theorem dX7_walk_5 : decode cX7_walk 5 = .ok (.ifCond .ne 6, 3) := by decide +kernel
theorem dX7_walk_8 : decode cX7_walk 8 = .ok (.bipush (-2), 2) := by decide +kernel
theorem dX7_walk_10 : decode cX7_walk 10 = .ok (.ireturn, 1) := by decide +kernel
theorem dX7_walk_11 : decode cX7_walk 11 = .ok (.aload_n 0, 1) := by decide +kernel
theorem dX7_walk_12 : decode cX7_walk 12 = .ok (.getfield 42, 3) := by decide +kernel
theorem dX7_walk_15 : decode cX7_walk 15 = .ok (.aload_n 0, 1) := by decide +kernel
theorem dX7_walk_16 : decode cX7_walk 16 = .ok (.getfield 19, 3) := by decide +kernel
theorem dX7_walk_19 : decode cX7_walk 19 = .ok (.getfield 98, 3) := by decide +kernel
theorem dX7_walk_22 : decode cX7_walk 22 = .ok (.invokevirtual 172, 3) := by decide +kernel
theorem dX7_walk_25 : decode cX7_walk 25 = .ok (.aload_n 0, 1) := by decide +kernel
theorem dX7_walk_26 : decode cX7_walk 26 = .ok (.getfield 42, 3) := by decide +kernel
theorem dX7_walk_29 : decode cX7_walk 29 = .ok (.aload_n 0, 1) := by decide +kernel
theorem dX7_walk_30 : decode cX7_walk 30 = .ok (.getfield 26, 3) := by decide +kernel
theorem dX7_walk_33 : decode cX7_walk 33 = .ok (.getfield 176, 3) := by decide +kernel
theorem dX7_walk_36 : decode cX7_walk 36 = .ok (.iload_n 1, 1) := by decide +kernel
theorem dX7_walk_37 : decode cX7_walk 37 = .ok (.iaload, 1) := by decide +kernel
theorem dX7_walk_38 : decode cX7_walk 38 = .ok (.aload_n 0, 1) := by decide +kernel
theorem dX7_walk_39 : decode cX7_walk 39 = .ok (.getfield 26, 3) := by decide +kernel
theorem dX7_walk_42 : decode cX7_walk 42 = .ok (.getfield 179, 3) := by decide +kernel
theorem dX7_walk_45 : decode cX7_walk 45 = .ok (.iload_n 1, 1) := by decide +kernel
theorem dX7_walk_46 : decode cX7_walk 46 = .ok (.iaload, 1) := by decide +kernel
theorem dX7_walk_47 : decode cX7_walk 47 = .ok (.aload_n 0, 1) := by decide +kernel
theorem dX7_walk_48 : decode cX7_walk 48 = .ok (.getfield 10, 3) := by decide +kernel
theorem dX7_walk_51 : decode cX7_walk 51 = .ok (.getfield 158, 3) := by decide +kernel
theorem dX7_walk_54 : decode cX7_walk 54 = .ok (.invokevirtual 182, 3) := by decide +kernel
theorem dX7_walk_57 : decode cX7_walk 57 = .ok (.pop, 1) := by decide +kernel
theorem dX7_walk_58 : decode cX7_walk 58 = .ok (.aload_n 0, 1) := by decide +kernel
theorem dX7_walk_59 : decode cX7_walk 59 = .ok (.getfield 19, 3) := by decide +kernel
theorem dX7_walk_62 : decode cX7_walk 62 = .ok (.aload_n 0, 1) := by decide +kernel
theorem dX7_walk_63 : decode cX7_walk 63 = .ok (.getfield 42, 3) := by decide +kernel
theorem dX7_walk_66 : decode cX7_walk 66 = .ok (.invokevirtual 186, 3) := by decide +kernel
theorem dX7_walk_69 : decode cX7_walk 69 = .ok (.aload_n 0, 1) := by decide +kernel
theorem dX7_walk_70 : decode cX7_walk 70 = .ok (.getfield 42, 3) := by decide +kernel
theorem dX7_walk_73 : decode cX7_walk 73 = .ok (.getfield 190, 3) := by decide +kernel
theorem dX7_walk_76 : decode cX7_walk 76 = .ok (.ireturn, 1) := by decide +kernel
theorem dX7_morning_0 : decode cX7_morning 0 = .ok (.aload_n 0, 1) := by decide +kernel
theorem dX7_morning_1 : decode cX7_morning 1 = .ok (.iconst (-1), 1) := by decide +kernel
theorem dX7_morning_2 : decode cX7_morning 2 = .ok (.iconst (-1), 1) := by decide +kernel
theorem dX7_morning_3 : decode cX7_morning 3 = .ok (.invokevirtual 193, 3) := by decide +kernel
theorem dX7_morning_6 : decode cX7_morning 6 = .ok (.aload_n 0, 1) := by decide +kernel
theorem dX7_morning_7 : decode cX7_morning 7 = .ok (.getfield 19, 3) := by decide +kernel
theorem dX7_morning_10 : decode cX7_morning 10 = .ok (.aload_n 0, 1) := by decide +kernel
theorem dX7_morning_11 : decode cX7_morning 11 = .ok (.getfield 42, 3) := by decide +kernel
theorem dX7_morning_14 : decode cX7_morning 14 = .ok (.invokevirtual 186, 3) := by decide +kernel
theorem dX7_morning_17 : decode cX7_morning 17 = .ok (.aload_n 0, 1) := by decide +kernel
theorem dX7_morning_18 : decode cX7_morning 18 = .ok (.getfield 42, 3) := by decide +kernel
theorem dX7_morning_21 : decode cX7_morning 21 = .ok (.getfield 190, 3) := by decide +kernel
theorem dX7_morning_24 : decode cX7_morning 24 = .ok (.ireturn, 1) := by decide +kernel
theorem dX7_all_0 : decode cX7_all 0 = .ok (.iload_n 1, 1) := by decide +kernel
theorem dX7_all_1 : decode cX7_all 1 = .ok (.ifCond .lt 8, 3) := by decide +kernel
theorem dX7_all_4 : decode cX7_all 4 = .ok (.iload_n 1, 1) := by decide +kernel
theorem dX7_all_5 : decode cX7_all 5 = .ok (.iconst 3, 1) := by decide +kernel
theorem dX7_all_6 : decode cX7_all 6 = .ok (.if_icmp .le 6, 3) := by decide +kernel
theorem dX7_all_9 : decode cX7_all 9 = .ok (.bipush (-2), 2) := by decide +kernel
theorem dX7_all_11 : decode cX7_all 11 = .ok (.ireturn, 1) := by decide +kernel
theorem dX7_all_12 : decode cX7_all 12 = .ok (.aload_n 0, 1) := by decide +kernel
theorem dX7_all_13 : decode cX7_all 13 = .ok (.iconst (-1), 1) := by decide +kernel
theorem dX7_all_14 : decode cX7_all 14 = .ok (.iconst (-1), 1) := by decide +kernel
theorem dX7_all_15 : decode cX7_all 15 = .ok (.invokevirtual 193, 3) := by decide +kernel
theorem dX7_all_18 : decode cX7_all 18 = .ok (.aload_n 0, 1) := by decide +kernel
theorem dX7_all_19 : decode cX7_all 19 = .ok (.iload_n 1, 1) := by decide +kernel
theorem dX7_all_20 : decode cX7_all 20 = .ok (.invokevirtual 197, 3) := by decide +kernel
theorem dX7_all_23 : decode cX7_all 23 = .ok (.ireturn, 1) := by decide +kernel
theorem dX7_straight_0 : decode cX7_straight 0 = .ok (.aload_n 0, 1) := by decide +kernel
theorem dX7_straight_1 : decode cX7_straight 1 = .ok (.iload_n 1, 1) := by decide +kernel
theorem dX7_straight_2 : decode cX7_straight 2 = .ok (.invokevirtual 169, 3) := by decide +kernel
theorem dX7_straight_5 : decode cX7_straight 5 = .ok (.ifCond .ne 6, 3) := by decide +kernel
theorem dX7_straight_8 : decode cX7_straight 8 = .ok (.bipush (-2), 2) := by decide +kernel
theorem dX7_straight_10 : decode cX7_straight 10 = .ok (.ireturn, 1) := by decide +kernel
theorem dX7_straight_11 : decode cX7_straight 11 = .ok (.aload_n 0, 1) := by decide +kernel
theorem dX7_straight_12 : decode cX7_straight 12 = .ok (.iload_n 1, 1) := by decide +kernel
theorem dX7_straight_13 : decode cX7_straight 13 = .ok (.invokevirtual 200, 3) := by decide +kernel
theorem dX7_straight_16 : decode cX7_straight 16 = .ok (.ireturn, 1) := by decide +kernel
theorem dX7_longer_0 : decode cX7_longer 0 = .ok (.aload_n 0, 1) := by decide +kernel
theorem dX7_longer_1 : decode cX7_longer 1 = .ok (.getfield 42, 3) := by decide +kernel
theorem dX7_longer_4 : decode cX7_longer 4 = .ok (.aload_n 0, 1) := by decide +kernel
theorem dX7_longer_5 : decode cX7_longer 5 = .ok (.getfield 19, 3) := by decide +kernel
theorem dX7_longer_8 : decode cX7_longer 8 = .ok (.getfield 98, 3) := by decide +kernel
theorem dX7_longer_11 : decode cX7_longer 11 = .ok (.invokevirtual 172, 3) := by decide +kernel
theorem dX7_longer_14 : decode cX7_longer 14 = .ok (.iconst 0, 1) := by decide +kernel
theorem dX7_longer_15 : decode cX7_longer 15 = .ok (.istore_n 1, 1) := by decide +kernel
theorem dX7_longer_16 : decode cX7_longer 16 = .ok (.iconst 0, 1) := by decide +kernel
theorem dX7_longer_17 : decode cX7_longer 17 = .ok (.istore_n 2, 1) := by decide +kernel
theorem dX7_longer_18 : decode cX7_longer 18 = .ok (.iload_n 2, 1) := by decide +kernel
theorem dX7_longer_19 : decode cX7_longer 19 = .ok (.aload_n 0, 1) := by decide +kernel
theorem dX7_longer_20 : decode cX7_longer 20 = .ok (.getfield 26, 3) := by decide +kernel
theorem dX7_longer_23 : decode cX7_longer 23 = .ok (.getfield 155, 3) := by decide +kernel
theorem dX7_longer_26 : decode cX7_longer 26 = .ok (.if_icmp .ge 70, 3) := by decide +kernel
theorem dX7_longer_29 : decode cX7_longer 29 = .ok (.aload_n 0, 1) := by decide +kernel
theorem dX7_longer_30 : decode cX7_longer 30 = .ok (.getfield 42, 3) := by decide +kernel
theorem dX7_longer_33 : decode cX7_longer 33 = .ok (.getfield 203, 3) := by decide +kernel
theorem dX7_longer_36 : decode cX7_longer 36 = .ok (.istore_n 3, 1) := by decide +kernel
theorem dX7_longer_37 : decode cX7_longer 37 = .ok (.aload_n 0, 1) := by decide +kernel
theorem dX7_longer_38 : decode cX7_longer 38 = .ok (.getfield 42, 3) := by decide +kernel
theorem dX7_longer_41 : decode cX7_longer 41 = .ok (.aload_n 0, 1) := by decide +kernel
theorem dX7_longer_42 : decode cX7_longer 42 = .ok (.getfield 26, 3) := by decide +kernel
theorem dX7_longer_45 : decode cX7_longer 45 = .ok (.getfield 176, 3) := by decide +kernel
theorem dX7_longer_48 : decode cX7_longer 48 = .ok (.iload_n 2, 1) := by decide +kernel
theorem dX7_longer_49 : decode cX7_longer 49 = .ok (.iaload, 1) := by decide +kernel
theorem dX7_longer_50 : decode cX7_longer 50 = .ok (.aload_n 0, 1) := by decide +kernel
theorem dX7_longer_51 : decode cX7_longer 51 = .ok (.getfield 26, 3) := by decide +kernel
theorem dX7_longer_54 : decode cX7_longer 54 = .ok (.getfield 179, 3) := by decide +kernel
theorem dX7_longer_57 : decode cX7_longer 57 = .ok (.iload_n 2, 1) := by decide +kernel
theorem dX7_longer_58 : decode cX7_longer 58 = .ok (.iaload, 1) := by decide +kernel
theorem dX7_longer_59 : decode cX7_longer 59 = .ok (.aload_n 0, 1) := by decide +kernel
theorem dX7_longer_60 : decode cX7_longer 60 = .ok (.getfield 10, 3) := by decide +kernel
theorem dX7_longer_63 : decode cX7_longer 63 = .ok (.getfield 158, 3) := by decide +kernel
theorem dX7_longer_66 : decode cX7_longer 66 = .ok (.invokevirtual 182, 3) := by decide +kernel
theorem dX7_longer_69 : decode cX7_longer 69 = .ok (.ifCond .eq 21, 3) := by decide +kernel
theorem dX7_longer_72 : decode cX7_longer 72 = .ok (.iload_n 1, 1) := by decide +kernel
theorem dX7_longer_73 : decode cX7_longer 73 = .ok (.aload_n 0, 1) := by decide +kernel
theorem dX7_longer_74 : decode cX7_longer 74 = .ok (.getfield 42, 3) := by decide +kernel
theorem dX7_longer_77 : decode cX7_longer 77 = .ok (.getfield 203, 3) := by decide +kernel
theorem dX7_longer_80 : decode cX7_longer 80 = .ok (.iload_n 3, 1) := by decide +kernel
theorem dX7_longer_81 : decode cX7_longer 81 = .ok (.isub, 1) := by decide +kernel
theorem dX7_longer_82 : decode cX7_longer 82 = .ok (.aload_n 0, 1) := by decide +kernel
theorem dX7_longer_83 : decode cX7_longer 83 = .ok (.iload_n 2, 1) := by decide +kernel
theorem dX7_longer_84 : decode cX7_longer 84 = .ok (.invokevirtual 200, 3) := by decide +kernel
theorem dX7_longer_87 : decode cX7_longer 87 = .ok (.isub, 1) := by decide +kernel
theorem dX7_longer_88 : decode cX7_longer 88 = .ok (.iadd, 1) := by decide +kernel
theorem dX7_longer_89 : decode cX7_longer 89 = .ok (.istore_n 1, 1) := by decide +kernel
theorem dX7_longer_90 : decode cX7_longer 90 = .ok (.iinc 2 1, 3) := by decide +kernel
theorem dX7_longer_93 : decode cX7_longer 93 = .ok (.goto (-75), 3) := by decide +kernel
theorem dX7_longer_96 : decode cX7_longer 96 = .ok (.iload_n 1, 1) := by decide +kernel
theorem dX7_longer_97 : decode cX7_longer 97 = .ok (.ireturn, 1) := by decide +kernel
theorem dX7_orders_0 : decode cX7_orders 0 = .ok (.iload_n 1, 1) := by decide +kernel
theorem dX7_orders_1 : decode cX7_orders 1 = .ok (.ifCond .lt 8, 3) := by decide +kernel
theorem dX7_orders_4 : decode cX7_orders 4 = .ok (.iload_n 1, 1) := by decide +kernel
theorem dX7_orders_5 : decode cX7_orders 5 = .ok (.iconst 1, 1) := by decide +kernel
theorem dX7_orders_6 : decode cX7_orders 6 = .ok (.if_icmp .le 6, 3) := by decide +kernel
theorem dX7_orders_9 : decode cX7_orders 9 = .ok (.bipush (-2), 2) := by decide +kernel
theorem dX7_orders_11 : decode cX7_orders 11 = .ok (.ireturn, 1) := by decide +kernel
theorem dX7_orders_12 : decode cX7_orders 12 = .ok (.aload_n 0, 1) := by decide +kernel
theorem dX7_orders_13 : decode cX7_orders 13 = .ok (.getfield 26, 3) := by decide +kernel
theorem dX7_orders_16 : decode cX7_orders 16 = .ok (.getfield 155, 3) := by decide +kernel
theorem dX7_orders_19 : decode cX7_orders 19 = .ok (.iconst 5, 1) := by decide +kernel
theorem dX7_orders_20 : decode cX7_orders 20 = .ok (.if_icmp .le 6, 3) := by decide +kernel
theorem dX7_orders_23 : decode cX7_orders 23 = .ok (.bipush (-4), 2) := by decide +kernel
theorem dX7_orders_25 : decode cX7_orders 25 = .ok (.ireturn, 1) := by decide +kernel
theorem dX7_orders_26 : decode cX7_orders 26 = .ok (.aload_n 0, 1) := by decide +kernel
theorem dX7_orders_27 : decode cX7_orders 27 = .ok (.getfield 51, 3) := by decide +kernel
theorem dX7_orders_30 : decode cX7_orders 30 = .ok (.aload_n 0, 1) := by decide +kernel
theorem dX7_orders_31 : decode cX7_orders 31 = .ok (.getfield 19, 3) := by decide +kernel
theorem dX7_orders_34 : decode cX7_orders 34 = .ok (.getfield 98, 3) := by decide +kernel
theorem dX7_orders_37 : decode cX7_orders 37 = .ok (.aconst_null, 1) := by decide +kernel
theorem dX7_orders_38 : decode cX7_orders 38 = .ok (.invokevirtual 206, 3) := by decide +kernel
theorem dX7_orders_41 : decode cX7_orders 41 = .ok (.iload_n 1, 1) := by decide +kernel
theorem dX7_orders_42 : decode cX7_orders 42 = .ok (.ifCond .ne 13, 3) := by decide +kernel
theorem dX7_orders_45 : decode cX7_orders 45 = .ok (.aload_n 0, 1) := by decide +kernel
theorem dX7_orders_46 : decode cX7_orders 46 = .ok (.getfield 51, 3) := by decide +kernel
theorem dX7_orders_49 : decode cX7_orders 49 = .ok (.getfield 210, 3) := by decide +kernel
theorem dX7_orders_52 : decode cX7_orders 52 = .ok (.goto 10, 3) := by decide +kernel
theorem dX7_orders_55 : decode cX7_orders 55 = .ok (.aload_n 0, 1) := by decide +kernel
theorem dX7_orders_56 : decode cX7_orders 56 = .ok (.getfield 51, 3) := by decide +kernel
theorem dX7_orders_59 : decode cX7_orders 59 = .ok (.getfield 213, 3) := by decide +kernel
theorem dX7_orders_62 : decode cX7_orders 62 = .ok (.ireturn, 1) := by decide +kernel
theorem dX7_order_0 : decode cX7_order 0 = .ok (.iload_n 1, 1) := by decide +kernel
theorem dX7_order_1 : decode cX7_order 1 = .ok (.ifCond .ge 6, 3) := by decide +kernel
theorem dX7_order_4 : decode cX7_order 4 = .ok (.bipush (-2), 2) := by decide +kernel
theorem dX7_order_6 : decode cX7_order 6 = .ok (.ireturn, 1) := by decide +kernel
theorem dX7_order_7 : decode cX7_order 7 = .ok (.aload_n 0, 1) := by decide +kernel
theorem dX7_order_8 : decode cX7_order 8 = .ok (.getfield 26, 3) := by decide +kernel
theorem dX7_order_11 : decode cX7_order 11 = .ok (.getfield 155, 3) := by decide +kernel
theorem dX7_order_14 : decode cX7_order 14 = .ok (.iconst 5, 1) := by decide +kernel
theorem dX7_order_15 : decode cX7_order 15 = .ok (.if_icmp .le 6, 3) := by decide +kernel
theorem dX7_order_18 : decode cX7_order 18 = .ok (.bipush (-4), 2) := by decide +kernel
theorem dX7_order_20 : decode cX7_order 20 = .ok (.ireturn, 1) := by decide +kernel
theorem dX7_order_21 : decode cX7_order 21 = .ok (.iload_n 1, 1) := by decide +kernel
theorem dX7_order_22 : decode cX7_order 22 = .ok (.aload_n 0, 1) := by decide +kernel
theorem dX7_order_23 : decode cX7_order 23 = .ok (.getfield 26, 3) := by decide +kernel
theorem dX7_order_26 : decode cX7_order 26 = .ok (.getfield 155, 3) := by decide +kernel
theorem dX7_order_29 : decode cX7_order 29 = .ok (.if_icmp .lt 6, 3) := by decide +kernel
theorem dX7_order_32 : decode cX7_order 32 = .ok (.bipush (-2), 2) := by decide +kernel
theorem dX7_order_34 : decode cX7_order 34 = .ok (.ireturn, 1) := by decide +kernel
theorem dX7_order_35 : decode cX7_order 35 = .ok (.aload_n 0, 1) := by decide +kernel
theorem dX7_order_36 : decode cX7_order 36 = .ok (.getfield 51, 3) := by decide +kernel
theorem dX7_order_39 : decode cX7_order 39 = .ok (.aload_n 0, 1) := by decide +kernel
theorem dX7_order_40 : decode cX7_order 40 = .ok (.getfield 19, 3) := by decide +kernel
theorem dX7_order_43 : decode cX7_order 43 = .ok (.getfield 98, 3) := by decide +kernel
theorem dX7_order_46 : decode cX7_order 46 = .ok (.aconst_null, 1) := by decide +kernel
theorem dX7_order_47 : decode cX7_order 47 = .ok (.invokevirtual 206, 3) := by decide +kernel
theorem dX7_order_50 : decode cX7_order 50 = .ok (.aload_n 0, 1) := by decide +kernel
theorem dX7_order_51 : decode cX7_order 51 = .ok (.getfield 51, 3) := by decide +kernel
theorem dX7_order_54 : decode cX7_order 54 = .ok (.getfield 216, 3) := by decide +kernel
theorem dX7_order_57 : decode cX7_order 57 = .ok (.iload_n 1, 1) := by decide +kernel
theorem dX7_order_58 : decode cX7_order 58 = .ok (.iaload, 1) := by decide +kernel
theorem dX7_order_59 : decode cX7_order 59 = .ok (.ireturn, 1) := by decide +kernel
theorem dX7_first_0 : decode cX7_first 0 = .ok (.iload_n 1, 1) := by decide +kernel
theorem dX7_first_1 : decode cX7_first 1 = .ok (.ifCond .lt 8, 3) := by decide +kernel
theorem dX7_first_4 : decode cX7_first 4 = .ok (.iload_n 1, 1) := by decide +kernel
theorem dX7_first_5 : decode cX7_first 5 = .ok (.iconst 1, 1) := by decide +kernel
theorem dX7_first_6 : decode cX7_first 6 = .ok (.if_icmp .le 6, 3) := by decide +kernel
theorem dX7_first_9 : decode cX7_first 9 = .ok (.bipush (-2), 2) := by decide +kernel
theorem dX7_first_11 : decode cX7_first 11 = .ok (.ireturn, 1) := by decide +kernel
theorem dX7_first_12 : decode cX7_first 12 = .ok (.aload_n 0, 1) := by decide +kernel
theorem dX7_first_13 : decode cX7_first 13 = .ok (.getfield 26, 3) := by decide +kernel
theorem dX7_first_16 : decode cX7_first 16 = .ok (.getfield 155, 3) := by decide +kernel
theorem dX7_first_19 : decode cX7_first 19 = .ok (.ifCond .ne 6, 3) := by decide +kernel
theorem dX7_first_22 : decode cX7_first 22 = .ok (.bipush (-3), 2) := by decide +kernel
theorem dX7_first_24 : decode cX7_first 24 = .ok (.ireturn, 1) := by decide +kernel
theorem dX7_first_25 : decode cX7_first 25 = .ok (.aload_n 0, 1) := by decide +kernel
theorem dX7_first_26 : decode cX7_first 26 = .ok (.invokevirtual 219, 3) := by decide +kernel
theorem dX7_first_29 : decode cX7_first 29 = .ok (.iload_n 1, 1) := by decide +kernel
theorem dX7_first_30 : decode cX7_first 30 = .ok (.ifCond .ne 10, 3) := by decide +kernel
theorem dX7_first_33 : decode cX7_first 33 = .ok (.aload_n 0, 1) := by decide +kernel
theorem dX7_first_34 : decode cX7_first 34 = .ok (.getfield 65, 3) := by decide +kernel
theorem dX7_first_37 : decode cX7_first 37 = .ok (.goto 7, 3) := by decide +kernel
theorem dX7_first_40 : decode cX7_first 40 = .ok (.aload_n 0, 1) := by decide +kernel
theorem dX7_first_41 : decode cX7_first 41 = .ok (.getfield 68, 3) := by decide +kernel
theorem dX7_first_44 : decode cX7_first 44 = .ok (.ireturn, 1) := by decide +kernel
theorem dX7_yard_0 : decode cX7_yard 0 = .ok (.iload_n 1, 1) := by decide +kernel
theorem dX7_yard_1 : decode cX7_yard 1 = .ok (.ifCond .lt 8, 3) := by decide +kernel
theorem dX7_yard_4 : decode cX7_yard 4 = .ok (.iload_n 1, 1) := by decide +kernel
theorem dX7_yard_5 : decode cX7_yard 5 = .ok (.iconst 1, 1) := by decide +kernel
theorem dX7_yard_6 : decode cX7_yard 6 = .ok (.if_icmp .le 6, 3) := by decide +kernel
theorem dX7_yard_9 : decode cX7_yard 9 = .ok (.bipush (-2), 2) := by decide +kernel
theorem dX7_yard_11 : decode cX7_yard 11 = .ok (.ireturn, 1) := by decide +kernel
theorem dX7_yard_12 : decode cX7_yard 12 = .ok (.aload_n 0, 1) := by decide +kernel
theorem dX7_yard_13 : decode cX7_yard 13 = .ok (.invokevirtual 222, 3) := by decide +kernel
theorem dX7_yard_16 : decode cX7_yard 16 = .ok (.iload_n 1, 1) := by decide +kernel
theorem dX7_yard_17 : decode cX7_yard 17 = .ok (.ifCond .ne 10, 3) := by decide +kernel
theorem dX7_yard_20 : decode cX7_yard 20 = .ok (.aload_n 0, 1) := by decide +kernel
theorem dX7_yard_21 : decode cX7_yard 21 = .ok (.getfield 71, 3) := by decide +kernel
theorem dX7_yard_24 : decode cX7_yard 24 = .ok (.goto 7, 3) := by decide +kernel
theorem dX7_yard_27 : decode cX7_yard 27 = .ok (.aload_n 0, 1) := by decide +kernel
theorem dX7_yard_28 : decode cX7_yard 28 = .ok (.getfield 74, 3) := by decide +kernel
theorem dX7_yard_31 : decode cX7_yard 31 = .ok (.ireturn, 1) := by decide +kernel
theorem dX7_falls_0 : decode cX7_falls 0 = .ok (.aload_n 0, 1) := by decide +kernel
theorem dX7_falls_1 : decode cX7_falls 1 = .ok (.iconst 0, 1) := by decide +kernel
theorem dX7_falls_2 : decode cX7_falls 2 = .ok (.iload_n 1, 1) := by decide +kernel
theorem dX7_falls_3 : decode cX7_falls 3 = .ok (.invokevirtual 225, 3) := by decide +kernel
theorem dX7_falls_6 : decode cX7_falls 6 = .ok (.lreturn, 1) := by decide +kernel
theorem dX7_grit_0 : decode cX7_grit 0 = .ok (.iload_n 1, 1) := by decide +kernel
theorem dX7_grit_1 : decode cX7_grit 1 = .ok (.ifCond .lt 13, 3) := by decide +kernel
theorem dX7_grit_4 : decode cX7_grit 4 = .ok (.iload_n 1, 1) := by decide +kernel
theorem dX7_grit_5 : decode cX7_grit 5 = .ok (.bipush 8, 2) := by decide +kernel
theorem dX7_grit_7 : decode cX7_grit 7 = .ok (.if_icmp .gt 7, 3) := by decide +kernel
theorem dX7_grit_10 : decode cX7_grit 10 = .ok (.iload_n 2, 1) := by decide +kernel
theorem dX7_grit_11 : decode cX7_grit 11 = .ok (.ifCond .ge 6, 3) := by decide +kernel
theorem dX7_grit_14 : decode cX7_grit 14 = .ok (.bipush (-2), 2) := by decide +kernel
theorem dX7_grit_16 : decode cX7_grit 16 = .ok (.ireturn, 1) := by decide +kernel
theorem dX7_grit_17 : decode cX7_grit 17 = .ok (.iload_n 2, 1) := by decide +kernel
theorem dX7_grit_18 : decode cX7_grit 18 = .ok (.iload_n 1, 1) := by decide +kernel
theorem dX7_grit_19 : decode cX7_grit 19 = .ok (.if_icmp .lt 5, 3) := by decide +kernel
theorem dX7_grit_22 : decode cX7_grit 22 = .ok (.iconst (-1), 1) := by decide +kernel
theorem dX7_grit_23 : decode cX7_grit 23 = .ok (.ireturn, 1) := by decide +kernel
theorem dX7_grit_24 : decode cX7_grit 24 = .ok (.aload_n 0, 1) := by decide +kernel
theorem dX7_grit_25 : decode cX7_grit 25 = .ok (.iconst (-1), 1) := by decide +kernel
theorem dX7_grit_26 : decode cX7_grit 26 = .ok (.iconst (-1), 1) := by decide +kernel
theorem dX7_grit_27 : decode cX7_grit 27 = .ok (.invokevirtual 193, 3) := by decide +kernel
theorem dX7_grit_30 : decode cX7_grit 30 = .ok (.lconst 0, 1) := by decide +kernel
theorem dX7_grit_31 : decode cX7_grit 31 = .ok (.lstore_n 3, 1) := by decide +kernel
theorem dX7_grit_32 : decode cX7_grit 32 = .ok (.iconst (-1), 1) := by decide +kernel
theorem dX7_grit_33 : decode cX7_grit 33 = .ok (.istore 5, 2) := by decide +kernel
theorem dX7_grit_35 : decode cX7_grit 35 = .ok (.iconst 0, 1) := by decide +kernel
theorem dX7_grit_36 : decode cX7_grit 36 = .ok (.istore 6, 2) := by decide +kernel
theorem dX7_grit_38 : decode cX7_grit 38 = .ok (.iload 6, 2) := by decide +kernel
theorem dX7_grit_40 : decode cX7_grit 40 = .ok (.iload_n 2, 1) := by decide +kernel
theorem dX7_grit_41 : decode cX7_grit 41 = .ok (.if_icmp .gt 32, 3) := by decide +kernel
theorem dX7_grit_44 : decode cX7_grit 44 = .ok (.aload_n 0, 1) := by decide +kernel
theorem dX7_grit_45 : decode cX7_grit 45 = .ok (.lload_n 3, 1) := by decide +kernel
theorem dX7_grit_46 : decode cX7_grit 46 = .ok (.invokevirtual 229, 3) := by decide +kernel
theorem dX7_grit_49 : decode cX7_grit 49 = .ok (.istore 5, 2) := by decide +kernel
theorem dX7_grit_51 : decode cX7_grit 51 = .ok (.iload 5, 2) := by decide +kernel
theorem dX7_grit_53 : decode cX7_grit 53 = .ok (.iconst (-1), 1) := by decide +kernel
theorem dX7_grit_54 : decode cX7_grit 54 = .ok (.if_icmp .ne 5, 3) := by decide +kernel
theorem dX7_grit_57 : decode cX7_grit 57 = .ok (.iconst (-1), 1) := by decide +kernel
theorem dX7_grit_58 : decode cX7_grit 58 = .ok (.ireturn, 1) := by decide +kernel
theorem dX7_grit_59 : decode cX7_grit 59 = .ok (.lload_n 3, 1) := by decide +kernel
theorem dX7_grit_60 : decode cX7_grit 60 = .ok (.iload 5, 2) := by decide +kernel
theorem dX7_grit_62 : decode cX7_grit 62 = .ok (.invokestatic 233, 3) := by decide +kernel
theorem dX7_grit_65 : decode cX7_grit 65 = .ok (.lor, 1) := by decide +kernel
theorem dX7_grit_66 : decode cX7_grit 66 = .ok (.lstore_n 3, 1) := by decide +kernel
theorem dX7_grit_67 : decode cX7_grit 67 = .ok (.iinc 6 1, 3) := by decide +kernel
theorem dX7_grit_70 : decode cX7_grit 70 = .ok (.goto (-32), 3) := by decide +kernel
theorem dX7_grit_73 : decode cX7_grit 73 = .ok (.iload 5, 2) := by decide +kernel
theorem dX7_grit_75 : decode cX7_grit 75 = .ok (.ireturn, 1) := by decide +kernel
theorem dX7_left_0 : decode cX7_left 0 = .ok (.iload_n 1, 1) := by decide +kernel
theorem dX7_left_1 : decode cX7_left 1 = .ok (.ifCond .lt 18, 3) := by decide +kernel
theorem dX7_left_4 : decode cX7_left 4 = .ok (.iload_n 1, 1) := by decide +kernel
theorem dX7_left_5 : decode cX7_left 5 = .ok (.bipush 8, 2) := by decide +kernel
theorem dX7_left_7 : decode cX7_left 7 = .ok (.if_icmp .gt 12, 3) := by decide +kernel
theorem dX7_left_10 : decode cX7_left 10 = .ok (.iload_n 2, 1) := by decide +kernel
theorem dX7_left_11 : decode cX7_left 11 = .ok (.ifCond .lt 8, 3) := by decide +kernel
theorem dX7_left_14 : decode cX7_left 14 = .ok (.iload_n 2, 1) := by decide +kernel
theorem dX7_left_15 : decode cX7_left 15 = .ok (.iconst 1, 1) := by decide +kernel
theorem dX7_left_16 : decode cX7_left 16 = .ok (.if_icmp .le 9, 3) := by decide +kernel
theorem dX7_left_19 : decode cX7_left 19 = .ok (.bipush (-2), 2) := by decide +kernel
theorem dX7_left_21 : decode cX7_left 21 = .ok (.invokestatic 237, 3) := by decide +kernel
theorem dX7_left_24 : decode cX7_left 24 = .ok (.lreturn, 1) := by decide +kernel
theorem dX7_left_25 : decode cX7_left 25 = .ok (.aload_n 0, 1) := by decide +kernel
theorem dX7_left_26 : decode cX7_left 26 = .ok (.iconst (-1), 1) := by decide +kernel
theorem dX7_left_27 : decode cX7_left 27 = .ok (.iconst (-1), 1) := by decide +kernel
theorem dX7_left_28 : decode cX7_left 28 = .ok (.invokevirtual 193, 3) := by decide +kernel
theorem dX7_left_31 : decode cX7_left 31 = .ok (.aload_n 0, 1) := by decide +kernel
theorem dX7_left_32 : decode cX7_left 32 = .ok (.iload_n 1, 1) := by decide +kernel
theorem dX7_left_33 : decode cX7_left 33 = .ok (.invokevirtual 240, 3) := by decide +kernel
theorem dX7_left_36 : decode cX7_left 36 = .ok (.iload_n 2, 1) := by decide +kernel
theorem dX7_left_37 : decode cX7_left 37 = .ok (.invokestatic 243, 3) := by decide +kernel
theorem dX7_left_40 : decode cX7_left 40 = .ok (.lreturn, 1) := by decide +kernel
theorem dX7_tower_0 : decode cX7_tower 0 = .ok (.iload_n 1, 1) := by decide +kernel
theorem dX7_tower_1 : decode cX7_tower 1 = .ok (.invokestatic 137, 3) := by decide +kernel
theorem dX7_tower_4 : decode cX7_tower 4 = .ok (.ifCond .eq 12, 3) := by decide +kernel
theorem dX7_tower_7 : decode cX7_tower 7 = .ok (.iload_n 2, 1) := by decide +kernel
theorem dX7_tower_8 : decode cX7_tower 8 = .ok (.ifCond .lt 8, 3) := by decide +kernel
theorem dX7_tower_11 : decode cX7_tower 11 = .ok (.iload_n 2, 1) := by decide +kernel
theorem dX7_tower_12 : decode cX7_tower 12 = .ok (.iconst 1, 1) := by decide +kernel
theorem dX7_tower_13 : decode cX7_tower 13 = .ok (.if_icmp .le 6, 3) := by decide +kernel
theorem dX7_tower_16 : decode cX7_tower 16 = .ok (.bipush (-2), 2) := by decide +kernel
theorem dX7_tower_18 : decode cX7_tower 18 = .ok (.ireturn, 1) := by decide +kernel
theorem dX7_tower_19 : decode cX7_tower 19 = .ok (.aload_n 0, 1) := by decide +kernel
theorem dX7_tower_20 : decode cX7_tower 20 = .ok (.getfield 57, 3) := by decide +kernel
theorem dX7_tower_23 : decode cX7_tower 23 = .ok (.iload_n 1, 1) := by decide +kernel
theorem dX7_tower_24 : decode cX7_tower 24 = .ok (.aaload, 1) := by decide +kernel
theorem dX7_tower_25 : decode cX7_tower 25 = .ok (.invokevirtual 140, 3) := by decide +kernel
theorem dX7_tower_28 : decode cX7_tower 28 = .ok (.ifCond .eq 9, 3) := by decide +kernel
theorem dX7_tower_31 : decode cX7_tower 31 = .ok (.aload_n 0, 1) := by decide +kernel
theorem dX7_tower_32 : decode cX7_tower 32 = .ok (.iconst 1, 1) := by decide +kernel
theorem dX7_tower_33 : decode cX7_tower 33 = .ok (.invokevirtual 144, 3) := by decide +kernel
theorem dX7_tower_36 : decode cX7_tower 36 = .ok (.ireturn, 1) := by decide +kernel
theorem dX7_tower_37 : decode cX7_tower 37 = .ok (.aload_n 0, 1) := by decide +kernel
theorem dX7_tower_38 : decode cX7_tower 38 = .ok (.getfield 26, 3) := by decide +kernel
theorem dX7_tower_41 : decode cX7_tower 41 = .ok (.getfield 155, 3) := by decide +kernel
theorem dX7_tower_44 : decode cX7_tower 44 = .ok (.iconst 5, 1) := by decide +kernel
theorem dX7_tower_45 : decode cX7_tower 45 = .ok (.if_icmp .le 6, 3) := by decide +kernel
theorem dX7_tower_48 : decode cX7_tower 48 = .ok (.bipush (-4), 2) := by decide +kernel
theorem dX7_tower_50 : decode cX7_tower 50 = .ok (.ireturn, 1) := by decide +kernel
theorem dX7_tower_51 : decode cX7_tower 51 = .ok (.aload_n 0, 1) := by decide +kernel
theorem dX7_tower_52 : decode cX7_tower 52 = .ok (.getfield 51, 3) := by decide +kernel
theorem dX7_tower_55 : decode cX7_tower 55 = .ok (.aload_n 0, 1) := by decide +kernel
theorem dX7_tower_56 : decode cX7_tower 56 = .ok (.getfield 19, 3) := by decide +kernel
theorem dX7_tower_59 : decode cX7_tower 59 = .ok (.getfield 98, 3) := by decide +kernel
theorem dX7_tower_62 : decode cX7_tower 62 = .ok (.aload_n 0, 1) := by decide +kernel
theorem dX7_tower_63 : decode cX7_tower 63 = .ok (.getfield 57, 3) := by decide +kernel
theorem dX7_tower_66 : decode cX7_tower 66 = .ok (.iload_n 1, 1) := by decide +kernel
theorem dX7_tower_67 : decode cX7_tower 67 = .ok (.aaload, 1) := by decide +kernel
theorem dX7_tower_68 : decode cX7_tower 68 = .ok (.invokevirtual 206, 3) := by decide +kernel
theorem dX7_tower_71 : decode cX7_tower 71 = .ok (.iload_n 2, 1) := by decide +kernel
theorem dX7_tower_72 : decode cX7_tower 72 = .ok (.ifCond .ne 13, 3) := by decide +kernel
theorem dX7_tower_75 : decode cX7_tower 75 = .ok (.aload_n 0, 1) := by decide +kernel
theorem dX7_tower_76 : decode cX7_tower 76 = .ok (.getfield 51, 3) := by decide +kernel
theorem dX7_tower_79 : decode cX7_tower 79 = .ok (.getfield 246, 3) := by decide +kernel
theorem dX7_tower_82 : decode cX7_tower 82 = .ok (.goto 10, 3) := by decide +kernel
theorem dX7_tower_85 : decode cX7_tower 85 = .ok (.aload_n 0, 1) := by decide +kernel
theorem dX7_tower_86 : decode cX7_tower 86 = .ok (.getfield 51, 3) := by decide +kernel
theorem dX7_tower_89 : decode cX7_tower 89 = .ok (.getfield 249, 3) := by decide +kernel
theorem dX7_tower_92 : decode cX7_tower 92 = .ok (.ireturn, 1) := by decide +kernel
theorem dX7_towerOrder_0 : decode cX7_towerOrder 0 = .ok (.iload_n 1, 1) := by decide +kernel
theorem dX7_towerOrder_1 : decode cX7_towerOrder 1 = .ok (.invokestatic 137, 3) := by decide +kernel
theorem dX7_towerOrder_4 : decode cX7_towerOrder 4 = .ok (.ifCond .eq 18, 3) := by decide +kernel
theorem dX7_towerOrder_7 : decode cX7_towerOrder 7 = .ok (.iload_n 2, 1) := by decide +kernel
theorem dX7_towerOrder_8 : decode cX7_towerOrder 8 = .ok (.ifCond .lt 14, 3) := by decide +kernel
theorem dX7_towerOrder_11 : decode cX7_towerOrder 11 = .ok (.iload_n 2, 1) := by decide +kernel
theorem dX7_towerOrder_12 : decode cX7_towerOrder 12 = .ok (.aload_n 0, 1) := by decide +kernel
theorem dX7_towerOrder_13 : decode cX7_towerOrder 13 = .ok (.getfield 26, 3) := by decide +kernel
theorem dX7_towerOrder_16 : decode cX7_towerOrder 16 = .ok (.getfield 155, 3) := by decide +kernel
theorem dX7_towerOrder_19 : decode cX7_towerOrder 19 = .ok (.if_icmp .lt 6, 3) := by decide +kernel
theorem dX7_towerOrder_22 : decode cX7_towerOrder 22 = .ok (.bipush (-2), 2) := by decide +kernel
theorem dX7_towerOrder_24 : decode cX7_towerOrder 24 = .ok (.ireturn, 1) := by decide +kernel
theorem dX7_towerOrder_25 : decode cX7_towerOrder 25 = .ok (.aload_n 0, 1) := by decide +kernel
theorem dX7_towerOrder_26 : decode cX7_towerOrder 26 = .ok (.getfield 57, 3) := by decide +kernel
theorem dX7_towerOrder_29 : decode cX7_towerOrder 29 = .ok (.iload_n 1, 1) := by decide +kernel
theorem dX7_towerOrder_30 : decode cX7_towerOrder 30 = .ok (.aaload, 1) := by decide +kernel
theorem dX7_towerOrder_31 : decode cX7_towerOrder 31 = .ok (.invokevirtual 140, 3) := by decide +kernel
theorem dX7_towerOrder_34 : decode cX7_towerOrder 34 = .ok (.ifCond .eq 9, 3) := by decide +kernel
theorem dX7_towerOrder_37 : decode cX7_towerOrder 37 = .ok (.aload_n 0, 1) := by decide +kernel
theorem dX7_towerOrder_38 : decode cX7_towerOrder 38 = .ok (.iconst 1, 1) := by decide +kernel
theorem dX7_towerOrder_39 : decode cX7_towerOrder 39 = .ok (.invokevirtual 144, 3) := by decide +kernel
theorem dX7_towerOrder_42 : decode cX7_towerOrder 42 = .ok (.ireturn, 1) := by decide +kernel
theorem dX7_towerOrder_43 : decode cX7_towerOrder 43 = .ok (.aload_n 0, 1) := by decide +kernel
theorem dX7_towerOrder_44 : decode cX7_towerOrder 44 = .ok (.getfield 26, 3) := by decide +kernel
theorem dX7_towerOrder_47 : decode cX7_towerOrder 47 = .ok (.getfield 155, 3) := by decide +kernel
theorem dX7_towerOrder_50 : decode cX7_towerOrder 50 = .ok (.iconst 5, 1) := by decide +kernel
theorem dX7_towerOrder_51 : decode cX7_towerOrder 51 = .ok (.if_icmp .le 6, 3) := by decide +kernel
theorem dX7_towerOrder_54 : decode cX7_towerOrder 54 = .ok (.bipush (-4), 2) := by decide +kernel
theorem dX7_towerOrder_56 : decode cX7_towerOrder 56 = .ok (.ireturn, 1) := by decide +kernel
theorem dX7_towerOrder_57 : decode cX7_towerOrder 57 = .ok (.aload_n 0, 1) := by decide +kernel
theorem dX7_towerOrder_58 : decode cX7_towerOrder 58 = .ok (.getfield 51, 3) := by decide +kernel
theorem dX7_towerOrder_61 : decode cX7_towerOrder 61 = .ok (.aload_n 0, 1) := by decide +kernel
theorem dX7_towerOrder_62 : decode cX7_towerOrder 62 = .ok (.getfield 19, 3) := by decide +kernel
theorem dX7_towerOrder_65 : decode cX7_towerOrder 65 = .ok (.getfield 98, 3) := by decide +kernel
theorem dX7_towerOrder_68 : decode cX7_towerOrder 68 = .ok (.aload_n 0, 1) := by decide +kernel
theorem dX7_towerOrder_69 : decode cX7_towerOrder 69 = .ok (.getfield 57, 3) := by decide +kernel
theorem dX7_towerOrder_72 : decode cX7_towerOrder 72 = .ok (.iload_n 1, 1) := by decide +kernel
theorem dX7_towerOrder_73 : decode cX7_towerOrder 73 = .ok (.aaload, 1) := by decide +kernel
theorem dX7_towerOrder_74 : decode cX7_towerOrder 74 = .ok (.invokevirtual 206, 3) := by decide +kernel
theorem dX7_towerOrder_77 : decode cX7_towerOrder 77 = .ok (.aload_n 0, 1) := by decide +kernel
theorem dX7_towerOrder_78 : decode cX7_towerOrder 78 = .ok (.getfield 51, 3) := by decide +kernel
theorem dX7_towerOrder_81 : decode cX7_towerOrder 81 = .ok (.getfield 246, 3) := by decide +kernel
theorem dX7_towerOrder_84 : decode cX7_towerOrder 84 = .ok (.ifCond .ne 7, 3) := by decide +kernel
theorem dX7_towerOrder_87 : decode cX7_towerOrder 87 = .ok (.iconst (-1), 1) := by decide +kernel
theorem dX7_towerOrder_88 : decode cX7_towerOrder 88 = .ok (.goto 12, 3) := by decide +kernel
theorem dX7_towerOrder_91 : decode cX7_towerOrder 91 = .ok (.aload_n 0, 1) := by decide +kernel
theorem dX7_towerOrder_92 : decode cX7_towerOrder 92 = .ok (.getfield 51, 3) := by decide +kernel
theorem dX7_towerOrder_95 : decode cX7_towerOrder 95 = .ok (.getfield 252, 3) := by decide +kernel
theorem dX7_towerOrder_98 : decode cX7_towerOrder 98 = .ok (.iload_n 2, 1) := by decide +kernel
theorem dX7_towerOrder_99 : decode cX7_towerOrder 99 = .ok (.iaload, 1) := by decide +kernel
theorem dX7_towerOrder_100 : decode cX7_towerOrder 100 = .ok (.ireturn, 1) := by decide +kernel
theorem dX7_hints_0 : decode cX7_hints 0 = .ok (.iload_n 1, 1) := by decide +kernel
theorem dX7_hints_1 : decode cX7_hints 1 = .ok (.invokestatic 137, 3) := by decide +kernel
theorem dX7_hints_4 : decode cX7_hints 4 = .ok (.ifCond .eq 20, 3) := by decide +kernel
theorem dX7_hints_7 : decode cX7_hints 7 = .ok (.aload_n 0, 1) := by decide +kernel
theorem dX7_hints_8 : decode cX7_hints 8 = .ok (.iload_n 2, 1) := by decide +kernel
theorem dX7_hints_9 : decode cX7_hints 9 = .ok (.invokevirtual 169, 3) := by decide +kernel
theorem dX7_hints_12 : decode cX7_hints 12 = .ok (.ifCond .eq 12, 3) := by decide +kernel
theorem dX7_hints_15 : decode cX7_hints 15 = .ok (.iload_n 3, 1) := by decide +kernel
theorem dX7_hints_16 : decode cX7_hints 16 = .ok (.ifCond .lt 8, 3) := by decide +kernel
theorem dX7_hints_19 : decode cX7_hints 19 = .ok (.iload_n 3, 1) := by decide +kernel
theorem dX7_hints_20 : decode cX7_hints 20 = .ok (.iconst 1, 1) := by decide +kernel
theorem dX7_hints_21 : decode cX7_hints 21 = .ok (.if_icmp .le 6, 3) := by decide +kernel
theorem dX7_hints_24 : decode cX7_hints 24 = .ok (.bipush (-2), 2) := by decide +kernel
theorem dX7_hints_26 : decode cX7_hints 26 = .ok (.ireturn, 1) := by decide +kernel
theorem dX7_hints_27 : decode cX7_hints 27 = .ok (.aload_n 0, 1) := by decide +kernel
theorem dX7_hints_28 : decode cX7_hints 28 = .ok (.getfield 57, 3) := by decide +kernel
theorem dX7_hints_31 : decode cX7_hints 31 = .ok (.iload_n 1, 1) := by decide +kernel
theorem dX7_hints_32 : decode cX7_hints 32 = .ok (.aaload, 1) := by decide +kernel
theorem dX7_hints_33 : decode cX7_hints 33 = .ok (.invokevirtual 140, 3) := by decide +kernel
theorem dX7_hints_36 : decode cX7_hints 36 = .ok (.ifCond .eq 9, 3) := by decide +kernel
theorem dX7_hints_39 : decode cX7_hints 39 = .ok (.aload_n 0, 1) := by decide +kernel
theorem dX7_hints_40 : decode cX7_hints 40 = .ok (.iconst 1, 1) := by decide +kernel
theorem dX7_hints_41 : decode cX7_hints 41 = .ok (.invokevirtual 144, 3) := by decide +kernel
theorem dX7_hints_44 : decode cX7_hints 44 = .ok (.ireturn, 1) := by decide +kernel
theorem dX7_hints_45 : decode cX7_hints 45 = .ok (.iconst 0, 1) := by decide +kernel
theorem dX7_hints_46 : decode cX7_hints 46 = .ok (.istore 4, 2) := by decide +kernel
theorem dX7_hints_48 : decode cX7_hints 48 = .ok (.iconst (-1), 1) := by decide +kernel
theorem dX7_hints_49 : decode cX7_hints 49 = .ok (.istore 5, 2) := by decide +kernel
theorem dX7_hints_51 : decode cX7_hints 51 = .ok (.iconst 0, 1) := by decide +kernel
theorem dX7_hints_52 : decode cX7_hints 52 = .ok (.istore 6, 2) := by decide +kernel
theorem dX7_hints_54 : decode cX7_hints 54 = .ok (.iload 6, 2) := by decide +kernel
theorem dX7_hints_56 : decode cX7_hints 56 = .ok (.bipush 64, 2) := by decide +kernel
theorem dX7_hints_58 : decode cX7_hints 58 = .ok (.if_icmp .ge 55, 3) := by decide +kernel
theorem dX7_hints_61 : decode cX7_hints 61 = .ok (.aload_n 0, 1) := by decide +kernel
theorem dX7_hints_62 : decode cX7_hints 62 = .ok (.getfield 10, 3) := by decide +kernel
theorem dX7_hints_65 : decode cX7_hints 65 = .ok (.iload 6, 2) := by decide +kernel
theorem dX7_hints_67 : decode cX7_hints 67 = .ok (.invokevirtual 94, 3) := by decide +kernel
theorem dX7_hints_70 : decode cX7_hints 70 = .ok (.ifCond .ne 37, 3) := by decide +kernel
theorem dX7_hints_73 : decode cX7_hints 73 = .ok (.aload_n 0, 1) := by decide +kernel
theorem dX7_hints_74 : decode cX7_hints 74 = .ok (.aload_n 0, 1) := by decide +kernel
theorem dX7_hints_75 : decode cX7_hints 75 = .ok (.getfield 57, 3) := by decide +kernel
theorem dX7_hints_78 : decode cX7_hints 78 = .ok (.iload_n 1, 1) := by decide +kernel
theorem dX7_hints_79 : decode cX7_hints 79 = .ok (.aaload, 1) := by decide +kernel
theorem dX7_hints_80 : decode cX7_hints 80 = .ok (.iload_n 2, 1) := by decide +kernel
theorem dX7_hints_81 : decode cX7_hints 81 = .ok (.iload 6, 2) := by decide +kernel
theorem dX7_hints_83 : decode cX7_hints 83 = .ok (.invokevirtual 255, 3) := by decide +kernel
theorem dX7_hints_86 : decode cX7_hints 86 = .ok (.ifCond .eq 21, 3) := by decide +kernel
theorem dX7_hints_89 : decode cX7_hints 89 = .ok (.iinc 4 1, 3) := by decide +kernel
theorem dX7_hints_92 : decode cX7_hints 92 = .ok (.iload 5, 2) := by decide +kernel
theorem dX7_hints_94 : decode cX7_hints 94 = .ok (.iconst (-1), 1) := by decide +kernel
theorem dX7_hints_95 : decode cX7_hints 95 = .ok (.if_icmp .ne 8, 3) := by decide +kernel
theorem dX7_hints_98 : decode cX7_hints 98 = .ok (.iload 6, 2) := by decide +kernel
theorem dX7_hints_100 : decode cX7_hints 100 = .ok (.goto 5, 3) := by decide +kernel
theorem dX7_hints_103 : decode cX7_hints 103 = .ok (.iload 5, 2) := by decide +kernel
theorem dX7_hints_105 : decode cX7_hints 105 = .ok (.istore 5, 2) := by decide +kernel
theorem dX7_hints_107 : decode cX7_hints 107 = .ok (.iinc 6 1, 3) := by decide +kernel
theorem dX7_hints_110 : decode cX7_hints 110 = .ok (.goto (-56), 3) := by decide +kernel
theorem dX7_hints_113 : decode cX7_hints 113 = .ok (.iload_n 3, 1) := by decide +kernel
theorem dX7_hints_114 : decode cX7_hints 114 = .ok (.ifCond .ne 8, 3) := by decide +kernel
theorem dX7_hints_117 : decode cX7_hints 117 = .ok (.iload 4, 2) := by decide +kernel
theorem dX7_hints_119 : decode cX7_hints 119 = .ok (.goto 5, 3) := by decide +kernel
theorem dX7_hints_122 : decode cX7_hints 122 = .ok (.iload 5, 2) := by decide +kernel
theorem dX7_hints_124 : decode cX7_hints 124 = .ok (.ireturn, 1) := by decide +kernel
theorem dX7_sheet_0 : decode cX7_sheet 0 = .ok (.iload_n 1, 1) := by decide +kernel
theorem dX7_sheet_1 : decode cX7_sheet 1 = .ok (.invokestatic 137, 3) := by decide +kernel
theorem dX7_sheet_4 : decode cX7_sheet 4 = .ok (.ifCond .eq 16, 3) := by decide +kernel
theorem dX7_sheet_7 : decode cX7_sheet 7 = .ok (.iload_n 2, 1) := by decide +kernel
theorem dX7_sheet_8 : decode cX7_sheet 8 = .ok (.invokestatic 259, 3) := by decide +kernel
theorem dX7_sheet_11 : decode cX7_sheet 11 = .ok (.ifCond .eq 9, 3) := by decide +kernel
theorem dX7_sheet_14 : decode cX7_sheet 14 = .ok (.iload_n 3, 1) := by decide +kernel
theorem dX7_sheet_15 : decode cX7_sheet 15 = .ok (.bipush 64, 2) := by decide +kernel
theorem dX7_sheet_17 : decode cX7_sheet 17 = .ok (.if_icmp .le 6, 3) := by decide +kernel
theorem dX7_sheet_20 : decode cX7_sheet 20 = .ok (.bipush (-2), 2) := by decide +kernel
theorem dX7_sheet_22 : decode cX7_sheet 22 = .ok (.ireturn, 1) := by decide +kernel
theorem dX7_sheet_23 : decode cX7_sheet 23 = .ok (.iload_n 3, 1) := by decide +kernel
theorem dX7_sheet_24 : decode cX7_sheet 24 = .ok (.ifCond .ge 9, 3) := by decide +kernel
theorem dX7_sheet_27 : decode cX7_sheet 27 = .ok (.aload_n 0, 1) := by decide +kernel
theorem dX7_sheet_28 : decode cX7_sheet 28 = .ok (.iconst 5, 1) := by decide +kernel
theorem dX7_sheet_29 : decode cX7_sheet 29 = .ok (.invokevirtual 144, 3) := by decide +kernel
theorem dX7_sheet_32 : decode cX7_sheet 32 = .ok (.ireturn, 1) := by decide +kernel
theorem dX7_sheet_33 : decode cX7_sheet 33 = .ok (.aload_n 0, 1) := by decide +kernel
theorem dX7_sheet_34 : decode cX7_sheet 34 = .ok (.getfield 57, 3) := by decide +kernel
theorem dX7_sheet_37 : decode cX7_sheet 37 = .ok (.iload_n 1, 1) := by decide +kernel
theorem dX7_sheet_38 : decode cX7_sheet 38 = .ok (.aaload, 1) := by decide +kernel
theorem dX7_sheet_39 : decode cX7_sheet 39 = .ok (.iload_n 2, 1) := by decide +kernel
theorem dX7_sheet_40 : decode cX7_sheet 40 = .ok (.iload_n 3, 1) := by decide +kernel
theorem dX7_sheet_41 : decode cX7_sheet 41 = .ok (.invokevirtual 262, 3) := by decide +kernel
theorem dX7_sheet_44 : decode cX7_sheet 44 = .ok (.iload_n 3, 1) := by decide +kernel
theorem dX7_sheet_45 : decode cX7_sheet 45 = .ok (.ireturn, 1) := by decide +kernel
theorem dX7_lose_0 : decode cX7_lose 0 = .ok (.iload_n 1, 1) := by decide +kernel
theorem dX7_lose_1 : decode cX7_lose 1 = .ok (.invokestatic 137, 3) := by decide +kernel
theorem dX7_lose_4 : decode cX7_lose 4 = .ok (.ifCond .ne 6, 3) := by decide +kernel
theorem dX7_lose_7 : decode cX7_lose 7 = .ok (.bipush (-2), 2) := by decide +kernel
theorem dX7_lose_9 : decode cX7_lose 9 = .ok (.ireturn, 1) := by decide +kernel
theorem dX7_lose_10 : decode cX7_lose 10 = .ok (.aload_n 0, 1) := by decide +kernel
theorem dX7_lose_11 : decode cX7_lose 11 = .ok (.getfield 57, 3) := by decide +kernel
theorem dX7_lose_14 : decode cX7_lose 14 = .ok (.iload_n 1, 1) := by decide +kernel
theorem dX7_lose_15 : decode cX7_lose 15 = .ok (.aaload, 1) := by decide +kernel
theorem dX7_lose_16 : decode cX7_lose 16 = .ok (.invokevirtual 140, 3) := by decide +kernel
theorem dX7_lose_19 : decode cX7_lose 19 = .ok (.ifCond .eq 9, 3) := by decide +kernel
theorem dX7_lose_22 : decode cX7_lose 22 = .ok (.aload_n 0, 1) := by decide +kernel
theorem dX7_lose_23 : decode cX7_lose 23 = .ok (.iconst 1, 1) := by decide +kernel
theorem dX7_lose_24 : decode cX7_lose 24 = .ok (.invokevirtual 144, 3) := by decide +kernel
theorem dX7_lose_27 : decode cX7_lose 27 = .ok (.ireturn, 1) := by decide +kernel
theorem dX7_lose_28 : decode cX7_lose 28 = .ok (.aload_n 0, 1) := by decide +kernel
theorem dX7_lose_29 : decode cX7_lose 29 = .ok (.getfield 57, 3) := by decide +kernel
theorem dX7_lose_32 : decode cX7_lose 32 = .ok (.iload_n 1, 1) := by decide +kernel
theorem dX7_lose_33 : decode cX7_lose 33 = .ok (.aaload, 1) := by decide +kernel
theorem dX7_lose_34 : decode cX7_lose 34 = .ok (.getfield 265, 3) := by decide +kernel
theorem dX7_lose_37 : decode cX7_lose 37 = .ok (.istore_n 2, 1) := by decide +kernel
theorem dX7_lose_38 : decode cX7_lose 38 = .ok (.aload_n 0, 1) := by decide +kernel
theorem dX7_lose_39 : decode cX7_lose 39 = .ok (.getfield 57, 3) := by decide +kernel
theorem dX7_lose_42 : decode cX7_lose 42 = .ok (.iload_n 1, 1) := by decide +kernel
theorem dX7_lose_43 : decode cX7_lose 43 = .ok (.aaload, 1) := by decide +kernel
theorem dX7_lose_44 : decode cX7_lose 44 = .ok (.iconst (-1), 1) := by decide +kernel
theorem dX7_lose_45 : decode cX7_lose 45 = .ok (.iconst 0, 1) := by decide +kernel
theorem dX7_lose_46 : decode cX7_lose 46 = .ok (.invokevirtual 262, 3) := by decide +kernel
theorem dX7_lose_49 : decode cX7_lose 49 = .ok (.iload_n 2, 1) := by decide +kernel
theorem dX7_lose_50 : decode cX7_lose 50 = .ok (.ireturn, 1) := by decide +kernel
theorem dX7_lay_0 : decode cX7_lay 0 = .ok (.aload_n 0, 1) := by decide +kernel
theorem dX7_lay_1 : decode cX7_lay 1 = .ok (.iload_n 1, 1) := by decide +kernel
theorem dX7_lay_2 : decode cX7_lay 2 = .ok (.iload_n 2, 1) := by decide +kernel
theorem dX7_lay_3 : decode cX7_lay 3 = .ok (.iload_n 3, 1) := by decide +kernel
theorem dX7_lay_4 : decode cX7_lay 4 = .ok (.invokevirtual 268, 3) := by decide +kernel
theorem dX7_lay_7 : decode cX7_lay 7 = .ok (.istore 5, 2) := by decide +kernel
theorem dX7_lay_9 : decode cX7_lay 9 = .ok (.iload 5, 2) := by decide +kernel
theorem dX7_lay_11 : decode cX7_lay 11 = .ok (.ifCond .eq 6, 3) := by decide +kernel
theorem dX7_lay_14 : decode cX7_lay 14 = .ok (.iload 5, 2) := by decide +kernel
theorem dX7_lay_16 : decode cX7_lay 16 = .ok (.ireturn, 1) := by decide +kernel
theorem dX7_lay_17 : decode cX7_lay 17 = .ok (.aload_n 0, 1) := by decide +kernel
theorem dX7_lay_18 : decode cX7_lay 18 = .ok (.getfield 57, 3) := by decide +kernel
theorem dX7_lay_21 : decode cX7_lay 21 = .ok (.iload_n 1, 1) := by decide +kernel
theorem dX7_lay_22 : decode cX7_lay 22 = .ok (.aaload, 1) := by decide +kernel
theorem dX7_lay_23 : decode cX7_lay 23 = .ok (.iload_n 3, 1) := by decide +kernel
theorem dX7_lay_24 : decode cX7_lay 24 = .ok (.iload 4, 2) := by decide +kernel
theorem dX7_lay_26 : decode cX7_lay 26 = .ok (.invokevirtual 272, 3) := by decide +kernel
theorem dX7_lay_29 : decode cX7_lay 29 = .ok (.iconst 1, 1) := by decide +kernel
theorem dX7_lay_30 : decode cX7_lay 30 = .ok (.ireturn, 1) := by decide +kernel
theorem dX7_get_0 : decode cX7_get 0 = .ok (.aload_n 0, 1) := by decide +kernel
theorem dX7_get_1 : decode cX7_get 1 = .ok (.iload_n 1, 1) := by decide +kernel
theorem dX7_get_2 : decode cX7_get 2 = .ok (.iload_n 2, 1) := by decide +kernel
theorem dX7_get_3 : decode cX7_get 3 = .ok (.iload_n 3, 1) := by decide +kernel
theorem dX7_get_4 : decode cX7_get 4 = .ok (.invokevirtual 268, 3) := by decide +kernel
theorem dX7_get_7 : decode cX7_get 7 = .ok (.ifCond .eq 9, 3) := by decide +kernel
theorem dX7_get_10 : decode cX7_get 10 = .ok (.ldc_w 275, 3) := by decide +kernel
theorem dX7_get_13 : decode cX7_get 13 = .ok (.goto 14, 3) := by decide +kernel
theorem dX7_get_16 : decode cX7_get 16 = .ok (.aload_n 0, 1) := by decide +kernel
theorem dX7_get_17 : decode cX7_get 17 = .ok (.getfield 57, 3) := by decide +kernel
theorem dX7_get_20 : decode cX7_get 20 = .ok (.iload_n 1, 1) := by decide +kernel
theorem dX7_get_21 : decode cX7_get 21 = .ok (.aaload, 1) := by decide +kernel
theorem dX7_get_22 : decode cX7_get 22 = .ok (.getfield 276, 3) := by decide +kernel
theorem dX7_get_25 : decode cX7_get 25 = .ok (.iload_n 3, 1) := by decide +kernel
theorem dX7_get_26 : decode cX7_get 26 = .ok (.iaload, 1) := by decide +kernel
theorem dX7_get_27 : decode cX7_get 27 = .ok (.ireturn, 1) := by decide +kernel
theorem dX7_copy_0 : decode cX7_copy 0 = .ok (.iload_n 1, 1) := by decide +kernel
theorem dX7_copy_1 : decode cX7_copy 1 = .ok (.invokestatic 137, 3) := by decide +kernel
theorem dX7_copy_4 : decode cX7_copy 4 = .ok (.ifCond .eq 10, 3) := by decide +kernel
theorem dX7_copy_7 : decode cX7_copy 7 = .ok (.iload_n 3, 1) := by decide +kernel
theorem dX7_copy_8 : decode cX7_copy 8 = .ok (.invokestatic 137, 3) := by decide +kernel
theorem dX7_copy_11 : decode cX7_copy 11 = .ok (.ifCond .ne 6, 3) := by decide +kernel
theorem dX7_copy_14 : decode cX7_copy 14 = .ok (.bipush (-2), 2) := by decide +kernel
theorem dX7_copy_16 : decode cX7_copy 16 = .ok (.ireturn, 1) := by decide +kernel
theorem dX7_copy_17 : decode cX7_copy 17 = .ok (.aload_n 0, 1) := by decide +kernel
theorem dX7_copy_18 : decode cX7_copy 18 = .ok (.getfield 57, 3) := by decide +kernel
theorem dX7_copy_21 : decode cX7_copy 21 = .ok (.iload_n 1, 1) := by decide +kernel
theorem dX7_copy_22 : decode cX7_copy 22 = .ok (.aaload, 1) := by decide +kernel
theorem dX7_copy_23 : decode cX7_copy 23 = .ok (.invokevirtual 140, 3) := by decide +kernel
theorem dX7_copy_26 : decode cX7_copy 26 = .ok (.ifCond .ne 15, 3) := by decide +kernel
theorem dX7_copy_29 : decode cX7_copy 29 = .ok (.aload_n 0, 1) := by decide +kernel
theorem dX7_copy_30 : decode cX7_copy 30 = .ok (.getfield 57, 3) := by decide +kernel
theorem dX7_copy_33 : decode cX7_copy 33 = .ok (.iload_n 3, 1) := by decide +kernel
theorem dX7_copy_34 : decode cX7_copy 34 = .ok (.aaload, 1) := by decide +kernel
theorem dX7_copy_35 : decode cX7_copy 35 = .ok (.invokevirtual 140, 3) := by decide +kernel
theorem dX7_copy_38 : decode cX7_copy 38 = .ok (.ifCond .eq 9, 3) := by decide +kernel
theorem dX7_copy_41 : decode cX7_copy 41 = .ok (.aload_n 0, 1) := by decide +kernel
theorem dX7_copy_42 : decode cX7_copy 42 = .ok (.iconst 1, 1) := by decide +kernel
theorem dX7_copy_43 : decode cX7_copy 43 = .ok (.invokevirtual 144, 3) := by decide +kernel
theorem dX7_copy_46 : decode cX7_copy 46 = .ok (.ireturn, 1) := by decide +kernel
theorem dX7_copy_47 : decode cX7_copy 47 = .ok (.aload_n 0, 1) := by decide +kernel
theorem dX7_copy_48 : decode cX7_copy 48 = .ok (.getfield 57, 3) := by decide +kernel
theorem dX7_copy_51 : decode cX7_copy 51 = .ok (.iload_n 1, 1) := by decide +kernel
theorem dX7_copy_52 : decode cX7_copy 52 = .ok (.aaload, 1) := by decide +kernel
theorem dX7_copy_53 : decode cX7_copy 53 = .ok (.getfield 279, 3) := by decide +kernel
theorem dX7_copy_56 : decode cX7_copy 56 = .ok (.aload_n 0, 1) := by decide +kernel
theorem dX7_copy_57 : decode cX7_copy 57 = .ok (.getfield 57, 3) := by decide +kernel
theorem dX7_copy_60 : decode cX7_copy 60 = .ok (.iload_n 3, 1) := by decide +kernel
theorem dX7_copy_61 : decode cX7_copy 61 = .ok (.aaload, 1) := by decide +kernel
theorem dX7_copy_62 : decode cX7_copy 62 = .ok (.getfield 279, 3) := by decide +kernel
theorem dX7_copy_65 : decode cX7_copy 65 = .ok (.if_icmp .eq 9, 3) := by decide +kernel
theorem dX7_copy_68 : decode cX7_copy 68 = .ok (.aload_n 0, 1) := by decide +kernel
theorem dX7_copy_69 : decode cX7_copy 69 = .ok (.iconst 4, 1) := by decide +kernel
theorem dX7_copy_70 : decode cX7_copy 70 = .ok (.invokevirtual 144, 3) := by decide +kernel
theorem dX7_copy_73 : decode cX7_copy 73 = .ok (.ireturn, 1) := by decide +kernel
theorem dX7_copy_74 : decode cX7_copy 74 = .ok (.aload_n 0, 1) := by decide +kernel
theorem dX7_copy_75 : decode cX7_copy 75 = .ok (.getfield 57, 3) := by decide +kernel
theorem dX7_copy_78 : decode cX7_copy 78 = .ok (.iload_n 1, 1) := by decide +kernel
theorem dX7_copy_79 : decode cX7_copy 79 = .ok (.aaload, 1) := by decide +kernel
theorem dX7_copy_80 : decode cX7_copy 80 = .ok (.iload_n 2, 1) := by decide +kernel
theorem dX7_copy_81 : decode cX7_copy 81 = .ok (.iload 5, 2) := by decide +kernel
theorem dX7_copy_83 : decode cX7_copy 83 = .ok (.invokevirtual 282, 3) := by decide +kernel
theorem dX7_copy_86 : decode cX7_copy 86 = .ok (.ifCond .eq 19, 3) := by decide +kernel
theorem dX7_copy_89 : decode cX7_copy 89 = .ok (.aload_n 0, 1) := by decide +kernel
theorem dX7_copy_90 : decode cX7_copy 90 = .ok (.getfield 57, 3) := by decide +kernel
theorem dX7_copy_93 : decode cX7_copy 93 = .ok (.iload_n 3, 1) := by decide +kernel
theorem dX7_copy_94 : decode cX7_copy 94 = .ok (.aaload, 1) := by decide +kernel
theorem dX7_copy_95 : decode cX7_copy 95 = .ok (.iload 4, 2) := by decide +kernel
theorem dX7_copy_97 : decode cX7_copy 97 = .ok (.iload 5, 2) := by decide +kernel
theorem dX7_copy_99 : decode cX7_copy 99 = .ok (.invokevirtual 282, 3) := by decide +kernel
theorem dX7_copy_102 : decode cX7_copy 102 = .ok (.ifCond .ne 9, 3) := by decide +kernel
theorem dX7_copy_105 : decode cX7_copy 105 = .ok (.aload_n 0, 1) := by decide +kernel
theorem dX7_copy_106 : decode cX7_copy 106 = .ok (.iconst 2, 1) := by decide +kernel
theorem dX7_copy_107 : decode cX7_copy 107 = .ok (.invokevirtual 144, 3) := by decide +kernel
theorem dX7_copy_110 : decode cX7_copy 110 = .ok (.ireturn, 1) := by decide +kernel
theorem dX7_copy_111 : decode cX7_copy 111 = .ok (.aload_n 0, 1) := by decide +kernel
theorem dX7_copy_112 : decode cX7_copy 112 = .ok (.getfield 57, 3) := by decide +kernel
theorem dX7_copy_115 : decode cX7_copy 115 = .ok (.iload_n 1, 1) := by decide +kernel
theorem dX7_copy_116 : decode cX7_copy 116 = .ok (.aaload, 1) := by decide +kernel
theorem dX7_copy_117 : decode cX7_copy 117 = .ok (.getfield 276, 3) := by decide +kernel
theorem dX7_copy_120 : decode cX7_copy 120 = .ok (.iload_n 2, 1) := by decide +kernel
theorem dX7_copy_121 : decode cX7_copy 121 = .ok (.aload_n 0, 1) := by decide +kernel
theorem dX7_copy_122 : decode cX7_copy 122 = .ok (.getfield 57, 3) := by decide +kernel
theorem dX7_copy_125 : decode cX7_copy 125 = .ok (.iload_n 3, 1) := by decide +kernel
theorem dX7_copy_126 : decode cX7_copy 126 = .ok (.aaload, 1) := by decide +kernel
theorem dX7_copy_127 : decode cX7_copy 127 = .ok (.getfield 276, 3) := by decide +kernel
theorem dX7_copy_130 : decode cX7_copy 130 = .ok (.iload 4, 2) := by decide +kernel
theorem dX7_copy_132 : decode cX7_copy 132 = .ok (.iload 5, 2) := by decide +kernel
theorem dX7_copy_134 : decode cX7_copy 134 = .ok (.invokestatic 285, 3) := by decide +kernel
theorem dX7_copy_137 : decode cX7_copy 137 = .ok (.iconst 1, 1) := by decide +kernel
theorem dX7_copy_138 : decode cX7_copy 138 = .ok (.ireturn, 1) := by decide +kernel
theorem dX7_write_0 : decode cX7_write 0 = .ok (.iload_n 1, 1) := by decide +kernel
theorem dX7_write_1 : decode cX7_write 1 = .ok (.invokestatic 137, 3) := by decide +kernel
theorem dX7_write_4 : decode cX7_write 4 = .ok (.ifCond .ne 6, 3) := by decide +kernel
theorem dX7_write_7 : decode cX7_write 7 = .ok (.bipush (-2), 2) := by decide +kernel
theorem dX7_write_9 : decode cX7_write 9 = .ok (.ireturn, 1) := by decide +kernel
theorem dX7_write_10 : decode cX7_write 10 = .ok (.aload_n 0, 1) := by decide +kernel
theorem dX7_write_11 : decode cX7_write 11 = .ok (.getfield 57, 3) := by decide +kernel
theorem dX7_write_14 : decode cX7_write 14 = .ok (.iload_n 1, 1) := by decide +kernel
theorem dX7_write_15 : decode cX7_write 15 = .ok (.aaload, 1) := by decide +kernel
theorem dX7_write_16 : decode cX7_write 16 = .ok (.invokevirtual 140, 3) := by decide +kernel
theorem dX7_write_19 : decode cX7_write 19 = .ok (.ifCond .eq 9, 3) := by decide +kernel
theorem dX7_write_22 : decode cX7_write 22 = .ok (.aload_n 0, 1) := by decide +kernel
theorem dX7_write_23 : decode cX7_write 23 = .ok (.iconst 1, 1) := by decide +kernel
theorem dX7_write_24 : decode cX7_write 24 = .ok (.invokevirtual 144, 3) := by decide +kernel
theorem dX7_write_27 : decode cX7_write 27 = .ok (.ireturn, 1) := by decide +kernel
theorem dX7_write_28 : decode cX7_write 28 = .ok (.aload_n 0, 1) := by decide +kernel
theorem dX7_write_29 : decode cX7_write 29 = .ok (.iconst (-1), 1) := by decide +kernel
theorem dX7_write_30 : decode cX7_write 30 = .ok (.iconst (-1), 1) := by decide +kernel
theorem dX7_write_31 : decode cX7_write 31 = .ok (.invokevirtual 193, 3) := by decide +kernel
theorem dX7_write_34 : decode cX7_write 34 = .ok (.iconst 0, 1) := by decide +kernel
theorem dX7_write_35 : decode cX7_write 35 = .ok (.istore_n 2, 1) := by decide +kernel
theorem dX7_write_36 : decode cX7_write 36 = .ok (.iload_n 2, 1) := by decide +kernel
theorem dX7_write_37 : decode cX7_write 37 = .ok (.aload_n 0, 1) := by decide +kernel
theorem dX7_write_38 : decode cX7_write 38 = .ok (.getfield 57, 3) := by decide +kernel
theorem dX7_write_41 : decode cX7_write 41 = .ok (.iload_n 1, 1) := by decide +kernel
theorem dX7_write_42 : decode cX7_write 42 = .ok (.aaload, 1) := by decide +kernel
theorem dX7_write_43 : decode cX7_write 43 = .ok (.getfield 265, 3) := by decide +kernel
theorem dX7_write_46 : decode cX7_write 46 = .ok (.if_icmp .ge 28, 3) := by decide +kernel
theorem dX7_write_49 : decode cX7_write 49 = .ok (.aload_n 0, 1) := by decide +kernel
theorem dX7_write_50 : decode cX7_write 50 = .ok (.getfield 57, 3) := by decide +kernel
theorem dX7_write_53 : decode cX7_write 53 = .ok (.iload_n 1, 1) := by decide +kernel
theorem dX7_write_54 : decode cX7_write 54 = .ok (.aaload, 1) := by decide +kernel
theorem dX7_write_55 : decode cX7_write 55 = .ok (.iload_n 2, 1) := by decide +kernel
theorem dX7_write_56 : decode cX7_write 56 = .ok (.aload_n 0, 1) := by decide +kernel
theorem dX7_write_57 : decode cX7_write 57 = .ok (.getfield 42, 3) := by decide +kernel
theorem dX7_write_60 : decode cX7_write 60 = .ok (.getfield 291, 3) := by decide +kernel
theorem dX7_write_63 : decode cX7_write 63 = .ok (.iload_n 2, 1) := by decide +kernel
theorem dX7_write_64 : decode cX7_write 64 = .ok (.iaload, 1) := by decide +kernel
theorem dX7_write_65 : decode cX7_write 65 = .ok (.invokevirtual 272, 3) := by decide +kernel
theorem dX7_write_68 : decode cX7_write 68 = .ok (.iinc 2 1, 3) := by decide +kernel
theorem dX7_write_71 : decode cX7_write 71 = .ok (.goto (-35), 3) := by decide +kernel
theorem dX7_write_74 : decode cX7_write 74 = .ok (.aload_n 0, 1) := by decide +kernel
theorem dX7_write_75 : decode cX7_write 75 = .ok (.getfield 57, 3) := by decide +kernel
theorem dX7_write_78 : decode cX7_write 78 = .ok (.iload_n 1, 1) := by decide +kernel
theorem dX7_write_79 : decode cX7_write 79 = .ok (.aaload, 1) := by decide +kernel
theorem dX7_write_80 : decode cX7_write 80 = .ok (.getfield 265, 3) := by decide +kernel
theorem dX7_write_83 : decode cX7_write 83 = .ok (.ireturn, 1) := by decide +kernel
theorem dX7_count_0 : decode cX7_count 0 = .ok (.iload_n 1, 1) := by decide +kernel
theorem dX7_count_1 : decode cX7_count 1 = .ok (.tableswitch 138 0 8 #[51, 59, 70, 81, 92, 103, 114, 125, 133], 51) := by decide +kernel
theorem dX7_count_52 : decode cX7_count 52 = .ok (.aload_n 0, 1) := by decide +kernel
theorem dX7_count_53 : decode cX7_count 53 = .ok (.getfield 10, 3) := by decide +kernel
theorem dX7_count_56 : decode cX7_count 56 = .ok (.getfield 82, 3) := by decide +kernel
theorem dX7_count_59 : decode cX7_count 59 = .ok (.ireturn, 1) := by decide +kernel
theorem dX7_count_60 : decode cX7_count 60 = .ok (.aload_n 0, 1) := by decide +kernel
theorem dX7_count_61 : decode cX7_count 61 = .ok (.getfield 10, 3) := by decide +kernel
theorem dX7_count_64 : decode cX7_count 64 = .ok (.getfield 111, 3) := by decide +kernel
theorem dX7_count_67 : decode cX7_count 67 = .ok (.invokestatic 294, 3) := by decide +kernel
theorem dX7_count_70 : decode cX7_count 70 = .ok (.ireturn, 1) := by decide +kernel
theorem dX7_count_71 : decode cX7_count 71 = .ok (.aload_n 0, 1) := by decide +kernel
theorem dX7_count_72 : decode cX7_count 72 = .ok (.getfield 10, 3) := by decide +kernel
theorem dX7_count_75 : decode cX7_count 75 = .ok (.getfield 158, 3) := by decide +kernel
theorem dX7_count_78 : decode cX7_count 78 = .ok (.invokestatic 294, 3) := by decide +kernel
theorem dX7_count_81 : decode cX7_count 81 = .ok (.ireturn, 1) := by decide +kernel
theorem dX7_count_82 : decode cX7_count 82 = .ok (.aload_n 0, 1) := by decide +kernel
theorem dX7_count_83 : decode cX7_count 83 = .ok (.getfield 19, 3) := by decide +kernel
theorem dX7_count_86 : decode cX7_count 86 = .ok (.getfield 98, 3) := by decide +kernel
theorem dX7_count_89 : decode cX7_count 89 = .ok (.invokestatic 299, 3) := by decide +kernel
theorem dX7_count_92 : decode cX7_count 92 = .ok (.ireturn, 1) := by decide +kernel
theorem dX7_count_93 : decode cX7_count 93 = .ok (.aload_n 0, 1) := by decide +kernel
theorem dX7_count_94 : decode cX7_count 94 = .ok (.getfield 19, 3) := by decide +kernel
theorem dX7_count_97 : decode cX7_count 97 = .ok (.getfield 102, 3) := by decide +kernel
theorem dX7_count_100 : decode cX7_count 100 = .ok (.invokestatic 299, 3) := by decide +kernel
theorem dX7_count_103 : decode cX7_count 103 = .ok (.ireturn, 1) := by decide +kernel
theorem dX7_count_104 : decode cX7_count 104 = .ok (.aload_n 0, 1) := by decide +kernel
theorem dX7_count_105 : decode cX7_count 105 = .ok (.getfield 19, 3) := by decide +kernel
theorem dX7_count_108 : decode cX7_count 108 = .ok (.getfield 105, 3) := by decide +kernel
theorem dX7_count_111 : decode cX7_count 111 = .ok (.invokestatic 299, 3) := by decide +kernel
theorem dX7_count_114 : decode cX7_count 114 = .ok (.ireturn, 1) := by decide +kernel
theorem dX7_count_115 : decode cX7_count 115 = .ok (.aload_n 0, 1) := by decide +kernel
theorem dX7_count_116 : decode cX7_count 116 = .ok (.getfield 19, 3) := by decide +kernel
theorem dX7_count_119 : decode cX7_count 119 = .ok (.getfield 108, 3) := by decide +kernel
theorem dX7_count_122 : decode cX7_count 122 = .ok (.invokestatic 299, 3) := by decide +kernel
theorem dX7_count_125 : decode cX7_count 125 = .ok (.ireturn, 1) := by decide +kernel
theorem dX7_count_126 : decode cX7_count 126 = .ok (.aload_n 0, 1) := by decide +kernel
theorem dX7_count_127 : decode cX7_count 127 = .ok (.getfield 26, 3) := by decide +kernel
theorem dX7_count_130 : decode cX7_count 130 = .ok (.getfield 155, 3) := by decide +kernel
theorem dX7_count_133 : decode cX7_count 133 = .ok (.ireturn, 1) := by decide +kernel
theorem dX7_count_134 : decode cX7_count 134 = .ok (.aload_n 0, 1) := by decide +kernel
theorem dX7_count_135 : decode cX7_count 135 = .ok (.getfield 61, 3) := by decide +kernel
theorem dX7_count_138 : decode cX7_count 138 = .ok (.ireturn, 1) := by decide +kernel
theorem dX7_count_139 : decode cX7_count 139 = .ok (.bipush (-2), 2) := by decide +kernel
theorem dX7_count_141 : decode cX7_count 141 = .ok (.ireturn, 1) := by decide +kernel
theorem dX7_digest_0 : decode cX7_digest 0 = .ok (.ldc2_w 303, 3) := by decide +kernel
theorem dX7_digest_3 : decode cX7_digest 3 = .ok (.lstore_n 1, 1) := by decide +kernel
theorem dX7_digest_4 : decode cX7_digest 4 = .ok (.iconst 0, 1) := by decide +kernel
theorem dX7_digest_5 : decode cX7_digest 5 = .ok (.istore_n 3, 1) := by decide +kernel
theorem dX7_digest_6 : decode cX7_digest 6 = .ok (.iload_n 3, 1) := by decide +kernel
theorem dX7_digest_7 : decode cX7_digest 7 = .ok (.bipush 7, 2) := by decide +kernel
theorem dX7_digest_9 : decode cX7_digest 9 = .ok (.if_icmp .gt 22, 3) := by decide +kernel
theorem dX7_digest_12 : decode cX7_digest 12 = .ok (.ldc2_w 305, 3) := by decide +kernel
theorem dX7_digest_15 : decode cX7_digest 15 = .ok (.lload_n 1, 1) := by decide +kernel
theorem dX7_digest_16 : decode cX7_digest 16 = .ok (.lmul, 1) := by decide +kernel
theorem dX7_digest_17 : decode cX7_digest 17 = .ok (.aload_n 0, 1) := by decide +kernel
theorem dX7_digest_18 : decode cX7_digest 18 = .ok (.iload_n 3, 1) := by decide +kernel
theorem dX7_digest_19 : decode cX7_digest 19 = .ok (.invokevirtual 307, 3) := by decide +kernel
theorem dX7_digest_22 : decode cX7_digest 22 = .ok (.i2l, 1) := by decide +kernel
theorem dX7_digest_23 : decode cX7_digest 23 = .ok (.ladd, 1) := by decide +kernel
theorem dX7_digest_24 : decode cX7_digest 24 = .ok (.lstore_n 1, 1) := by decide +kernel
theorem dX7_digest_25 : decode cX7_digest 25 = .ok (.iinc 3 1, 3) := by decide +kernel
theorem dX7_digest_28 : decode cX7_digest 28 = .ok (.goto (-22), 3) := by decide +kernel
theorem dX7_digest_31 : decode cX7_digest 31 = .ok (.ldc2_w 305, 3) := by decide +kernel
theorem dX7_digest_34 : decode cX7_digest 34 = .ok (.lload_n 1, 1) := by decide +kernel
theorem dX7_digest_35 : decode cX7_digest 35 = .ok (.lmul, 1) := by decide +kernel
theorem dX7_digest_36 : decode cX7_digest 36 = .ok (.aload_n 0, 1) := by decide +kernel
theorem dX7_digest_37 : decode cX7_digest 37 = .ok (.invokevirtual 310, 3) := by decide +kernel
theorem dX7_digest_40 : decode cX7_digest 40 = .ok (.i2l, 1) := by decide +kernel
theorem dX7_digest_41 : decode cX7_digest 41 = .ok (.ladd, 1) := by decide +kernel
theorem dX7_digest_42 : decode cX7_digest 42 = .ok (.lstore_n 1, 1) := by decide +kernel
theorem dX7_digest_43 : decode cX7_digest 43 = .ok (.iconst 0, 1) := by decide +kernel
theorem dX7_digest_44 : decode cX7_digest 44 = .ok (.istore_n 3, 1) := by decide +kernel
theorem dX7_digest_45 : decode cX7_digest 45 = .ok (.iload_n 3, 1) := by decide +kernel
theorem dX7_digest_46 : decode cX7_digest 46 = .ok (.bipush 64, 2) := by decide +kernel
theorem dX7_digest_48 : decode cX7_digest 48 = .ok (.if_icmp .ge 39, 3) := by decide +kernel
theorem dX7_digest_51 : decode cX7_digest 51 = .ok (.iconst 0, 1) := by decide +kernel
theorem dX7_digest_52 : decode cX7_digest 52 = .ok (.istore 4, 2) := by decide +kernel
theorem dX7_digest_54 : decode cX7_digest 54 = .ok (.iload 4, 2) := by decide +kernel
theorem dX7_digest_56 : decode cX7_digest 56 = .ok (.iconst 4, 1) := by decide +kernel
theorem dX7_digest_57 : decode cX7_digest 57 = .ok (.if_icmp .gt 24, 3) := by decide +kernel
theorem dX7_digest_60 : decode cX7_digest 60 = .ok (.ldc2_w 305, 3) := by decide +kernel
theorem dX7_digest_63 : decode cX7_digest 63 = .ok (.lload_n 1, 1) := by decide +kernel
theorem dX7_digest_64 : decode cX7_digest 64 = .ok (.lmul, 1) := by decide +kernel
theorem dX7_digest_65 : decode cX7_digest 65 = .ok (.aload_n 0, 1) := by decide +kernel
theorem dX7_digest_66 : decode cX7_digest 66 = .ok (.iload_n 3, 1) := by decide +kernel
theorem dX7_digest_67 : decode cX7_digest 67 = .ok (.iload 4, 2) := by decide +kernel
theorem dX7_digest_69 : decode cX7_digest 69 = .ok (.invokevirtual 313, 3) := by decide +kernel
theorem dX7_digest_72 : decode cX7_digest 72 = .ok (.i2l, 1) := by decide +kernel
theorem dX7_digest_73 : decode cX7_digest 73 = .ok (.ladd, 1) := by decide +kernel
theorem dX7_digest_74 : decode cX7_digest 74 = .ok (.lstore_n 1, 1) := by decide +kernel
theorem dX7_digest_75 : decode cX7_digest 75 = .ok (.iinc 4 1, 3) := by decide +kernel
theorem dX7_digest_78 : decode cX7_digest 78 = .ok (.goto (-24), 3) := by decide +kernel
theorem dX7_digest_81 : decode cX7_digest 81 = .ok (.iinc 3 1, 3) := by decide +kernel
theorem dX7_digest_84 : decode cX7_digest 84 = .ok (.goto (-39), 3) := by decide +kernel
theorem dX7_digest_87 : decode cX7_digest 87 = .ok (.iconst 0, 1) := by decide +kernel
theorem dX7_digest_88 : decode cX7_digest 88 = .ok (.istore_n 3, 1) := by decide +kernel
theorem dX7_digest_89 : decode cX7_digest 89 = .ok (.iload_n 3, 1) := by decide +kernel
theorem dX7_digest_90 : decode cX7_digest 90 = .ok (.aload_n 0, 1) := by decide +kernel
theorem dX7_digest_91 : decode cX7_digest 91 = .ok (.getfield 26, 3) := by decide +kernel
theorem dX7_digest_94 : decode cX7_digest 94 = .ok (.getfield 155, 3) := by decide +kernel
theorem dX7_digest_97 : decode cX7_digest 97 = .ok (.if_icmp .ge 53, 3) := by decide +kernel
theorem dX7_digest_100 : decode cX7_digest 100 = .ok (.ldc2_w 305, 3) := by decide +kernel
theorem dX7_digest_103 : decode cX7_digest 103 = .ok (.lload_n 1, 1) := by decide +kernel
theorem dX7_digest_104 : decode cX7_digest 104 = .ok (.lmul, 1) := by decide +kernel
theorem dX7_digest_105 : decode cX7_digest 105 = .ok (.aload_n 0, 1) := by decide +kernel
theorem dX7_digest_106 : decode cX7_digest 106 = .ok (.iload_n 3, 1) := by decide +kernel
theorem dX7_digest_107 : decode cX7_digest 107 = .ok (.invokevirtual 316, 3) := by decide +kernel
theorem dX7_digest_110 : decode cX7_digest 110 = .ok (.i2l, 1) := by decide +kernel
theorem dX7_digest_111 : decode cX7_digest 111 = .ok (.ladd, 1) := by decide +kernel
theorem dX7_digest_112 : decode cX7_digest 112 = .ok (.lstore_n 1, 1) := by decide +kernel
theorem dX7_digest_113 : decode cX7_digest 113 = .ok (.ldc2_w 305, 3) := by decide +kernel
theorem dX7_digest_116 : decode cX7_digest 116 = .ok (.lload_n 1, 1) := by decide +kernel
theorem dX7_digest_117 : decode cX7_digest 117 = .ok (.lmul, 1) := by decide +kernel
theorem dX7_digest_118 : decode cX7_digest 118 = .ok (.aload_n 0, 1) := by decide +kernel
theorem dX7_digest_119 : decode cX7_digest 119 = .ok (.aload_n 0, 1) := by decide +kernel
theorem dX7_digest_120 : decode cX7_digest 120 = .ok (.getfield 26, 3) := by decide +kernel
theorem dX7_digest_123 : decode cX7_digest 123 = .ok (.getfield 176, 3) := by decide +kernel
theorem dX7_digest_126 : decode cX7_digest 126 = .ok (.iload_n 3, 1) := by decide +kernel
theorem dX7_digest_127 : decode cX7_digest 127 = .ok (.iaload, 1) := by decide +kernel
theorem dX7_digest_128 : decode cX7_digest 128 = .ok (.aload_n 0, 1) := by decide +kernel
theorem dX7_digest_129 : decode cX7_digest 129 = .ok (.getfield 26, 3) := by decide +kernel
theorem dX7_digest_132 : decode cX7_digest 132 = .ok (.getfield 179, 3) := by decide +kernel
theorem dX7_digest_135 : decode cX7_digest 135 = .ok (.iload_n 3, 1) := by decide +kernel
theorem dX7_digest_136 : decode cX7_digest 136 = .ok (.iaload, 1) := by decide +kernel
theorem dX7_digest_137 : decode cX7_digest 137 = .ok (.iconst (-1), 1) := by decide +kernel
theorem dX7_digest_138 : decode cX7_digest 138 = .ok (.invokevirtual 319, 3) := by decide +kernel
theorem dX7_digest_141 : decode cX7_digest 141 = .ok (.i2l, 1) := by decide +kernel
theorem dX7_digest_142 : decode cX7_digest 142 = .ok (.ladd, 1) := by decide +kernel
theorem dX7_digest_143 : decode cX7_digest 143 = .ok (.lstore_n 1, 1) := by decide +kernel
theorem dX7_digest_144 : decode cX7_digest 144 = .ok (.iinc 3 1, 3) := by decide +kernel
theorem dX7_digest_147 : decode cX7_digest 147 = .ok (.goto (-58), 3) := by decide +kernel
theorem dX7_digest_150 : decode cX7_digest 150 = .ok (.aload_n 0, 1) := by decide +kernel
theorem dX7_digest_151 : decode cX7_digest 151 = .ok (.iconst (-1), 1) := by decide +kernel
theorem dX7_digest_152 : decode cX7_digest 152 = .ok (.iconst (-1), 1) := by decide +kernel
theorem dX7_digest_153 : decode cX7_digest 153 = .ok (.invokevirtual 193, 3) := by decide +kernel
theorem dX7_digest_156 : decode cX7_digest 156 = .ok (.iconst 0, 1) := by decide +kernel
theorem dX7_digest_157 : decode cX7_digest 157 = .ok (.istore_n 3, 1) := by decide +kernel
theorem dX7_digest_158 : decode cX7_digest 158 = .ok (.iload_n 3, 1) := by decide +kernel
theorem dX7_digest_159 : decode cX7_digest 159 = .ok (.iconst 3, 1) := by decide +kernel
theorem dX7_digest_160 : decode cX7_digest 160 = .ok (.if_icmp .gt 22, 3) := by decide +kernel
theorem dX7_digest_163 : decode cX7_digest 163 = .ok (.ldc2_w 305, 3) := by decide +kernel
theorem dX7_digest_166 : decode cX7_digest 166 = .ok (.lload_n 1, 1) := by decide +kernel
theorem dX7_digest_167 : decode cX7_digest 167 = .ok (.lmul, 1) := by decide +kernel
theorem dX7_digest_168 : decode cX7_digest 168 = .ok (.aload_n 0, 1) := by decide +kernel
theorem dX7_digest_169 : decode cX7_digest 169 = .ok (.iload_n 3, 1) := by decide +kernel
theorem dX7_digest_170 : decode cX7_digest 170 = .ok (.invokevirtual 197, 3) := by decide +kernel
theorem dX7_digest_173 : decode cX7_digest 173 = .ok (.i2l, 1) := by decide +kernel
theorem dX7_digest_174 : decode cX7_digest 174 = .ok (.ladd, 1) := by decide +kernel
theorem dX7_digest_175 : decode cX7_digest 175 = .ok (.lstore_n 1, 1) := by decide +kernel
theorem dX7_digest_176 : decode cX7_digest 176 = .ok (.iinc 3 1, 3) := by decide +kernel
theorem dX7_digest_179 : decode cX7_digest 179 = .ok (.goto (-21), 3) := by decide +kernel
theorem dX7_digest_182 : decode cX7_digest 182 = .ok (.ldc2_w 305, 3) := by decide +kernel
theorem dX7_digest_185 : decode cX7_digest 185 = .ok (.lload_n 1, 1) := by decide +kernel
theorem dX7_digest_186 : decode cX7_digest 186 = .ok (.lmul, 1) := by decide +kernel
theorem dX7_digest_187 : decode cX7_digest 187 = .ok (.aload_n 0, 1) := by decide +kernel
theorem dX7_digest_188 : decode cX7_digest 188 = .ok (.invokevirtual 322, 3) := by decide +kernel
theorem dX7_digest_191 : decode cX7_digest 191 = .ok (.i2l, 1) := by decide +kernel
theorem dX7_digest_192 : decode cX7_digest 192 = .ok (.ladd, 1) := by decide +kernel
theorem dX7_digest_193 : decode cX7_digest 193 = .ok (.lstore_n 1, 1) := by decide +kernel
theorem dX7_digest_194 : decode cX7_digest 194 = .ok (.ldc2_w 305, 3) := by decide +kernel
theorem dX7_digest_197 : decode cX7_digest 197 = .ok (.lload_n 1, 1) := by decide +kernel
theorem dX7_digest_198 : decode cX7_digest 198 = .ok (.lmul, 1) := by decide +kernel
theorem dX7_digest_199 : decode cX7_digest 199 = .ok (.aload_n 0, 1) := by decide +kernel
theorem dX7_digest_200 : decode cX7_digest 200 = .ok (.iconst 0, 1) := by decide +kernel
theorem dX7_digest_201 : decode cX7_digest 201 = .ok (.invokevirtual 325, 3) := by decide +kernel
theorem dX7_digest_204 : decode cX7_digest 204 = .ok (.i2l, 1) := by decide +kernel
theorem dX7_digest_205 : decode cX7_digest 205 = .ok (.ladd, 1) := by decide +kernel
theorem dX7_digest_206 : decode cX7_digest 206 = .ok (.lstore_n 1, 1) := by decide +kernel
theorem dX7_digest_207 : decode cX7_digest 207 = .ok (.ldc2_w 305, 3) := by decide +kernel
theorem dX7_digest_210 : decode cX7_digest 210 = .ok (.lload_n 1, 1) := by decide +kernel
theorem dX7_digest_211 : decode cX7_digest 211 = .ok (.lmul, 1) := by decide +kernel
theorem dX7_digest_212 : decode cX7_digest 212 = .ok (.aload_n 0, 1) := by decide +kernel
theorem dX7_digest_213 : decode cX7_digest 213 = .ok (.iconst 1, 1) := by decide +kernel
theorem dX7_digest_214 : decode cX7_digest 214 = .ok (.invokevirtual 325, 3) := by decide +kernel
theorem dX7_digest_217 : decode cX7_digest 217 = .ok (.i2l, 1) := by decide +kernel
theorem dX7_digest_218 : decode cX7_digest 218 = .ok (.ladd, 1) := by decide +kernel
theorem dX7_digest_219 : decode cX7_digest 219 = .ok (.lstore_n 1, 1) := by decide +kernel
theorem dX7_digest_220 : decode cX7_digest 220 = .ok (.aload_n 0, 1) := by decide +kernel
theorem dX7_digest_221 : decode cX7_digest 221 = .ok (.invokevirtual 222, 3) := by decide +kernel
theorem dX7_digest_224 : decode cX7_digest 224 = .ok (.ldc2_w 305, 3) := by decide +kernel
theorem dX7_digest_227 : decode cX7_digest 227 = .ok (.lload_n 1, 1) := by decide +kernel
theorem dX7_digest_228 : decode cX7_digest 228 = .ok (.lmul, 1) := by decide +kernel
theorem dX7_digest_229 : decode cX7_digest 229 = .ok (.aload_n 0, 1) := by decide +kernel
theorem dX7_digest_230 : decode cX7_digest 230 = .ok (.getfield 71, 3) := by decide +kernel
theorem dX7_digest_233 : decode cX7_digest 233 = .ok (.i2l, 1) := by decide +kernel
theorem dX7_digest_234 : decode cX7_digest 234 = .ok (.ladd, 1) := by decide +kernel
theorem dX7_digest_235 : decode cX7_digest 235 = .ok (.lstore_n 1, 1) := by decide +kernel
theorem dX7_digest_236 : decode cX7_digest 236 = .ok (.ldc2_w 305, 3) := by decide +kernel
theorem dX7_digest_239 : decode cX7_digest 239 = .ok (.lload_n 1, 1) := by decide +kernel
theorem dX7_digest_240 : decode cX7_digest 240 = .ok (.lmul, 1) := by decide +kernel
theorem dX7_digest_241 : decode cX7_digest 241 = .ok (.aload_n 0, 1) := by decide +kernel
theorem dX7_digest_242 : decode cX7_digest 242 = .ok (.getfield 74, 3) := by decide +kernel
theorem dX7_digest_245 : decode cX7_digest 245 = .ok (.i2l, 1) := by decide +kernel
theorem dX7_digest_246 : decode cX7_digest 246 = .ok (.ladd, 1) := by decide +kernel
theorem dX7_digest_247 : decode cX7_digest 247 = .ok (.lstore_n 1, 1) := by decide +kernel
theorem dX7_digest_248 : decode cX7_digest 248 = .ok (.ldc2_w 305, 3) := by decide +kernel
theorem dX7_digest_251 : decode cX7_digest 251 = .ok (.lload_n 1, 1) := by decide +kernel
theorem dX7_digest_252 : decode cX7_digest 252 = .ok (.lmul, 1) := by decide +kernel
theorem dX7_digest_253 : decode cX7_digest 253 = .ok (.aload_n 0, 1) := by decide +kernel
theorem dX7_digest_254 : decode cX7_digest 254 = .ok (.iconst 0, 1) := by decide +kernel
theorem dX7_digest_255 : decode cX7_digest 255 = .ok (.invokevirtual 328, 3) := by decide +kernel
theorem dX7_digest_258 : decode cX7_digest 258 = .ok (.ladd, 1) := by decide +kernel
theorem dX7_digest_259 : decode cX7_digest 259 = .ok (.lstore_n 1, 1) := by decide +kernel
theorem dX7_digest_260 : decode cX7_digest 260 = .ok (.ldc2_w 305, 3) := by decide +kernel
theorem dX7_digest_263 : decode cX7_digest 263 = .ok (.lload_n 1, 1) := by decide +kernel
theorem dX7_digest_264 : decode cX7_digest 264 = .ok (.lmul, 1) := by decide +kernel
theorem dX7_digest_265 : decode cX7_digest 265 = .ok (.aload_n 0, 1) := by decide +kernel
theorem dX7_digest_266 : decode cX7_digest 266 = .ok (.iconst 1, 1) := by decide +kernel
theorem dX7_digest_267 : decode cX7_digest 267 = .ok (.invokevirtual 328, 3) := by decide +kernel
theorem dX7_digest_270 : decode cX7_digest 270 = .ok (.ladd, 1) := by decide +kernel
theorem dX7_digest_271 : decode cX7_digest 271 = .ok (.lstore_n 1, 1) := by decide +kernel
theorem dX7_digest_272 : decode cX7_digest 272 = .ok (.ldc2_w 305, 3) := by decide +kernel
theorem dX7_digest_275 : decode cX7_digest 275 = .ok (.lload_n 1, 1) := by decide +kernel
theorem dX7_digest_276 : decode cX7_digest 276 = .ok (.lmul, 1) := by decide +kernel
theorem dX7_digest_277 : decode cX7_digest 277 = .ok (.aload_n 0, 1) := by decide +kernel
theorem dX7_digest_278 : decode cX7_digest 278 = .ok (.iconst 2, 1) := by decide +kernel
theorem dX7_digest_279 : decode cX7_digest 279 = .ok (.iconst 0, 1) := by decide +kernel
theorem dX7_digest_280 : decode cX7_digest 280 = .ok (.invokevirtual 225, 3) := by decide +kernel
theorem dX7_digest_283 : decode cX7_digest 283 = .ok (.ladd, 1) := by decide +kernel
theorem dX7_digest_284 : decode cX7_digest 284 = .ok (.lstore_n 1, 1) := by decide +kernel
theorem dX7_digest_285 : decode cX7_digest 285 = .ok (.ldc2_w 305, 3) := by decide +kernel
theorem dX7_digest_288 : decode cX7_digest 288 = .ok (.lload_n 1, 1) := by decide +kernel
theorem dX7_digest_289 : decode cX7_digest 289 = .ok (.lmul, 1) := by decide +kernel
theorem dX7_digest_290 : decode cX7_digest 290 = .ok (.aload_n 0, 1) := by decide +kernel
theorem dX7_digest_291 : decode cX7_digest 291 = .ok (.iconst 2, 1) := by decide +kernel
theorem dX7_digest_292 : decode cX7_digest 292 = .ok (.iconst 1, 1) := by decide +kernel
theorem dX7_digest_293 : decode cX7_digest 293 = .ok (.invokevirtual 225, 3) := by decide +kernel
theorem dX7_digest_296 : decode cX7_digest 296 = .ok (.ladd, 1) := by decide +kernel
theorem dX7_digest_297 : decode cX7_digest 297 = .ok (.lstore_n 1, 1) := by decide +kernel
theorem dX7_digest_298 : decode cX7_digest 298 = .ok (.lload_n 1, 1) := by decide +kernel
theorem dX7_digest_299 : decode cX7_digest 299 = .ok (.lreturn, 1) := by decide +kernel
theorem dX7_tryMorning_0 : decode cX7_tryMorning 0 = .ok (.aload_n 0, 1) := by decide +kernel
theorem dX7_tryMorning_1 : decode cX7_tryMorning 1 = .ok (.getfield 42, 3) := by decide +kernel
theorem dX7_tryMorning_4 : decode cX7_tryMorning 4 = .ok (.aload_n 0, 1) := by decide +kernel
theorem dX7_tryMorning_5 : decode cX7_tryMorning 5 = .ok (.getfield 19, 3) := by decide +kernel
theorem dX7_tryMorning_8 : decode cX7_tryMorning 8 = .ok (.getfield 98, 3) := by decide +kernel
theorem dX7_tryMorning_11 : decode cX7_tryMorning 11 = .ok (.invokevirtual 172, 3) := by decide +kernel
theorem dX7_tryMorning_14 : decode cX7_tryMorning 14 = .ok (.iload_n 2, 1) := by decide +kernel
theorem dX7_tryMorning_15 : decode cX7_tryMorning 15 = .ok (.invokestatic 91, 3) := by decide +kernel
theorem dX7_tryMorning_18 : decode cX7_tryMorning 18 = .ok (.ifCond .eq 13, 3) := by decide +kernel
theorem dX7_tryMorning_21 : decode cX7_tryMorning 21 = .ok (.aload_n 0, 1) := by decide +kernel
theorem dX7_tryMorning_22 : decode cX7_tryMorning 22 = .ok (.getfield 42, 3) := by decide +kernel
theorem dX7_tryMorning_25 : decode cX7_tryMorning 25 = .ok (.getfield 331, 3) := by decide +kernel
theorem dX7_tryMorning_28 : decode cX7_tryMorning 28 = .ok (.iload_n 2, 1) := by decide +kernel
theorem dX7_tryMorning_29 : decode cX7_tryMorning 29 = .ok (.iconst 0, 1) := by decide +kernel
theorem dX7_tryMorning_30 : decode cX7_tryMorning 30 = .ok (.iastore, 1) := by decide +kernel
theorem dX7_tryMorning_31 : decode cX7_tryMorning 31 = .ok (.aload_n 0, 1) := by decide +kernel
theorem dX7_tryMorning_32 : decode cX7_tryMorning 32 = .ok (.iload_n 1, 1) := by decide +kernel
theorem dX7_tryMorning_33 : decode cX7_tryMorning 33 = .ok (.invokevirtual 169, 3) := by decide +kernel
theorem dX7_tryMorning_36 : decode cX7_tryMorning 36 = .ok (.ifCond .eq 36, 3) := by decide +kernel
theorem dX7_tryMorning_39 : decode cX7_tryMorning 39 = .ok (.aload_n 0, 1) := by decide +kernel
theorem dX7_tryMorning_40 : decode cX7_tryMorning 40 = .ok (.getfield 42, 3) := by decide +kernel
theorem dX7_tryMorning_43 : decode cX7_tryMorning 43 = .ok (.aload_n 0, 1) := by decide +kernel
theorem dX7_tryMorning_44 : decode cX7_tryMorning 44 = .ok (.getfield 26, 3) := by decide +kernel
theorem dX7_tryMorning_47 : decode cX7_tryMorning 47 = .ok (.getfield 176, 3) := by decide +kernel
theorem dX7_tryMorning_50 : decode cX7_tryMorning 50 = .ok (.iload_n 1, 1) := by decide +kernel
theorem dX7_tryMorning_51 : decode cX7_tryMorning 51 = .ok (.iaload, 1) := by decide +kernel
theorem dX7_tryMorning_52 : decode cX7_tryMorning 52 = .ok (.aload_n 0, 1) := by decide +kernel
theorem dX7_tryMorning_53 : decode cX7_tryMorning 53 = .ok (.getfield 26, 3) := by decide +kernel
theorem dX7_tryMorning_56 : decode cX7_tryMorning 56 = .ok (.getfield 179, 3) := by decide +kernel
theorem dX7_tryMorning_59 : decode cX7_tryMorning 59 = .ok (.iload_n 1, 1) := by decide +kernel
theorem dX7_tryMorning_60 : decode cX7_tryMorning 60 = .ok (.iaload, 1) := by decide +kernel
theorem dX7_tryMorning_61 : decode cX7_tryMorning 61 = .ok (.aload_n 0, 1) := by decide +kernel
theorem dX7_tryMorning_62 : decode cX7_tryMorning 62 = .ok (.getfield 10, 3) := by decide +kernel
theorem dX7_tryMorning_65 : decode cX7_tryMorning 65 = .ok (.getfield 158, 3) := by decide +kernel
theorem dX7_tryMorning_68 : decode cX7_tryMorning 68 = .ok (.invokevirtual 182, 3) := by decide +kernel
theorem dX7_tryMorning_71 : decode cX7_tryMorning 71 = .ok (.pop, 1) := by decide +kernel
theorem dX7_tryMorning_72 : decode cX7_tryMorning 72 = .ok (.iconst 0, 1) := by decide +kernel
theorem dX7_tryMorning_73 : decode cX7_tryMorning 73 = .ok (.istore_n 3, 1) := by decide +kernel
theorem dX7_tryMorning_74 : decode cX7_tryMorning 74 = .ok (.iload_n 3, 1) := by decide +kernel
theorem dX7_tryMorning_75 : decode cX7_tryMorning 75 = .ok (.aload_n 0, 1) := by decide +kernel
theorem dX7_tryMorning_76 : decode cX7_tryMorning 76 = .ok (.getfield 26, 3) := by decide +kernel
theorem dX7_tryMorning_79 : decode cX7_tryMorning 79 = .ok (.getfield 155, 3) := by decide +kernel
theorem dX7_tryMorning_82 : decode cX7_tryMorning 82 = .ok (.if_icmp .ge 47, 3) := by decide +kernel
theorem dX7_tryMorning_85 : decode cX7_tryMorning 85 = .ok (.iload_n 3, 1) := by decide +kernel
theorem dX7_tryMorning_86 : decode cX7_tryMorning 86 = .ok (.iload_n 1, 1) := by decide +kernel
theorem dX7_tryMorning_87 : decode cX7_tryMorning 87 = .ok (.if_icmp .eq 36, 3) := by decide +kernel
theorem dX7_tryMorning_90 : decode cX7_tryMorning 90 = .ok (.aload_n 0, 1) := by decide +kernel
theorem dX7_tryMorning_91 : decode cX7_tryMorning 91 = .ok (.getfield 42, 3) := by decide +kernel
theorem dX7_tryMorning_94 : decode cX7_tryMorning 94 = .ok (.aload_n 0, 1) := by decide +kernel
theorem dX7_tryMorning_95 : decode cX7_tryMorning 95 = .ok (.getfield 26, 3) := by decide +kernel
theorem dX7_tryMorning_98 : decode cX7_tryMorning 98 = .ok (.getfield 176, 3) := by decide +kernel
theorem dX7_tryMorning_101 : decode cX7_tryMorning 101 = .ok (.iload_n 3, 1) := by decide +kernel
theorem dX7_tryMorning_102 : decode cX7_tryMorning 102 = .ok (.iaload, 1) := by decide +kernel
theorem dX7_tryMorning_103 : decode cX7_tryMorning 103 = .ok (.aload_n 0, 1) := by decide +kernel
theorem dX7_tryMorning_104 : decode cX7_tryMorning 104 = .ok (.getfield 26, 3) := by decide +kernel
theorem dX7_tryMorning_107 : decode cX7_tryMorning 107 = .ok (.getfield 179, 3) := by decide +kernel
theorem dX7_tryMorning_110 : decode cX7_tryMorning 110 = .ok (.iload_n 3, 1) := by decide +kernel
theorem dX7_tryMorning_111 : decode cX7_tryMorning 111 = .ok (.iaload, 1) := by decide +kernel
theorem dX7_tryMorning_112 : decode cX7_tryMorning 112 = .ok (.aload_n 0, 1) := by decide +kernel
theorem dX7_tryMorning_113 : decode cX7_tryMorning 113 = .ok (.getfield 10, 3) := by decide +kernel
theorem dX7_tryMorning_116 : decode cX7_tryMorning 116 = .ok (.getfield 158, 3) := by decide +kernel
theorem dX7_tryMorning_119 : decode cX7_tryMorning 119 = .ok (.invokevirtual 182, 3) := by decide +kernel
theorem dX7_tryMorning_122 : decode cX7_tryMorning 122 = .ok (.pop, 1) := by decide +kernel
theorem dX7_tryMorning_123 : decode cX7_tryMorning 123 = .ok (.iinc 3 1, 3) := by decide +kernel
theorem dX7_tryMorning_126 : decode cX7_tryMorning 126 = .ok (.goto (-52), 3) := by decide +kernel
theorem dX7_tryMorning_129 : decode cX7_tryMorning 129 = .ok (.return_, 1) := by decide +kernel
theorem dX7_told_0 : decode cX7_told 0 = .ok (.iload_n 1, 1) := by decide +kernel
theorem dX7_told_1 : decode cX7_told 1 = .ok (.tableswitch 51 0 2 #[27, 35, 43], 27) := by decide +kernel
theorem dX7_told_28 : decode cX7_told 28 = .ok (.aload_n 0, 1) := by decide +kernel
theorem dX7_told_29 : decode cX7_told 29 = .ok (.getfield 42, 3) := by decide +kernel
theorem dX7_told_32 : decode cX7_told 32 = .ok (.getfield 190, 3) := by decide +kernel
theorem dX7_told_35 : decode cX7_told 35 = .ok (.ireturn, 1) := by decide +kernel
theorem dX7_told_36 : decode cX7_told 36 = .ok (.aload_n 0, 1) := by decide +kernel
theorem dX7_told_37 : decode cX7_told 37 = .ok (.getfield 42, 3) := by decide +kernel
theorem dX7_told_40 : decode cX7_told 40 = .ok (.getfield 203, 3) := by decide +kernel
theorem dX7_told_43 : decode cX7_told 43 = .ok (.ireturn, 1) := by decide +kernel
theorem dX7_told_44 : decode cX7_told 44 = .ok (.aload_n 0, 1) := by decide +kernel
theorem dX7_told_45 : decode cX7_told 45 = .ok (.getfield 42, 3) := by decide +kernel
theorem dX7_told_48 : decode cX7_told 48 = .ok (.invokevirtual 332, 3) := by decide +kernel
theorem dX7_told_51 : decode cX7_told 51 = .ok (.ireturn, 1) := by decide +kernel
theorem dX7_told_52 : decode cX7_told 52 = .ok (.aload_n 0, 1) := by decide +kernel
theorem dX7_told_53 : decode cX7_told 53 = .ok (.getfield 42, 3) := by decide +kernel
theorem dX7_told_56 : decode cX7_told 56 = .ok (.getfield 335, 3) := by decide +kernel
theorem dX7_told_59 : decode cX7_told 59 = .ok (.ireturn, 1) := by decide +kernel
theorem dX7_fewestSteps_0 : decode cX7_fewestSteps 0 = .ok (.aload_n 0, 1) := by decide +kernel
theorem dX7_fewestSteps_1 : decode cX7_fewestSteps 1 = .ok (.getfield 10, 3) := by decide +kernel
theorem dX7_fewestSteps_4 : decode cX7_fewestSteps 4 = .ok (.getfield 111, 3) := by decide +kernel
theorem dX7_fewestSteps_7 : decode cX7_fewestSteps 7 = .ok (.aload_n 0, 1) := by decide +kernel
theorem dX7_fewestSteps_8 : decode cX7_fewestSteps 8 = .ok (.getfield 10, 3) := by decide +kernel
theorem dX7_fewestSteps_11 : decode cX7_fewestSteps 11 = .ok (.getfield 158, 3) := by decide +kernel
theorem dX7_fewestSteps_14 : decode cX7_fewestSteps 14 = .ok (.lor, 1) := by decide +kernel
theorem dX7_fewestSteps_15 : decode cX7_fewestSteps 15 = .ok (.lstore_n 2, 1) := by decide +kernel
theorem dX7_fewestSteps_16 : decode cX7_fewestSteps 16 = .ok (.aload_n 0, 1) := by decide +kernel
theorem dX7_fewestSteps_17 : decode cX7_fewestSteps 17 = .ok (.getfield 33, 3) := by decide +kernel
theorem dX7_fewestSteps_20 : decode cX7_fewestSteps 20 = .ok (.aload_n 0, 1) := by decide +kernel
theorem dX7_fewestSteps_21 : decode cX7_fewestSteps 21 = .ok (.getfield 26, 3) := by decide +kernel
theorem dX7_fewestSteps_24 : decode cX7_fewestSteps 24 = .ok (.getfield 176, 3) := by decide +kernel
theorem dX7_fewestSteps_27 : decode cX7_fewestSteps 27 = .ok (.iload_n 1, 1) := by decide +kernel
theorem dX7_fewestSteps_28 : decode cX7_fewestSteps 28 = .ok (.iaload, 1) := by decide +kernel
theorem dX7_fewestSteps_29 : decode cX7_fewestSteps 29 = .ok (.aload_n 0, 1) := by decide +kernel
theorem dX7_fewestSteps_30 : decode cX7_fewestSteps 30 = .ok (.getfield 26, 3) := by decide +kernel
theorem dX7_fewestSteps_33 : decode cX7_fewestSteps 33 = .ok (.getfield 179, 3) := by decide +kernel
theorem dX7_fewestSteps_36 : decode cX7_fewestSteps 36 = .ok (.iload_n 1, 1) := by decide +kernel
theorem dX7_fewestSteps_37 : decode cX7_fewestSteps 37 = .ok (.iaload, 1) := by decide +kernel
theorem dX7_fewestSteps_38 : decode cX7_fewestSteps 38 = .ok (.lload_n 2, 1) := by decide +kernel
theorem dX7_fewestSteps_39 : decode cX7_fewestSteps 39 = .ok (.aload_n 0, 1) := by decide +kernel
theorem dX7_fewestSteps_40 : decode cX7_fewestSteps 40 = .ok (.getfield 19, 3) := by decide +kernel
theorem dX7_fewestSteps_43 : decode cX7_fewestSteps 43 = .ok (.getfield 338, 3) := by decide +kernel
theorem dX7_fewestSteps_46 : decode cX7_fewestSteps 46 = .ok (.invokevirtual 161, 3) := by decide +kernel
theorem dX7_fewestSteps_49 : decode cX7_fewestSteps 49 = .ok (.ireturn, 1) := by decide +kernel
theorem dX7_seekFirst_0 : decode cX7_seekFirst 0 = .ok (.aload_n 0, 1) := by decide +kernel
theorem dX7_seekFirst_1 : decode cX7_seekFirst 1 = .ok (.iconst (-1), 1) := by decide +kernel
theorem dX7_seekFirst_2 : decode cX7_seekFirst 2 = .ok (.putfield 65, 3) := by decide +kernel
theorem dX7_seekFirst_5 : decode cX7_seekFirst 5 = .ok (.aload_n 0, 1) := by decide +kernel
theorem dX7_seekFirst_6 : decode cX7_seekFirst 6 = .ok (.iconst 0, 1) := by decide +kernel
theorem dX7_seekFirst_7 : decode cX7_seekFirst 7 = .ok (.putfield 68, 3) := by decide +kernel
theorem dX7_seekFirst_10 : decode cX7_seekFirst 10 = .ok (.iconst 0, 1) := by decide +kernel
theorem dX7_seekFirst_11 : decode cX7_seekFirst 11 = .ok (.istore_n 1, 1) := by decide +kernel
theorem dX7_seekFirst_12 : decode cX7_seekFirst 12 = .ok (.iload_n 1, 1) := by decide +kernel
theorem dX7_seekFirst_13 : decode cX7_seekFirst 13 = .ok (.aload_n 0, 1) := by decide +kernel
theorem dX7_seekFirst_14 : decode cX7_seekFirst 14 = .ok (.getfield 26, 3) := by decide +kernel
theorem dX7_seekFirst_17 : decode cX7_seekFirst 17 = .ok (.getfield 155, 3) := by decide +kernel
theorem dX7_seekFirst_20 : decode cX7_seekFirst 20 = .ok (.if_icmp .ge 53, 3) := by decide +kernel
theorem dX7_seekFirst_23 : decode cX7_seekFirst 23 = .ok (.aload_n 0, 1) := by decide +kernel
theorem dX7_seekFirst_24 : decode cX7_seekFirst 24 = .ok (.iload_n 1, 1) := by decide +kernel
theorem dX7_seekFirst_25 : decode cX7_seekFirst 25 = .ok (.iconst (-1), 1) := by decide +kernel
theorem dX7_seekFirst_26 : decode cX7_seekFirst 26 = .ok (.invokevirtual 193, 3) := by decide +kernel
theorem dX7_seekFirst_29 : decode cX7_seekFirst 29 = .ok (.aload_n 0, 1) := by decide +kernel
theorem dX7_seekFirst_30 : decode cX7_seekFirst 30 = .ok (.getfield 65, 3) := by decide +kernel
theorem dX7_seekFirst_33 : decode cX7_seekFirst 33 = .ok (.iconst (-1), 1) := by decide +kernel
theorem dX7_seekFirst_34 : decode cX7_seekFirst 34 = .ok (.if_icmp .eq 17, 3) := by decide +kernel
theorem dX7_seekFirst_37 : decode cX7_seekFirst 37 = .ok (.aload_n 0, 1) := by decide +kernel
theorem dX7_seekFirst_38 : decode cX7_seekFirst 38 = .ok (.getfield 42, 3) := by decide +kernel
theorem dX7_seekFirst_41 : decode cX7_seekFirst 41 = .ok (.getfield 190, 3) := by decide +kernel
theorem dX7_seekFirst_44 : decode cX7_seekFirst 44 = .ok (.aload_n 0, 1) := by decide +kernel
theorem dX7_seekFirst_45 : decode cX7_seekFirst 45 = .ok (.getfield 68, 3) := by decide +kernel
theorem dX7_seekFirst_48 : decode cX7_seekFirst 48 = .ok (.if_icmp .ge 19, 3) := by decide +kernel
theorem dX7_seekFirst_51 : decode cX7_seekFirst 51 = .ok (.aload_n 0, 1) := by decide +kernel
theorem dX7_seekFirst_52 : decode cX7_seekFirst 52 = .ok (.iload_n 1, 1) := by decide +kernel
theorem dX7_seekFirst_53 : decode cX7_seekFirst 53 = .ok (.putfield 65, 3) := by decide +kernel
theorem dX7_seekFirst_56 : decode cX7_seekFirst 56 = .ok (.aload_n 0, 1) := by decide +kernel
theorem dX7_seekFirst_57 : decode cX7_seekFirst 57 = .ok (.aload_n 0, 1) := by decide +kernel
theorem dX7_seekFirst_58 : decode cX7_seekFirst 58 = .ok (.getfield 42, 3) := by decide +kernel
theorem dX7_seekFirst_61 : decode cX7_seekFirst 61 = .ok (.getfield 190, 3) := by decide +kernel
theorem dX7_seekFirst_64 : decode cX7_seekFirst 64 = .ok (.putfield 68, 3) := by decide +kernel
theorem dX7_seekFirst_67 : decode cX7_seekFirst 67 = .ok (.iinc 1 1, 3) := by decide +kernel
theorem dX7_seekFirst_70 : decode cX7_seekFirst 70 = .ok (.goto (-58), 3) := by decide +kernel
theorem dX7_seekFirst_73 : decode cX7_seekFirst 73 = .ok (.return_, 1) := by decide +kernel
theorem dX7_seekYard_0 : decode cX7_seekYard 0 = .ok (.aload_n 0, 1) := by decide +kernel
theorem dX7_seekYard_1 : decode cX7_seekYard 1 = .ok (.iconst (-1), 1) := by decide +kernel
theorem dX7_seekYard_2 : decode cX7_seekYard 2 = .ok (.putfield 71, 3) := by decide +kernel
theorem dX7_seekYard_5 : decode cX7_seekYard 5 = .ok (.aload_n 0, 1) := by decide +kernel
theorem dX7_seekYard_6 : decode cX7_seekYard 6 = .ok (.iconst 0, 1) := by decide +kernel
theorem dX7_seekYard_7 : decode cX7_seekYard 7 = .ok (.putfield 74, 3) := by decide +kernel
theorem dX7_seekYard_10 : decode cX7_seekYard 10 = .ok (.aload_n 0, 1) := by decide +kernel
theorem dX7_seekYard_11 : decode cX7_seekYard 11 = .ok (.iconst (-1), 1) := by decide +kernel
theorem dX7_seekYard_12 : decode cX7_seekYard 12 = .ok (.iconst (-1), 1) := by decide +kernel
theorem dX7_seekYard_13 : decode cX7_seekYard 13 = .ok (.invokevirtual 193, 3) := by decide +kernel
theorem dX7_seekYard_16 : decode cX7_seekYard 16 = .ok (.aload_n 0, 1) := by decide +kernel
theorem dX7_seekYard_17 : decode cX7_seekYard 17 = .ok (.getfield 42, 3) := by decide +kernel
theorem dX7_seekYard_20 : decode cX7_seekYard 20 = .ok (.getfield 190, 3) := by decide +kernel
theorem dX7_seekYard_23 : decode cX7_seekYard 23 = .ok (.istore_n 1, 1) := by decide +kernel
theorem dX7_seekYard_24 : decode cX7_seekYard 24 = .ok (.iconst 0, 1) := by decide +kernel
theorem dX7_seekYard_25 : decode cX7_seekYard 25 = .ok (.istore_n 2, 1) := by decide +kernel
theorem dX7_seekYard_26 : decode cX7_seekYard 26 = .ok (.iload_n 2, 1) := by decide +kernel
theorem dX7_seekYard_27 : decode cX7_seekYard 27 = .ok (.bipush 64, 2) := by decide +kernel
theorem dX7_seekYard_29 : decode cX7_seekYard 29 = .ok (.if_icmp .ge 78, 3) := by decide +kernel
theorem dX7_seekYard_32 : decode cX7_seekYard 32 = .ok (.aload_n 0, 1) := by decide +kernel
theorem dX7_seekYard_33 : decode cX7_seekYard 33 = .ok (.getfield 10, 3) := by decide +kernel
theorem dX7_seekYard_36 : decode cX7_seekYard 36 = .ok (.getfield 111, 3) := by decide +kernel
theorem dX7_seekYard_39 : decode cX7_seekYard 39 = .ok (.iload_n 2, 1) := by decide +kernel
theorem dX7_seekYard_40 : decode cX7_seekYard 40 = .ok (.invokestatic 130, 3) := by decide +kernel
theorem dX7_seekYard_43 : decode cX7_seekYard 43 = .ok (.ifCond .ne 58, 3) := by decide +kernel
theorem dX7_seekYard_46 : decode cX7_seekYard 46 = .ok (.aload_n 0, 1) := by decide +kernel
theorem dX7_seekYard_47 : decode cX7_seekYard 47 = .ok (.getfield 19, 3) := by decide +kernel
theorem dX7_seekYard_50 : decode cX7_seekYard 50 = .ok (.getfield 98, 3) := by decide +kernel
theorem dX7_seekYard_53 : decode cX7_seekYard 53 = .ok (.iload_n 2, 1) := by decide +kernel
theorem dX7_seekYard_54 : decode cX7_seekYard 54 = .ok (.iaload, 1) := by decide +kernel
theorem dX7_seekYard_55 : decode cX7_seekYard 55 = .ok (.ifCond .ne 6, 3) := by decide +kernel
theorem dX7_seekYard_58 : decode cX7_seekYard 58 = .ok (.goto 43, 3) := by decide +kernel
theorem dX7_seekYard_61 : decode cX7_seekYard 61 = .ok (.aload_n 0, 1) := by decide +kernel
theorem dX7_seekYard_62 : decode cX7_seekYard 62 = .ok (.iconst (-1), 1) := by decide +kernel
theorem dX7_seekYard_63 : decode cX7_seekYard 63 = .ok (.iload_n 2, 1) := by decide +kernel
theorem dX7_seekYard_64 : decode cX7_seekYard 64 = .ok (.invokevirtual 193, 3) := by decide +kernel
theorem dX7_seekYard_67 : decode cX7_seekYard 67 = .ok (.iload_n 1, 1) := by decide +kernel
theorem dX7_seekYard_68 : decode cX7_seekYard 68 = .ok (.aload_n 0, 1) := by decide +kernel
theorem dX7_seekYard_69 : decode cX7_seekYard 69 = .ok (.getfield 42, 3) := by decide +kernel
theorem dX7_seekYard_72 : decode cX7_seekYard 72 = .ok (.getfield 190, 3) := by decide +kernel
theorem dX7_seekYard_75 : decode cX7_seekYard 75 = .ok (.isub, 1) := by decide +kernel
theorem dX7_seekYard_76 : decode cX7_seekYard 76 = .ok (.aload_n 0, 1) := by decide +kernel
theorem dX7_seekYard_77 : decode cX7_seekYard 77 = .ok (.getfield 74, 3) := by decide +kernel
theorem dX7_seekYard_80 : decode cX7_seekYard 80 = .ok (.if_icmp .le 21, 3) := by decide +kernel
theorem dX7_seekYard_83 : decode cX7_seekYard 83 = .ok (.aload_n 0, 1) := by decide +kernel
theorem dX7_seekYard_84 : decode cX7_seekYard 84 = .ok (.iload_n 2, 1) := by decide +kernel
theorem dX7_seekYard_85 : decode cX7_seekYard 85 = .ok (.putfield 71, 3) := by decide +kernel
theorem dX7_seekYard_88 : decode cX7_seekYard 88 = .ok (.aload_n 0, 1) := by decide +kernel
theorem dX7_seekYard_89 : decode cX7_seekYard 89 = .ok (.iload_n 1, 1) := by decide +kernel
theorem dX7_seekYard_90 : decode cX7_seekYard 90 = .ok (.aload_n 0, 1) := by decide +kernel
theorem dX7_seekYard_91 : decode cX7_seekYard 91 = .ok (.getfield 42, 3) := by decide +kernel
theorem dX7_seekYard_94 : decode cX7_seekYard 94 = .ok (.getfield 190, 3) := by decide +kernel
theorem dX7_seekYard_97 : decode cX7_seekYard 97 = .ok (.isub, 1) := by decide +kernel
theorem dX7_seekYard_98 : decode cX7_seekYard 98 = .ok (.putfield 74, 3) := by decide +kernel
theorem dX7_seekYard_101 : decode cX7_seekYard 101 = .ok (.iinc 2 1, 3) := by decide +kernel
theorem dX7_seekYard_104 : decode cX7_seekYard 104 = .ok (.goto (-78), 3) := by decide +kernel
theorem dX7_seekYard_107 : decode cX7_seekYard 107 = .ok (.return_, 1) := by decide +kernel
theorem dX7_wouldShow_0 : decode cX7_wouldShow 0 = .ok (.aload_n 0, 1) := by decide +kernel
theorem dX7_wouldShow_1 : decode cX7_wouldShow 1 = .ok (.getfield 42, 3) := by decide +kernel
theorem dX7_wouldShow_4 : decode cX7_wouldShow 4 = .ok (.aload_n 0, 1) := by decide +kernel
theorem dX7_wouldShow_5 : decode cX7_wouldShow 5 = .ok (.getfield 19, 3) := by decide +kernel
theorem dX7_wouldShow_8 : decode cX7_wouldShow 8 = .ok (.getfield 98, 3) := by decide +kernel
theorem dX7_wouldShow_11 : decode cX7_wouldShow 11 = .ok (.invokevirtual 172, 3) := by decide +kernel
theorem dX7_wouldShow_14 : decode cX7_wouldShow 14 = .ok (.aload_n 0, 1) := by decide +kernel
theorem dX7_wouldShow_15 : decode cX7_wouldShow 15 = .ok (.getfield 10, 3) := by decide +kernel
theorem dX7_wouldShow_18 : decode cX7_wouldShow 18 = .ok (.getfield 158, 3) := by decide +kernel
theorem dX7_wouldShow_21 : decode cX7_wouldShow 21 = .ok (.iload_n 3, 1) := by decide +kernel
theorem dX7_wouldShow_22 : decode cX7_wouldShow 22 = .ok (.invokestatic 233, 3) := by decide +kernel
theorem dX7_wouldShow_25 : decode cX7_wouldShow 25 = .ok (.lor, 1) := by decide +kernel
theorem dX7_wouldShow_26 : decode cX7_wouldShow 26 = .ok (.lstore 4, 2) := by decide +kernel
theorem dX7_wouldShow_28 : decode cX7_wouldShow 28 = .ok (.aload_n 0, 1) := by decide +kernel
theorem dX7_wouldShow_29 : decode cX7_wouldShow 29 = .ok (.getfield 42, 3) := by decide +kernel
theorem dX7_wouldShow_32 : decode cX7_wouldShow 32 = .ok (.aload_n 0, 1) := by decide +kernel
theorem dX7_wouldShow_33 : decode cX7_wouldShow 33 = .ok (.getfield 26, 3) := by decide +kernel
theorem dX7_wouldShow_36 : decode cX7_wouldShow 36 = .ok (.getfield 176, 3) := by decide +kernel
theorem dX7_wouldShow_39 : decode cX7_wouldShow 39 = .ok (.iload_n 2, 1) := by decide +kernel
theorem dX7_wouldShow_40 : decode cX7_wouldShow 40 = .ok (.iaload, 1) := by decide +kernel
theorem dX7_wouldShow_41 : decode cX7_wouldShow 41 = .ok (.aload_n 0, 1) := by decide +kernel
theorem dX7_wouldShow_42 : decode cX7_wouldShow 42 = .ok (.getfield 26, 3) := by decide +kernel
theorem dX7_wouldShow_45 : decode cX7_wouldShow 45 = .ok (.getfield 179, 3) := by decide +kernel
theorem dX7_wouldShow_48 : decode cX7_wouldShow 48 = .ok (.iload_n 2, 1) := by decide +kernel
theorem dX7_wouldShow_49 : decode cX7_wouldShow 49 = .ok (.iaload, 1) := by decide +kernel
theorem dX7_wouldShow_50 : decode cX7_wouldShow 50 = .ok (.lload 4, 2) := by decide +kernel
theorem dX7_wouldShow_52 : decode cX7_wouldShow 52 = .ok (.invokevirtual 182, 3) := by decide +kernel
theorem dX7_wouldShow_55 : decode cX7_wouldShow 55 = .ok (.pop, 1) := by decide +kernel
theorem dX7_wouldShow_56 : decode cX7_wouldShow 56 = .ok (.aload_n 1, 1) := by decide +kernel
theorem dX7_wouldShow_57 : decode cX7_wouldShow 57 = .ok (.aload_n 0, 1) := by decide +kernel
theorem dX7_wouldShow_58 : decode cX7_wouldShow 58 = .ok (.getfield 42, 3) := by decide +kernel
theorem dX7_wouldShow_61 : decode cX7_wouldShow 61 = .ok (.getfield 291, 3) := by decide +kernel
theorem dX7_wouldShow_64 : decode cX7_wouldShow 64 = .ok (.invokevirtual 341, 3) := by decide +kernel
theorem dX7_wouldShow_67 : decode cX7_wouldShow 67 = .ok (.ireturn, 1) := by decide +kernel
theorem dX7_slipperiness_0 : decode cX7_slipperiness 0 = .ok (.aload_n 0, 1) := by decide +kernel
theorem dX7_slipperiness_1 : decode cX7_slipperiness 1 = .ok (.getfield 19, 3) := by decide +kernel
theorem dX7_slipperiness_4 : decode cX7_slipperiness 4 = .ok (.getfield 105, 3) := by decide +kernel
theorem dX7_slipperiness_7 : decode cX7_slipperiness 7 = .ok (.iload_n 1, 1) := by decide +kernel
theorem dX7_slipperiness_8 : decode cX7_slipperiness 8 = .ok (.iaload, 1) := by decide +kernel
theorem dX7_slipperiness_9 : decode cX7_slipperiness 9 = .ok (.aload_n 0, 1) := by decide +kernel
theorem dX7_slipperiness_10 : decode cX7_slipperiness 10 = .ok (.getfield 42, 3) := by decide +kernel
theorem dX7_slipperiness_13 : decode cX7_slipperiness 13 = .ok (.getfield 291, 3) := by decide +kernel
theorem dX7_slipperiness_16 : decode cX7_slipperiness 16 = .ok (.iload_n 1, 1) := by decide +kernel
theorem dX7_slipperiness_17 : decode cX7_slipperiness 17 = .ok (.iaload, 1) := by decide +kernel
theorem dX7_slipperiness_18 : decode cX7_slipperiness 18 = .ok (.imul, 1) := by decide +kernel
theorem dX7_slipperiness_19 : decode cX7_slipperiness 19 = .ok (.ireturn, 1) := by decide +kernel
theorem dX7_mostSlippery_0 : decode cX7_mostSlippery 0 = .ok (.iconst (-1), 1) := by decide +kernel
theorem dX7_mostSlippery_1 : decode cX7_mostSlippery 1 = .ok (.istore_n 3, 1) := by decide +kernel
theorem dX7_mostSlippery_2 : decode cX7_mostSlippery 2 = .ok (.iconst 0, 1) := by decide +kernel
theorem dX7_mostSlippery_3 : decode cX7_mostSlippery 3 = .ok (.istore 4, 2) := by decide +kernel
theorem dX7_mostSlippery_5 : decode cX7_mostSlippery 5 = .ok (.iconst 0, 1) := by decide +kernel
theorem dX7_mostSlippery_6 : decode cX7_mostSlippery 6 = .ok (.istore 5, 2) := by decide +kernel
theorem dX7_mostSlippery_8 : decode cX7_mostSlippery 8 = .ok (.iload 5, 2) := by decide +kernel
theorem dX7_mostSlippery_10 : decode cX7_mostSlippery 10 = .ok (.bipush 64, 2) := by decide +kernel
theorem dX7_mostSlippery_12 : decode cX7_mostSlippery 12 = .ok (.if_icmp .ge 40, 3) := by decide +kernel
theorem dX7_mostSlippery_15 : decode cX7_mostSlippery 15 = .ok (.lload_n 1, 1) := by decide +kernel
theorem dX7_mostSlippery_16 : decode cX7_mostSlippery 16 = .ok (.iload 5, 2) := by decide +kernel
theorem dX7_mostSlippery_18 : decode cX7_mostSlippery 18 = .ok (.invokestatic 130, 3) := by decide +kernel
theorem dX7_mostSlippery_21 : decode cX7_mostSlippery 21 = .ok (.ifCond .ne 25, 3) := by decide +kernel
theorem dX7_mostSlippery_24 : decode cX7_mostSlippery 24 = .ok (.aload_n 0, 1) := by decide +kernel
theorem dX7_mostSlippery_25 : decode cX7_mostSlippery 25 = .ok (.iload 5, 2) := by decide +kernel
theorem dX7_mostSlippery_27 : decode cX7_mostSlippery 27 = .ok (.invokevirtual 345, 3) := by decide +kernel
theorem dX7_mostSlippery_30 : decode cX7_mostSlippery 30 = .ok (.iload 4, 2) := by decide +kernel
theorem dX7_mostSlippery_32 : decode cX7_mostSlippery 32 = .ok (.if_icmp .le 14, 3) := by decide +kernel
theorem dX7_mostSlippery_35 : decode cX7_mostSlippery 35 = .ok (.iload 5, 2) := by decide +kernel
theorem dX7_mostSlippery_37 : decode cX7_mostSlippery 37 = .ok (.istore_n 3, 1) := by decide +kernel
theorem dX7_mostSlippery_38 : decode cX7_mostSlippery 38 = .ok (.aload_n 0, 1) := by decide +kernel
theorem dX7_mostSlippery_39 : decode cX7_mostSlippery 39 = .ok (.iload 5, 2) := by decide +kernel
theorem dX7_mostSlippery_41 : decode cX7_mostSlippery 41 = .ok (.invokevirtual 345, 3) := by decide +kernel
theorem dX7_mostSlippery_44 : decode cX7_mostSlippery 44 = .ok (.istore 4, 2) := by decide +kernel
theorem dX7_mostSlippery_46 : decode cX7_mostSlippery 46 = .ok (.iinc 5 1, 3) := by decide +kernel
theorem dX7_mostSlippery_49 : decode cX7_mostSlippery 49 = .ok (.goto (-41), 3) := by decide +kernel
theorem dX7_mostSlippery_52 : decode cX7_mostSlippery 52 = .ok (.iload_n 3, 1) := by decide +kernel
theorem dX7_mostSlippery_53 : decode cX7_mostSlippery 53 = .ok (.ireturn, 1) := by decide +kernel
theorem dX7_slipperinessLeft_0 : decode cX7_slipperinessLeft 0 = .ok (.iconst 0, 1) := by decide +kernel
theorem dX7_slipperinessLeft_1 : decode cX7_slipperinessLeft 1 = .ok (.istore_n 2, 1) := by decide +kernel
theorem dX7_slipperinessLeft_2 : decode cX7_slipperinessLeft 2 = .ok (.iconst 0, 1) := by decide +kernel
theorem dX7_slipperinessLeft_3 : decode cX7_slipperinessLeft 3 = .ok (.istore_n 3, 1) := by decide +kernel
theorem dX7_slipperinessLeft_4 : decode cX7_slipperinessLeft 4 = .ok (.iload_n 3, 1) := by decide +kernel
theorem dX7_slipperinessLeft_5 : decode cX7_slipperinessLeft 5 = .ok (.bipush 64, 2) := by decide +kernel
theorem dX7_slipperinessLeft_7 : decode cX7_slipperinessLeft 7 = .ok (.if_icmp .ge 17, 3) := by decide +kernel
theorem dX7_slipperinessLeft_10 : decode cX7_slipperinessLeft 10 = .ok (.iload_n 2, 1) := by decide +kernel
theorem dX7_slipperinessLeft_11 : decode cX7_slipperinessLeft 11 = .ok (.aload_n 0, 1) := by decide +kernel
theorem dX7_slipperinessLeft_12 : decode cX7_slipperinessLeft 12 = .ok (.iload_n 3, 1) := by decide +kernel
theorem dX7_slipperinessLeft_13 : decode cX7_slipperinessLeft 13 = .ok (.invokevirtual 345, 3) := by decide +kernel
theorem dX7_slipperinessLeft_16 : decode cX7_slipperinessLeft 16 = .ok (.iadd, 1) := by decide +kernel
theorem dX7_slipperinessLeft_17 : decode cX7_slipperinessLeft 17 = .ok (.istore_n 2, 1) := by decide +kernel
theorem dX7_slipperinessLeft_18 : decode cX7_slipperinessLeft 18 = .ok (.iinc 3 1, 3) := by decide +kernel
theorem dX7_slipperinessLeft_21 : decode cX7_slipperinessLeft 21 = .ok (.goto (-17), 3) := by decide +kernel
theorem dX7_slipperinessLeft_24 : decode cX7_slipperinessLeft 24 = .ok (.lconst 0, 1) := by decide +kernel
theorem dX7_slipperinessLeft_25 : decode cX7_slipperinessLeft 25 = .ok (.lstore_n 3, 1) := by decide +kernel
theorem dX7_slipperinessLeft_26 : decode cX7_slipperinessLeft 26 = .ok (.iconst 0, 1) := by decide +kernel
theorem dX7_slipperinessLeft_27 : decode cX7_slipperinessLeft 27 = .ok (.istore 5, 2) := by decide +kernel
theorem dX7_slipperinessLeft_29 : decode cX7_slipperinessLeft 29 = .ok (.iload 5, 2) := by decide +kernel
theorem dX7_slipperinessLeft_31 : decode cX7_slipperinessLeft 31 = .ok (.iload_n 1, 1) := by decide +kernel
theorem dX7_slipperinessLeft_32 : decode cX7_slipperinessLeft 32 = .ok (.if_icmp .ge 42, 3) := by decide +kernel
theorem dX7_slipperinessLeft_35 : decode cX7_slipperinessLeft 35 = .ok (.aload_n 0, 1) := by decide +kernel
theorem dX7_slipperinessLeft_36 : decode cX7_slipperinessLeft 36 = .ok (.lload_n 3, 1) := by decide +kernel
theorem dX7_slipperinessLeft_37 : decode cX7_slipperinessLeft 37 = .ok (.invokevirtual 229, 3) := by decide +kernel
theorem dX7_slipperinessLeft_40 : decode cX7_slipperinessLeft 40 = .ok (.istore 6, 2) := by decide +kernel
theorem dX7_slipperinessLeft_42 : decode cX7_slipperinessLeft 42 = .ok (.iload 6, 2) := by decide +kernel
theorem dX7_slipperinessLeft_44 : decode cX7_slipperinessLeft 44 = .ok (.iconst (-1), 1) := by decide +kernel
theorem dX7_slipperinessLeft_45 : decode cX7_slipperinessLeft 45 = .ok (.if_icmp .ne 6, 3) := by decide +kernel
theorem dX7_slipperinessLeft_48 : decode cX7_slipperinessLeft 48 = .ok (.goto 26, 3) := by decide +kernel
theorem dX7_slipperinessLeft_51 : decode cX7_slipperinessLeft 51 = .ok (.lload_n 3, 1) := by decide +kernel
theorem dX7_slipperinessLeft_52 : decode cX7_slipperinessLeft 52 = .ok (.iload 6, 2) := by decide +kernel
theorem dX7_slipperinessLeft_54 : decode cX7_slipperinessLeft 54 = .ok (.invokestatic 233, 3) := by decide +kernel
theorem dX7_slipperinessLeft_57 : decode cX7_slipperinessLeft 57 = .ok (.lor, 1) := by decide +kernel
theorem dX7_slipperinessLeft_58 : decode cX7_slipperinessLeft 58 = .ok (.lstore_n 3, 1) := by decide +kernel
theorem dX7_slipperinessLeft_59 : decode cX7_slipperinessLeft 59 = .ok (.iload_n 2, 1) := by decide +kernel
theorem dX7_slipperinessLeft_60 : decode cX7_slipperinessLeft 60 = .ok (.aload_n 0, 1) := by decide +kernel
theorem dX7_slipperinessLeft_61 : decode cX7_slipperinessLeft 61 = .ok (.iload 6, 2) := by decide +kernel
theorem dX7_slipperinessLeft_63 : decode cX7_slipperinessLeft 63 = .ok (.invokevirtual 345, 3) := by decide +kernel
theorem dX7_slipperinessLeft_66 : decode cX7_slipperinessLeft 66 = .ok (.isub, 1) := by decide +kernel
theorem dX7_slipperinessLeft_67 : decode cX7_slipperinessLeft 67 = .ok (.istore_n 2, 1) := by decide +kernel
theorem dX7_slipperinessLeft_68 : decode cX7_slipperinessLeft 68 = .ok (.iinc 5 1, 3) := by decide +kernel
theorem dX7_slipperinessLeft_71 : decode cX7_slipperinessLeft 71 = .ok (.goto (-42), 3) := by decide +kernel
theorem dX7_slipperinessLeft_74 : decode cX7_slipperinessLeft 74 = .ok (.iload_n 2, 1) := by decide +kernel
theorem dX7_slipperinessLeft_75 : decode cX7_slipperinessLeft 75 = .ok (.ireturn, 1) := by decide +kernel
theorem dX7_thirtieths_0 : decode cX7_thirtieths 0 = .ok (.bipush 30, 2) := by decide +kernel
theorem dX7_thirtieths_2 : decode cX7_thirtieths 2 = .ok (.istore_n 2, 1) := by decide +kernel
theorem dX7_thirtieths_3 : decode cX7_thirtieths 3 = .ok (.iload_n 2, 1) := by decide +kernel
theorem dX7_thirtieths_4 : decode cX7_thirtieths 4 = .ok (.iconst 1, 1) := by decide +kernel
theorem dX7_thirtieths_5 : decode cX7_thirtieths 5 = .ok (.if_icmp .le 22, 3) := by decide +kernel
theorem dX7_thirtieths_8 : decode cX7_thirtieths 8 = .ok (.bipush 30, 2) := by decide +kernel
theorem dX7_thirtieths_10 : decode cX7_thirtieths 10 = .ok (.iload_n 2, 1) := by decide +kernel
theorem dX7_thirtieths_11 : decode cX7_thirtieths 11 = .ok (.irem, 1) := by decide +kernel
theorem dX7_thirtieths_12 : decode cX7_thirtieths 12 = .ok (.ifCond .ne 9, 3) := by decide +kernel
theorem dX7_thirtieths_15 : decode cX7_thirtieths 15 = .ok (.iload_n 0, 1) := by decide +kernel
theorem dX7_thirtieths_16 : decode cX7_thirtieths 16 = .ok (.iload_n 2, 1) := by decide +kernel
theorem dX7_thirtieths_17 : decode cX7_thirtieths 17 = .ok (.irem, 1) := by decide +kernel
theorem dX7_thirtieths_18 : decode cX7_thirtieths 18 = .ok (.ifCond .eq 9, 3) := by decide +kernel
theorem dX7_thirtieths_21 : decode cX7_thirtieths 21 = .ok (.iinc 2 (-1), 3) := by decide +kernel
theorem dX7_thirtieths_24 : decode cX7_thirtieths 24 = .ok (.goto (-21), 3) := by decide +kernel
theorem dX7_thirtieths_27 : decode cX7_thirtieths 27 = .ok (.iload_n 1, 1) := by decide +kernel
theorem dX7_thirtieths_28 : decode cX7_thirtieths 28 = .ok (.ifCond .ne 10, 3) := by decide +kernel
theorem dX7_thirtieths_31 : decode cX7_thirtieths 31 = .ok (.iload_n 0, 1) := by decide +kernel
theorem dX7_thirtieths_32 : decode cX7_thirtieths 32 = .ok (.iload_n 2, 1) := by decide +kernel
theorem dX7_thirtieths_33 : decode cX7_thirtieths 33 = .ok (.idiv, 1) := by decide +kernel
theorem dX7_thirtieths_34 : decode cX7_thirtieths 34 = .ok (.i2l, 1) := by decide +kernel
theorem dX7_thirtieths_35 : decode cX7_thirtieths 35 = .ok (.goto 8, 3) := by decide +kernel
theorem dX7_thirtieths_38 : decode cX7_thirtieths 38 = .ok (.bipush 30, 2) := by decide +kernel
theorem dX7_thirtieths_40 : decode cX7_thirtieths 40 = .ok (.iload_n 2, 1) := by decide +kernel
theorem dX7_thirtieths_41 : decode cX7_thirtieths 41 = .ok (.idiv, 1) := by decide +kernel
theorem dX7_thirtieths_42 : decode cX7_thirtieths 42 = .ok (.i2l, 1) := by decide +kernel
theorem dX7_thirtieths_43 : decode cX7_thirtieths 43 = .ok (.lreturn, 1) := by decide +kernel
theorem dX7_found_0 : decode cX7_found 0 = .ok (.aload_n 0, 1) := by decide +kernel
theorem dX7_found_1 : decode cX7_found 1 = .ok (.iload_n 1, 1) := by decide +kernel
theorem dX7_found_2 : decode cX7_found 2 = .ok (.putfield 61, 3) := by decide +kernel
theorem dX7_found_5 : decode cX7_found 5 = .ok (.bipush (-10), 2) := by decide +kernel
theorem dX7_found_7 : decode cX7_found 7 = .ok (.iload_n 1, 1) := by decide +kernel
theorem dX7_found_8 : decode cX7_found 8 = .ok (.isub, 1) := by decide +kernel
theorem dX7_found_9 : decode cX7_found 9 = .ok (.ireturn, 1) := by decide +kernel
theorem dX7_refusedLong_0 : decode cX7_refusedLong 0 = .ok (.ldc2_w 348, 3) := by decide +kernel
theorem dX7_refusedLong_3 : decode cX7_refusedLong 3 = .ok (.iload_n 0, 1) := by decide +kernel
theorem dX7_refusedLong_4 : decode cX7_refusedLong 4 = .ok (.i2l, 1) := by decide +kernel
theorem dX7_refusedLong_5 : decode cX7_refusedLong 5 = .ok (.lsub, 1) := by decide +kernel
theorem dX7_refusedLong_6 : decode cX7_refusedLong 6 = .ok (.lreturn, 1) := by decide +kernel
theorem dX7_refusedItem_0 : decode cX7_refusedItem 0 = .ok (.iload_n 1, 1) := by decide +kernel
theorem dX7_refusedItem_1 : decode cX7_refusedItem 1 = .ok (.invokestatic 137, 3) := by decide +kernel
theorem dX7_refusedItem_4 : decode cX7_refusedItem 4 = .ok (.ifCond .eq 10, 3) := by decide +kernel
theorem dX7_refusedItem_7 : decode cX7_refusedItem 7 = .ok (.iload_n 2, 1) := by decide +kernel
theorem dX7_refusedItem_8 : decode cX7_refusedItem 8 = .ok (.invokestatic 259, 3) := by decide +kernel
theorem dX7_refusedItem_11 : decode cX7_refusedItem 11 = .ok (.ifCond .ne 6, 3) := by decide +kernel
theorem dX7_refusedItem_14 : decode cX7_refusedItem 14 = .ok (.bipush (-2), 2) := by decide +kernel
theorem dX7_refusedItem_16 : decode cX7_refusedItem 16 = .ok (.ireturn, 1) := by decide +kernel
theorem dX7_refusedItem_17 : decode cX7_refusedItem 17 = .ok (.aload_n 0, 1) := by decide +kernel
theorem dX7_refusedItem_18 : decode cX7_refusedItem 18 = .ok (.getfield 57, 3) := by decide +kernel
theorem dX7_refusedItem_21 : decode cX7_refusedItem 21 = .ok (.iload_n 1, 1) := by decide +kernel
theorem dX7_refusedItem_22 : decode cX7_refusedItem 22 = .ok (.aaload, 1) := by decide +kernel
theorem dX7_refusedItem_23 : decode cX7_refusedItem 23 = .ok (.invokevirtual 140, 3) := by decide +kernel
theorem dX7_refusedItem_26 : decode cX7_refusedItem 26 = .ok (.ifCond .eq 9, 3) := by decide +kernel
theorem dX7_refusedItem_29 : decode cX7_refusedItem 29 = .ok (.aload_n 0, 1) := by decide +kernel
theorem dX7_refusedItem_30 : decode cX7_refusedItem 30 = .ok (.iconst 1, 1) := by decide +kernel
theorem dX7_refusedItem_31 : decode cX7_refusedItem 31 = .ok (.invokevirtual 144, 3) := by decide +kernel
theorem dX7_refusedItem_34 : decode cX7_refusedItem 34 = .ok (.ireturn, 1) := by decide +kernel
theorem dX7_refusedItem_35 : decode cX7_refusedItem 35 = .ok (.aload_n 0, 1) := by decide +kernel
theorem dX7_refusedItem_36 : decode cX7_refusedItem 36 = .ok (.getfield 57, 3) := by decide +kernel
theorem dX7_refusedItem_39 : decode cX7_refusedItem 39 = .ok (.iload_n 1, 1) := by decide +kernel
theorem dX7_refusedItem_40 : decode cX7_refusedItem 40 = .ok (.aaload, 1) := by decide +kernel
theorem dX7_refusedItem_41 : decode cX7_refusedItem 41 = .ok (.getfield 279, 3) := by decide +kernel
theorem dX7_refusedItem_44 : decode cX7_refusedItem 44 = .ok (.iload_n 2, 1) := by decide +kernel
theorem dX7_refusedItem_45 : decode cX7_refusedItem 45 = .ok (.if_icmp .eq 9, 3) := by decide +kernel
theorem dX7_refusedItem_48 : decode cX7_refusedItem 48 = .ok (.aload_n 0, 1) := by decide +kernel
theorem dX7_refusedItem_49 : decode cX7_refusedItem 49 = .ok (.iconst 3, 1) := by decide +kernel
theorem dX7_refusedItem_50 : decode cX7_refusedItem 50 = .ok (.invokevirtual 144, 3) := by decide +kernel
theorem dX7_refusedItem_53 : decode cX7_refusedItem 53 = .ok (.ireturn, 1) := by decide +kernel
theorem dX7_refusedItem_54 : decode cX7_refusedItem 54 = .ok (.aload_n 0, 1) := by decide +kernel
theorem dX7_refusedItem_55 : decode cX7_refusedItem 55 = .ok (.getfield 57, 3) := by decide +kernel
theorem dX7_refusedItem_58 : decode cX7_refusedItem 58 = .ok (.iload_n 1, 1) := by decide +kernel
theorem dX7_refusedItem_59 : decode cX7_refusedItem 59 = .ok (.aaload, 1) := by decide +kernel
theorem dX7_refusedItem_60 : decode cX7_refusedItem 60 = .ok (.iload_n 3, 1) := by decide +kernel
theorem dX7_refusedItem_61 : decode cX7_refusedItem 61 = .ok (.iconst 1, 1) := by decide +kernel
theorem dX7_refusedItem_62 : decode cX7_refusedItem 62 = .ok (.invokevirtual 282, 3) := by decide +kernel
theorem dX7_refusedItem_65 : decode cX7_refusedItem 65 = .ok (.ifCond .eq 7, 3) := by decide +kernel
theorem dX7_refusedItem_68 : decode cX7_refusedItem 68 = .ok (.iconst 0, 1) := by decide +kernel
theorem dX7_refusedItem_69 : decode cX7_refusedItem 69 = .ok (.goto 8, 3) := by decide +kernel
theorem dX7_refusedItem_72 : decode cX7_refusedItem 72 = .ok (.aload_n 0, 1) := by decide +kernel
theorem dX7_refusedItem_73 : decode cX7_refusedItem 73 = .ok (.iconst 2, 1) := by decide +kernel
theorem dX7_refusedItem_74 : decode cX7_refusedItem 74 = .ok (.invokevirtual 144, 3) := by decide +kernel
theorem dX7_refusedItem_77 : decode cX7_refusedItem 77 = .ok (.ireturn, 1) := by decide +kernel
theorem dX7_isCell_0 : decode cX7_isCell 0 = .ok (.iload_n 0, 1) := by decide +kernel
theorem dX7_isCell_1 : decode cX7_isCell 1 = .ok (.ifCond .lt 13, 3) := by decide +kernel
theorem dX7_isCell_4 : decode cX7_isCell 4 = .ok (.iload_n 0, 1) := by decide +kernel
theorem dX7_isCell_5 : decode cX7_isCell 5 = .ok (.bipush 64, 2) := by decide +kernel
theorem dX7_isCell_7 : decode cX7_isCell 7 = .ok (.if_icmp .ge 7, 3) := by decide +kernel
theorem dX7_isCell_10 : decode cX7_isCell 10 = .ok (.iconst 1, 1) := by decide +kernel
theorem dX7_isCell_11 : decode cX7_isCell 11 = .ok (.goto 4, 3) := by decide +kernel
theorem dX7_isCell_14 : decode cX7_isCell 14 = .ok (.iconst 0, 1) := by decide +kernel
theorem dX7_isCell_15 : decode cX7_isCell 15 = .ok (.ireturn, 1) := by decide +kernel
theorem dX7_isWalker_0 : decode cX7_isWalker 0 = .ok (.iload_n 1, 1) := by decide +kernel
theorem dX7_isWalker_1 : decode cX7_isWalker 1 = .ok (.ifCond .lt 18, 3) := by decide +kernel
theorem dX7_isWalker_4 : decode cX7_isWalker 4 = .ok (.iload_n 1, 1) := by decide +kernel
theorem dX7_isWalker_5 : decode cX7_isWalker 5 = .ok (.aload_n 0, 1) := by decide +kernel
theorem dX7_isWalker_6 : decode cX7_isWalker 6 = .ok (.getfield 26, 3) := by decide +kernel
theorem dX7_isWalker_9 : decode cX7_isWalker 9 = .ok (.getfield 155, 3) := by decide +kernel
theorem dX7_isWalker_12 : decode cX7_isWalker 12 = .ok (.if_icmp .ge 7, 3) := by decide +kernel
theorem dX7_isWalker_15 : decode cX7_isWalker 15 = .ok (.iconst 1, 1) := by decide +kernel
theorem dX7_isWalker_16 : decode cX7_isWalker 16 = .ok (.goto 4, 3) := by decide +kernel
theorem dX7_isWalker_19 : decode cX7_isWalker 19 = .ok (.iconst 0, 1) := by decide +kernel
theorem dX7_isWalker_20 : decode cX7_isWalker 20 = .ok (.ireturn, 1) := by decide +kernel
theorem dX7_isSheet_0 : decode cX7_isSheet 0 = .ok (.iload_n 0, 1) := by decide +kernel
theorem dX7_isSheet_1 : decode cX7_isSheet 1 = .ok (.ifCond .lt 12, 3) := by decide +kernel
theorem dX7_isSheet_4 : decode cX7_isSheet 4 = .ok (.iload_n 0, 1) := by decide +kernel
theorem dX7_isSheet_5 : decode cX7_isSheet 5 = .ok (.iconst 4, 1) := by decide +kernel
theorem dX7_isSheet_6 : decode cX7_isSheet 6 = .ok (.if_icmp .ge 7, 3) := by decide +kernel
theorem dX7_isSheet_9 : decode cX7_isSheet 9 = .ok (.iconst 1, 1) := by decide +kernel
theorem dX7_isSheet_10 : decode cX7_isSheet 10 = .ok (.goto 4, 3) := by decide +kernel
theorem dX7_isSheet_13 : decode cX7_isSheet 13 = .ok (.iconst 0, 1) := by decide +kernel
theorem dX7_isSheet_14 : decode cX7_isSheet 14 = .ok (.ireturn, 1) := by decide +kernel
theorem dX7_isForm_0 : decode cX7_isForm 0 = .ok (.iload_n 0, 1) := by decide +kernel
theorem dX7_isForm_1 : decode cX7_isForm 1 = .ok (.ifCond .lt 12, 3) := by decide +kernel
theorem dX7_isForm_4 : decode cX7_isForm 4 = .ok (.iload_n 0, 1) := by decide +kernel
theorem dX7_isForm_5 : decode cX7_isForm 5 = .ok (.iconst 2, 1) := by decide +kernel
theorem dX7_isForm_6 : decode cX7_isForm 6 = .ok (.if_icmp .gt 7, 3) := by decide +kernel
theorem dX7_isForm_9 : decode cX7_isForm 9 = .ok (.iconst 1, 1) := by decide +kernel
theorem dX7_isForm_10 : decode cX7_isForm 10 = .ok (.goto 4, 3) := by decide +kernel
theorem dX7_isForm_13 : decode cX7_isForm 13 = .ok (.iconst 0, 1) := by decide +kernel
theorem dX7_isForm_14 : decode cX7_isForm 14 = .ok (.ireturn, 1) := by decide +kernel
theorem dX7_bit_0 : decode cX7_bit 0 = .ok (.lconst 1, 1) := by decide +kernel
theorem dX7_bit_1 : decode cX7_bit 1 = .ok (.iload_n 0, 1) := by decide +kernel
theorem dX7_bit_2 : decode cX7_bit 2 = .ok (.lshl, 1) := by decide +kernel
theorem dX7_bit_3 : decode cX7_bit 3 = .ok (.lreturn, 1) := by decide +kernel
theorem dX7_has_0 : decode cX7_has 0 = .ok (.lload_n 0, 1) := by decide +kernel
theorem dX7_has_1 : decode cX7_has 1 = .ok (.iload_n 2, 1) := by decide +kernel
theorem dX7_has_2 : decode cX7_has 2 = .ok (.lushr, 1) := by decide +kernel
theorem dX7_has_3 : decode cX7_has 3 = .ok (.lconst 1, 1) := by decide +kernel
theorem dX7_has_4 : decode cX7_has 4 = .ok (.land, 1) := by decide +kernel
theorem dX7_has_5 : decode cX7_has 5 = .ok (.lconst 0, 1) := by decide +kernel
theorem dX7_has_6 : decode cX7_has 6 = .ok (.lcmp, 1) := by decide +kernel
theorem dX7_has_7 : decode cX7_has 7 = .ok (.ifCond .eq 7, 3) := by decide +kernel
theorem dX7_has_10 : decode cX7_has 10 = .ok (.iconst 1, 1) := by decide +kernel
theorem dX7_has_11 : decode cX7_has 11 = .ok (.goto 4, 3) := by decide +kernel
theorem dX7_has_14 : decode cX7_has 14 = .ok (.iconst 0, 1) := by decide +kernel
theorem dX7_has_15 : decode cX7_has 15 = .ok (.ireturn, 1) := by decide +kernel
theorem dX7_beside_0 : decode cX7_beside 0 = .ok (.iload_n 0, 1) := by decide +kernel
theorem dX7_beside_1 : decode cX7_beside 1 = .ok (.bipush 7, 2) := by decide +kernel
theorem dX7_beside_3 : decode cX7_beside 3 = .ok (.iand, 1) := by decide +kernel
theorem dX7_beside_4 : decode cX7_beside 4 = .ok (.istore_n 2, 1) := by decide +kernel
theorem dX7_beside_5 : decode cX7_beside 5 = .ok (.iload_n 1, 1) := by decide +kernel
theorem dX7_beside_6 : decode cX7_beside 6 = .ok (.tableswitch 86 0 3 #[30, 45, 59, 74], 30) := by decide +kernel
theorem dX7_beside_36 : decode cX7_beside 36 = .ok (.iload_n 0, 1) := by decide +kernel
theorem dX7_beside_37 : decode cX7_beside 37 = .ok (.bipush 8, 2) := by decide +kernel
theorem dX7_beside_39 : decode cX7_beside 39 = .ok (.if_icmp .lt 10, 3) := by decide +kernel
theorem dX7_beside_42 : decode cX7_beside 42 = .ok (.iload_n 0, 1) := by decide +kernel
theorem dX7_beside_43 : decode cX7_beside 43 = .ok (.bipush 8, 2) := by decide +kernel
theorem dX7_beside_45 : decode cX7_beside 45 = .ok (.isub, 1) := by decide +kernel
theorem dX7_beside_46 : decode cX7_beside 46 = .ok (.goto 4, 3) := by decide +kernel
theorem dX7_beside_49 : decode cX7_beside 49 = .ok (.iconst (-1), 1) := by decide +kernel
theorem dX7_beside_50 : decode cX7_beside 50 = .ok (.ireturn, 1) := by decide +kernel
theorem dX7_beside_51 : decode cX7_beside 51 = .ok (.iload_n 2, 1) := by decide +kernel
theorem dX7_beside_52 : decode cX7_beside 52 = .ok (.bipush 7, 2) := by decide +kernel
theorem dX7_beside_54 : decode cX7_beside 54 = .ok (.if_icmp .ge 9, 3) := by decide +kernel
theorem dX7_beside_57 : decode cX7_beside 57 = .ok (.iload_n 0, 1) := by decide +kernel
theorem dX7_beside_58 : decode cX7_beside 58 = .ok (.iconst 1, 1) := by decide +kernel
theorem dX7_beside_59 : decode cX7_beside 59 = .ok (.iadd, 1) := by decide +kernel
theorem dX7_beside_60 : decode cX7_beside 60 = .ok (.goto 4, 3) := by decide +kernel
theorem dX7_beside_63 : decode cX7_beside 63 = .ok (.iconst (-1), 1) := by decide +kernel
theorem dX7_beside_64 : decode cX7_beside 64 = .ok (.ireturn, 1) := by decide +kernel
theorem dX7_beside_65 : decode cX7_beside 65 = .ok (.iload_n 0, 1) := by decide +kernel
theorem dX7_beside_66 : decode cX7_beside 66 = .ok (.bipush 56, 2) := by decide +kernel
theorem dX7_beside_68 : decode cX7_beside 68 = .ok (.if_icmp .ge 10, 3) := by decide +kernel
theorem dX7_beside_71 : decode cX7_beside 71 = .ok (.iload_n 0, 1) := by decide +kernel
theorem dX7_beside_72 : decode cX7_beside 72 = .ok (.bipush 8, 2) := by decide +kernel
theorem dX7_beside_74 : decode cX7_beside 74 = .ok (.iadd, 1) := by decide +kernel
theorem dX7_beside_75 : decode cX7_beside 75 = .ok (.goto 4, 3) := by decide +kernel
theorem dX7_beside_78 : decode cX7_beside 78 = .ok (.iconst (-1), 1) := by decide +kernel
theorem dX7_beside_79 : decode cX7_beside 79 = .ok (.ireturn, 1) := by decide +kernel
theorem dX7_beside_80 : decode cX7_beside 80 = .ok (.iload_n 2, 1) := by decide +kernel
theorem dX7_beside_81 : decode cX7_beside 81 = .ok (.ifCond .le 9, 3) := by decide +kernel
theorem dX7_beside_84 : decode cX7_beside 84 = .ok (.iload_n 0, 1) := by decide +kernel
theorem dX7_beside_85 : decode cX7_beside 85 = .ok (.iconst 1, 1) := by decide +kernel
theorem dX7_beside_86 : decode cX7_beside 86 = .ok (.isub, 1) := by decide +kernel
theorem dX7_beside_87 : decode cX7_beside 87 = .ok (.goto 4, 3) := by decide +kernel
theorem dX7_beside_90 : decode cX7_beside 90 = .ok (.iconst (-1), 1) := by decide +kernel
theorem dX7_beside_91 : decode cX7_beside 91 = .ok (.ireturn, 1) := by decide +kernel
theorem dX7_beside_92 : decode cX7_beside 92 = .ok (.iconst (-1), 1) := by decide +kernel
theorem dX7_beside_93 : decode cX7_beside 93 = .ok (.ireturn, 1) := by decide +kernel
theorem dX7_sum_0 : decode cX7_sum 0 = .ok (.iconst 0, 1) := by decide +kernel
theorem dX7_sum_1 : decode cX7_sum 1 = .ok (.istore_n 1, 1) := by decide +kernel
theorem dX7_sum_2 : decode cX7_sum 2 = .ok (.aload_n 0, 1) := by decide +kernel
theorem dX7_sum_3 : decode cX7_sum 3 = .ok (.astore_n 2, 1) := by decide +kernel
theorem dX7_sum_4 : decode cX7_sum 4 = .ok (.aload_n 2, 1) := by decide +kernel
theorem dX7_sum_5 : decode cX7_sum 5 = .ok (.arraylength, 1) := by decide +kernel
theorem dX7_sum_6 : decode cX7_sum 6 = .ok (.istore_n 3, 1) := by decide +kernel
theorem dX7_sum_7 : decode cX7_sum 7 = .ok (.iconst 0, 1) := by decide +kernel
theorem dX7_sum_8 : decode cX7_sum 8 = .ok (.istore 4, 2) := by decide +kernel
theorem dX7_sum_10 : decode cX7_sum 10 = .ok (.iload 4, 2) := by decide +kernel
theorem dX7_sum_12 : decode cX7_sum 12 = .ok (.iload_n 3, 1) := by decide +kernel
theorem dX7_sum_13 : decode cX7_sum 13 = .ok (.if_icmp .ge 20, 3) := by decide +kernel
theorem dX7_sum_16 : decode cX7_sum 16 = .ok (.aload_n 2, 1) := by decide +kernel
theorem dX7_sum_17 : decode cX7_sum 17 = .ok (.iload 4, 2) := by decide +kernel
theorem dX7_sum_19 : decode cX7_sum 19 = .ok (.iaload, 1) := by decide +kernel
theorem dX7_sum_20 : decode cX7_sum 20 = .ok (.istore 5, 2) := by decide +kernel
theorem dX7_sum_22 : decode cX7_sum 22 = .ok (.iload_n 1, 1) := by decide +kernel
theorem dX7_sum_23 : decode cX7_sum 23 = .ok (.iload 5, 2) := by decide +kernel
theorem dX7_sum_25 : decode cX7_sum 25 = .ok (.iadd, 1) := by decide +kernel
theorem dX7_sum_26 : decode cX7_sum 26 = .ok (.istore_n 1, 1) := by decide +kernel
theorem dX7_sum_27 : decode cX7_sum 27 = .ok (.iinc 4 1, 3) := by decide +kernel
theorem dX7_sum_30 : decode cX7_sum 30 = .ok (.goto (-20), 3) := by decide +kernel
theorem dX7_sum_33 : decode cX7_sum 33 = .ok (.iload_n 1, 1) := by decide +kernel
theorem dX7_sum_34 : decode cX7_sum 34 = .ok (.ireturn, 1) := by decide +kernel
