theorem dX0_init_0 : decode cX0_init 0 = .ok (.aload_n 0, 1) := by decide +kernel
theorem dX0_init_1 : decode cX0_init 1 = .ok (.invokespecial 3, 3) := by decide +kernel
theorem dX0_init_4 : decode cX0_init 4 = .ok (.aload_n 0, 1) := by decide +kernel
theorem dX0_init_5 : decode cX0_init 5 = .ok (.bipush 75, 2) := by decide +kernel
theorem dX0_init_7 : decode cX0_init 7 = .ok (.newarray .int, 2) := by decide +kernel
theorem dX0_init_9 : decode cX0_init 9 = .ok (.putfield 11, 3) := by decide +kernel
theorem dX0_init_12 : decode cX0_init 12 = .ok (.aload_n 0, 1) := by decide +kernel
theorem dX0_init_13 : decode cX0_init 13 = .ok (.iconst 0, 1) := by decide +kernel
theorem dX0_init_14 : decode cX0_init 14 = .ok (.putfield 15, 3) := by decide +kernel
theorem dX0_init_17 : decode cX0_init 17 = .ok (.aload_n 0, 1) := by decide +kernel
theorem dX0_init_18 : decode cX0_init 18 = .ok (.iconst 0, 1) := by decide +kernel
theorem dX0_init_19 : decode cX0_init 19 = .ok (.putfield 19, 3) := by decide +kernel
theorem dX0_init_22 : decode cX0_init 22 = .ok (.aload_n 0, 1) := by decide +kernel
theorem dX0_init_23 : decode cX0_init 23 = .ok (.lconst 0, 1) := by decide +kernel
theorem dX0_init_24 : decode cX0_init 24 = .ok (.putfield 22, 3) := by decide +kernel
theorem dX0_init_27 : decode cX0_init 27 = .ok (.aload_n 0, 1) := by decide +kernel
theorem dX0_init_28 : decode cX0_init 28 = .ok (.lconst 0, 1) := by decide +kernel
theorem dX0_init_29 : decode cX0_init 29 = .ok (.putfield 26, 3) := by decide +kernel
theorem dX0_init_32 : decode cX0_init 32 = .ok (.return_, 1) := by decide +kernel
theorem dX0_append_0 : decode cX0_append 0 = .ok (.aload_n 0, 1) := by decide +kernel
theorem dX0_append_1 : decode cX0_append 1 = .ok (.getfield 15, 3) := by decide +kernel
theorem dX0_append_4 : decode cX0_append 4 = .ok (.bipush 75, 2) := by decide +kernel
theorem dX0_append_6 : decode cX0_append 6 = .ok (.if_icmp .lt 5, 3) := by decide +kernel
theorem dX0_append_9 : decode cX0_append 9 = .ok (.iconst 0, 1) := by decide +kernel
theorem dX0_append_10 : decode cX0_append 10 = .ok (.ireturn, 1) := by decide +kernel
theorem dX0_append_11 : decode cX0_append 11 = .ok (.aload_n 0, 1) := by decide +kernel
theorem dX0_append_12 : decode cX0_append 12 = .ok (.getfield 11, 3) := by decide +kernel
theorem dX0_append_15 : decode cX0_append 15 = .ok (.aload_n 0, 1) := by decide +kernel
theorem dX0_append_16 : decode cX0_append 16 = .ok (.getfield 15, 3) := by decide +kernel
theorem dX0_append_19 : decode cX0_append 19 = .ok (.iload_n 1, 1) := by decide +kernel
theorem dX0_append_20 : decode cX0_append 20 = .ok (.iastore, 1) := by decide +kernel
theorem dX0_append_21 : decode cX0_append 21 = .ok (.aload_n 0, 1) := by decide +kernel
theorem dX0_append_22 : decode cX0_append 22 = .ok (.dup, 1) := by decide +kernel
theorem dX0_append_23 : decode cX0_append 23 = .ok (.getfield 15, 3) := by decide +kernel
theorem dX0_append_26 : decode cX0_append 26 = .ok (.iconst 1, 1) := by decide +kernel
theorem dX0_append_27 : decode cX0_append 27 = .ok (.iadd, 1) := by decide +kernel
theorem dX0_append_28 : decode cX0_append 28 = .ok (.putfield 15, 3) := by decide +kernel
theorem dX0_append_31 : decode cX0_append 31 = .ok (.aload_n 0, 1) := by decide +kernel
theorem dX0_append_32 : decode cX0_append 32 = .ok (.invokevirtual 29, 3) := by decide +kernel
theorem dX0_append_35 : decode cX0_append 35 = .ok (.iconst 1, 1) := by decide +kernel
theorem dX0_append_36 : decode cX0_append 36 = .ok (.ireturn, 1) := by decide +kernel
theorem dX0_empty_0 : decode cX0_empty 0 = .ok (.aload_n 0, 1) := by decide +kernel
theorem dX0_empty_1 : decode cX0_empty 1 = .ok (.iconst 0, 1) := by decide +kernel
theorem dX0_empty_2 : decode cX0_empty 2 = .ok (.putfield 15, 3) := by decide +kernel
theorem dX0_empty_5 : decode cX0_empty 5 = .ok (.aload_n 0, 1) := by decide +kernel
theorem dX0_empty_6 : decode cX0_empty 6 = .ok (.invokevirtual 29, 3) := by decide +kernel
theorem dX0_empty_9 : decode cX0_empty 9 = .ok (.return_, 1) := by decide +kernel
theorem dX0_kindOf_0 : decode cX0_kindOf 0 = .ok (.aload_n 0, 1) := by decide +kernel
theorem dX0_kindOf_1 : decode cX0_kindOf 1 = .ok (.getfield 22, 3) := by decide +kernel
theorem dX0_kindOf_4 : decode cX0_kindOf 4 = .ok (.iload_n 1, 1) := by decide +kernel
theorem dX0_kindOf_5 : decode cX0_kindOf 5 = .ok (.invokestatic 32, 3) := by decide +kernel
theorem dX0_kindOf_8 : decode cX0_kindOf 8 = .ok (.ifCond .eq 7, 3) := by decide +kernel
theorem dX0_kindOf_11 : decode cX0_kindOf 11 = .ok (.iconst 1, 1) := by decide +kernel
theorem dX0_kindOf_12 : decode cX0_kindOf 12 = .ok (.goto 19, 3) := by decide +kernel
theorem dX0_kindOf_15 : decode cX0_kindOf 15 = .ok (.aload_n 0, 1) := by decide +kernel
theorem dX0_kindOf_16 : decode cX0_kindOf 16 = .ok (.getfield 26, 3) := by decide +kernel
theorem dX0_kindOf_19 : decode cX0_kindOf 19 = .ok (.iload_n 1, 1) := by decide +kernel
theorem dX0_kindOf_20 : decode cX0_kindOf 20 = .ok (.invokestatic 32, 3) := by decide +kernel
theorem dX0_kindOf_23 : decode cX0_kindOf 23 = .ok (.ifCond .eq 7, 3) := by decide +kernel
theorem dX0_kindOf_26 : decode cX0_kindOf 26 = .ok (.iconst 2, 1) := by decide +kernel
theorem dX0_kindOf_27 : decode cX0_kindOf 27 = .ok (.goto 4, 3) := by decide +kernel
theorem dX0_kindOf_30 : decode cX0_kindOf 30 = .ok (.iconst 0, 1) := by decide +kernel
theorem dX0_kindOf_31 : decode cX0_kindOf 31 = .ok (.ireturn, 1) := by decide +kernel
theorem dX0_parse_0 : decode cX0_parse 0 = .ok (.aload_n 0, 1) := by decide +kernel
theorem dX0_parse_1 : decode cX0_parse 1 = .ok (.lconst 0, 1) := by decide +kernel
theorem dX0_parse_2 : decode cX0_parse 2 = .ok (.putfield 22, 3) := by decide +kernel
theorem dX0_parse_5 : decode cX0_parse 5 = .ok (.aload_n 0, 1) := by decide +kernel
theorem dX0_parse_6 : decode cX0_parse 6 = .ok (.lconst 0, 1) := by decide +kernel
theorem dX0_parse_7 : decode cX0_parse 7 = .ok (.putfield 26, 3) := by decide +kernel
theorem dX0_parse_10 : decode cX0_parse 10 = .ok (.aload_n 0, 1) := by decide +kernel
theorem dX0_parse_11 : decode cX0_parse 11 = .ok (.aload_n 0, 1) := by decide +kernel
theorem dX0_parse_12 : decode cX0_parse 12 = .ok (.invokevirtual 36, 3) := by decide +kernel
theorem dX0_parse_15 : decode cX0_parse 15 = .ok (.putfield 19, 3) := by decide +kernel
theorem dX0_parse_18 : decode cX0_parse 18 = .ok (.aload_n 0, 1) := by decide +kernel
theorem dX0_parse_19 : decode cX0_parse 19 = .ok (.getfield 19, 3) := by decide +kernel
theorem dX0_parse_22 : decode cX0_parse 22 = .ok (.iconst (-1), 1) := by decide +kernel
theorem dX0_parse_23 : decode cX0_parse 23 = .ok (.if_icmp .eq 4, 3) := by decide +kernel
theorem dX0_parse_26 : decode cX0_parse 26 = .ok (.return_, 1) := by decide +kernel
theorem dX0_parse_27 : decode cX0_parse 27 = .ok (.iconst 0, 1) := by decide +kernel
theorem dX0_parse_28 : decode cX0_parse 28 = .ok (.istore_n 1, 1) := by decide +kernel
theorem dX0_parse_29 : decode cX0_parse 29 = .ok (.iload_n 1, 1) := by decide +kernel
theorem dX0_parse_30 : decode cX0_parse 30 = .ok (.bipush 64, 2) := by decide +kernel
theorem dX0_parse_32 : decode cX0_parse 32 = .ok (.if_icmp .ge 62, 3) := by decide +kernel
theorem dX0_parse_35 : decode cX0_parse 35 = .ok (.aload_n 0, 1) := by decide +kernel
theorem dX0_parse_36 : decode cX0_parse 36 = .ok (.getfield 11, 3) := by decide +kernel
theorem dX0_parse_39 : decode cX0_parse 39 = .ok (.iload_n 1, 1) := by decide +kernel
theorem dX0_parse_40 : decode cX0_parse 40 = .ok (.iload_n 1, 1) := by decide +kernel
theorem dX0_parse_41 : decode cX0_parse 41 = .ok (.bipush 8, 2) := by decide +kernel
theorem dX0_parse_43 : decode cX0_parse 43 = .ok (.idiv, 1) := by decide +kernel
theorem dX0_parse_44 : decode cX0_parse 44 = .ok (.iadd, 1) := by decide +kernel
theorem dX0_parse_45 : decode cX0_parse 45 = .ok (.iaload, 1) := by decide +kernel
theorem dX0_parse_46 : decode cX0_parse 46 = .ok (.istore_n 2, 1) := by decide +kernel
theorem dX0_parse_47 : decode cX0_parse 47 = .ok (.iload_n 2, 1) := by decide +kernel
theorem dX0_parse_48 : decode cX0_parse 48 = .ok (.bipush 35, 2) := by decide +kernel
theorem dX0_parse_50 : decode cX0_parse 50 = .ok (.if_icmp .ne 19, 3) := by decide +kernel
theorem dX0_parse_53 : decode cX0_parse 53 = .ok (.aload_n 0, 1) := by decide +kernel
theorem dX0_parse_54 : decode cX0_parse 54 = .ok (.dup, 1) := by decide +kernel
theorem dX0_parse_55 : decode cX0_parse 55 = .ok (.getfield 22, 3) := by decide +kernel
theorem dX0_parse_58 : decode cX0_parse 58 = .ok (.iload_n 1, 1) := by decide +kernel
theorem dX0_parse_59 : decode cX0_parse 59 = .ok (.invokestatic 40, 3) := by decide +kernel
theorem dX0_parse_62 : decode cX0_parse 62 = .ok (.lor, 1) := by decide +kernel
theorem dX0_parse_63 : decode cX0_parse 63 = .ok (.putfield 22, 3) := by decide +kernel
theorem dX0_parse_66 : decode cX0_parse 66 = .ok (.goto 22, 3) := by decide +kernel
theorem dX0_parse_69 : decode cX0_parse 69 = .ok (.iload_n 2, 1) := by decide +kernel
theorem dX0_parse_70 : decode cX0_parse 70 = .ok (.bipush 111, 2) := by decide +kernel
theorem dX0_parse_72 : decode cX0_parse 72 = .ok (.if_icmp .ne 16, 3) := by decide +kernel
theorem dX0_parse_75 : decode cX0_parse 75 = .ok (.aload_n 0, 1) := by decide +kernel
theorem dX0_parse_76 : decode cX0_parse 76 = .ok (.dup, 1) := by decide +kernel
theorem dX0_parse_77 : decode cX0_parse 77 = .ok (.getfield 26, 3) := by decide +kernel
theorem dX0_parse_80 : decode cX0_parse 80 = .ok (.iload_n 1, 1) := by decide +kernel
theorem dX0_parse_81 : decode cX0_parse 81 = .ok (.invokestatic 40, 3) := by decide +kernel
theorem dX0_parse_84 : decode cX0_parse 84 = .ok (.lor, 1) := by decide +kernel
theorem dX0_parse_85 : decode cX0_parse 85 = .ok (.putfield 26, 3) := by decide +kernel
theorem dX0_parse_88 : decode cX0_parse 88 = .ok (.iinc 1 1, 3) := by decide +kernel
theorem dX0_parse_91 : decode cX0_parse 91 = .ok (.goto (-62), 3) := by decide +kernel
theorem dX0_parse_94 : decode cX0_parse 94 = .ok (.return_, 1) := by decide +kernel
theorem dX0_seekFault_0 : decode cX0_seekFault 0 = .ok (.iconst 0, 1) := by decide +kernel
theorem dX0_seekFault_1 : decode cX0_seekFault 1 = .ok (.istore_n 1, 1) := by decide +kernel
theorem dX0_seekFault_2 : decode cX0_seekFault 2 = .ok (.iload_n 1, 1) := by decide +kernel
theorem dX0_seekFault_3 : decode cX0_seekFault 3 = .ok (.bipush 71, 2) := by decide +kernel
theorem dX0_seekFault_5 : decode cX0_seekFault 5 = .ok (.if_icmp .ge 32, 3) := by decide +kernel
theorem dX0_seekFault_8 : decode cX0_seekFault 8 = .ok (.iload_n 1, 1) := by decide +kernel
theorem dX0_seekFault_9 : decode cX0_seekFault 9 = .ok (.aload_n 0, 1) := by decide +kernel
theorem dX0_seekFault_10 : decode cX0_seekFault 10 = .ok (.getfield 15, 3) := by decide +kernel
theorem dX0_seekFault_13 : decode cX0_seekFault 13 = .ok (.if_icmp .ge 16, 3) := by decide +kernel
theorem dX0_seekFault_16 : decode cX0_seekFault 16 = .ok (.iload_n 1, 1) := by decide +kernel
theorem dX0_seekFault_17 : decode cX0_seekFault 17 = .ok (.aload_n 0, 1) := by decide +kernel
theorem dX0_seekFault_18 : decode cX0_seekFault 18 = .ok (.getfield 11, 3) := by decide +kernel
theorem dX0_seekFault_21 : decode cX0_seekFault 21 = .ok (.iload_n 1, 1) := by decide +kernel
theorem dX0_seekFault_22 : decode cX0_seekFault 22 = .ok (.iaload, 1) := by decide +kernel
theorem dX0_seekFault_23 : decode cX0_seekFault 23 = .ok (.invokestatic 44, 3) := by decide +kernel
theorem dX0_seekFault_26 : decode cX0_seekFault 26 = .ok (.ifCond .ne 5, 3) := by decide +kernel
theorem dX0_seekFault_29 : decode cX0_seekFault 29 = .ok (.iload_n 1, 1) := by decide +kernel
theorem dX0_seekFault_30 : decode cX0_seekFault 30 = .ok (.ireturn, 1) := by decide +kernel
theorem dX0_seekFault_31 : decode cX0_seekFault 31 = .ok (.iinc 1 1, 3) := by decide +kernel
theorem dX0_seekFault_34 : decode cX0_seekFault 34 = .ok (.goto (-32), 3) := by decide +kernel
theorem dX0_seekFault_37 : decode cX0_seekFault 37 = .ok (.aload_n 0, 1) := by decide +kernel
theorem dX0_seekFault_38 : decode cX0_seekFault 38 = .ok (.getfield 15, 3) := by decide +kernel
theorem dX0_seekFault_41 : decode cX0_seekFault 41 = .ok (.bipush 71, 2) := by decide +kernel
theorem dX0_seekFault_43 : decode cX0_seekFault 43 = .ok (.if_icmp .le 8, 3) := by decide +kernel
theorem dX0_seekFault_46 : decode cX0_seekFault 46 = .ok (.bipush 71, 2) := by decide +kernel
theorem dX0_seekFault_48 : decode cX0_seekFault 48 = .ok (.goto 4, 3) := by decide +kernel
theorem dX0_seekFault_51 : decode cX0_seekFault 51 = .ok (.iconst (-1), 1) := by decide +kernel
theorem dX0_seekFault_52 : decode cX0_seekFault 52 = .ok (.ireturn, 1) := by decide +kernel
theorem dX0_fits_0 : decode cX0_fits 0 = .ok (.iload_n 0, 1) := by decide +kernel
theorem dX0_fits_1 : decode cX0_fits 1 = .ok (.bipush 9, 2) := by decide +kernel
theorem dX0_fits_3 : decode cX0_fits 3 = .ok (.irem, 1) := by decide +kernel
theorem dX0_fits_4 : decode cX0_fits 4 = .ok (.bipush 8, 2) := by decide +kernel
theorem dX0_fits_6 : decode cX0_fits 6 = .ok (.if_icmp .ne 15, 3) := by decide +kernel
theorem dX0_fits_9 : decode cX0_fits 9 = .ok (.iload_n 1, 1) := by decide +kernel
theorem dX0_fits_10 : decode cX0_fits 10 = .ok (.bipush 59, 2) := by decide +kernel
theorem dX0_fits_12 : decode cX0_fits 12 = .ok (.if_icmp .ne 7, 3) := by decide +kernel
theorem dX0_fits_15 : decode cX0_fits 15 = .ok (.iconst 1, 1) := by decide +kernel
theorem dX0_fits_16 : decode cX0_fits 16 = .ok (.goto 4, 3) := by decide +kernel
theorem dX0_fits_19 : decode cX0_fits 19 = .ok (.iconst 0, 1) := by decide +kernel
theorem dX0_fits_20 : decode cX0_fits 20 = .ok (.ireturn, 1) := by decide +kernel
theorem dX0_fits_21 : decode cX0_fits 21 = .ok (.iload_n 1, 1) := by decide +kernel
theorem dX0_fits_22 : decode cX0_fits 22 = .ok (.bipush 46, 2) := by decide +kernel
theorem dX0_fits_24 : decode cX0_fits 24 = .ok (.if_icmp .eq 15, 3) := by decide +kernel
theorem dX0_fits_27 : decode cX0_fits 27 = .ok (.iload_n 1, 1) := by decide +kernel
theorem dX0_fits_28 : decode cX0_fits 28 = .ok (.bipush 35, 2) := by decide +kernel
theorem dX0_fits_30 : decode cX0_fits 30 = .ok (.if_icmp .eq 9, 3) := by decide +kernel
theorem dX0_fits_33 : decode cX0_fits 33 = .ok (.iload_n 1, 1) := by decide +kernel
theorem dX0_fits_34 : decode cX0_fits 34 = .ok (.bipush 111, 2) := by decide +kernel
theorem dX0_fits_36 : decode cX0_fits 36 = .ok (.if_icmp .ne 7, 3) := by decide +kernel
theorem dX0_fits_39 : decode cX0_fits 39 = .ok (.iconst 1, 1) := by decide +kernel
theorem dX0_fits_40 : decode cX0_fits 40 = .ok (.goto 4, 3) := by decide +kernel
theorem dX0_fits_43 : decode cX0_fits 43 = .ok (.iconst 0, 1) := by decide +kernel
theorem dX0_fits_44 : decode cX0_fits 44 = .ok (.ireturn, 1) := by decide +kernel
theorem dX1_init_0 : decode cX1_init 0 = .ok (.aload_n 0, 1) := by decide +kernel
theorem dX1_init_1 : decode cX1_init 1 = .ok (.invokespecial 3, 3) := by decide +kernel
theorem dX1_init_4 : decode cX1_init 4 = .ok (.aload_n 0, 1) := by decide +kernel
theorem dX1_init_5 : decode cX1_init 5 = .ok (.bipush 64, 2) := by decide +kernel
theorem dX1_init_7 : decode cX1_init 7 = .ok (.newarray .int, 2) := by decide +kernel
theorem dX1_init_9 : decode cX1_init 9 = .ok (.putfield 9, 3) := by decide +kernel
theorem dX1_init_12 : decode cX1_init 12 = .ok (.aload_n 0, 1) := by decide +kernel
theorem dX1_init_13 : decode cX1_init 13 = .ok (.bipush 64, 2) := by decide +kernel
theorem dX1_init_15 : decode cX1_init 15 = .ok (.newarray .int, 2) := by decide +kernel
theorem dX1_init_17 : decode cX1_init 17 = .ok (.putfield 15, 3) := by decide +kernel
theorem dX1_init_20 : decode cX1_init 20 = .ok (.aload_n 0, 1) := by decide +kernel
theorem dX1_init_21 : decode cX1_init 21 = .ok (.bipush 64, 2) := by decide +kernel
theorem dX1_init_23 : decode cX1_init 23 = .ok (.newarray .int, 2) := by decide +kernel
theorem dX1_init_25 : decode cX1_init 25 = .ok (.putfield 18, 3) := by decide +kernel
theorem dX1_init_28 : decode cX1_init 28 = .ok (.aload_n 0, 1) := by decide +kernel
theorem dX1_init_29 : decode cX1_init 29 = .ok (.bipush 64, 2) := by decide +kernel
theorem dX1_init_31 : decode cX1_init 31 = .ok (.newarray .int, 2) := by decide +kernel
theorem dX1_init_33 : decode cX1_init 33 = .ok (.putfield 21, 3) := by decide +kernel
theorem dX1_init_36 : decode cX1_init 36 = .ok (.aload_n 0, 1) := by decide +kernel
theorem dX1_init_37 : decode cX1_init 37 = .ok (.bipush 64, 2) := by decide +kernel
theorem dX1_init_39 : decode cX1_init 39 = .ok (.newarray .int, 2) := by decide +kernel
theorem dX1_init_41 : decode cX1_init 41 = .ok (.putfield 24, 3) := by decide +kernel
theorem dX1_init_44 : decode cX1_init 44 = .ok (.return_, 1) := by decide +kernel
theorem dX1_addSnow_0 : decode cX1_addSnow 0 = .ok (.iconst 0, 1) := by decide +kernel
theorem dX1_addSnow_1 : decode cX1_addSnow 1 = .ok (.istore 4, 2) := by decide +kernel
theorem dX1_addSnow_3 : decode cX1_addSnow 3 = .ok (.iconst 0, 1) := by decide +kernel
theorem dX1_addSnow_4 : decode cX1_addSnow 4 = .ok (.istore 5, 2) := by decide +kernel
theorem dX1_addSnow_6 : decode cX1_addSnow 6 = .ok (.iload 5, 2) := by decide +kernel
theorem dX1_addSnow_8 : decode cX1_addSnow 8 = .ok (.bipush 64, 2) := by decide +kernel
theorem dX1_addSnow_10 : decode cX1_addSnow 10 = .ok (.if_icmp .ge 68, 3) := by decide +kernel
theorem dX1_addSnow_13 : decode cX1_addSnow 13 = .ok (.lload_n 2, 1) := by decide +kernel
theorem dX1_addSnow_14 : decode cX1_addSnow 14 = .ok (.iload 5, 2) := by decide +kernel
theorem dX1_addSnow_16 : decode cX1_addSnow 16 = .ok (.invokestatic 27, 3) := by decide +kernel
theorem dX1_addSnow_19 : decode cX1_addSnow 19 = .ok (.ifCond .eq 13, 3) := by decide +kernel
theorem dX1_addSnow_22 : decode cX1_addSnow 22 = .ok (.aload_n 0, 1) := by decide +kernel
theorem dX1_addSnow_23 : decode cX1_addSnow 23 = .ok (.getfield 9, 3) := by decide +kernel
theorem dX1_addSnow_26 : decode cX1_addSnow 26 = .ok (.iload 5, 2) := by decide +kernel
theorem dX1_addSnow_28 : decode cX1_addSnow 28 = .ok (.iaload, 1) := by decide +kernel
theorem dX1_addSnow_29 : decode cX1_addSnow 29 = .ok (.goto 17, 3) := by decide +kernel
theorem dX1_addSnow_32 : decode cX1_addSnow 32 = .ok (.bipush 30, 2) := by decide +kernel
theorem dX1_addSnow_34 : decode cX1_addSnow 34 = .ok (.aload_n 0, 1) := by decide +kernel
theorem dX1_addSnow_35 : decode cX1_addSnow 35 = .ok (.getfield 9, 3) := by decide +kernel
theorem dX1_addSnow_38 : decode cX1_addSnow 38 = .ok (.iload 5, 2) := by decide +kernel
theorem dX1_addSnow_40 : decode cX1_addSnow 40 = .ok (.iaload, 1) := by decide +kernel
theorem dX1_addSnow_41 : decode cX1_addSnow 41 = .ok (.iload_n 1, 1) := by decide +kernel
theorem dX1_addSnow_42 : decode cX1_addSnow 42 = .ok (.iadd, 1) := by decide +kernel
theorem dX1_addSnow_43 : decode cX1_addSnow 43 = .ok (.invokestatic 31, 3) := by decide +kernel
theorem dX1_addSnow_46 : decode cX1_addSnow 46 = .ok (.istore 6, 2) := by decide +kernel
theorem dX1_addSnow_48 : decode cX1_addSnow 48 = .ok (.iload 6, 2) := by decide +kernel
theorem dX1_addSnow_50 : decode cX1_addSnow 50 = .ok (.aload_n 0, 1) := by decide +kernel
theorem dX1_addSnow_51 : decode cX1_addSnow 51 = .ok (.getfield 9, 3) := by decide +kernel
theorem dX1_addSnow_54 : decode cX1_addSnow 54 = .ok (.iload 5, 2) := by decide +kernel
theorem dX1_addSnow_56 : decode cX1_addSnow 56 = .ok (.iaload, 1) := by decide +kernel
theorem dX1_addSnow_57 : decode cX1_addSnow 57 = .ok (.if_icmp .le 6, 3) := by decide +kernel
theorem dX1_addSnow_60 : decode cX1_addSnow 60 = .ok (.iinc 4 1, 3) := by decide +kernel
theorem dX1_addSnow_63 : decode cX1_addSnow 63 = .ok (.aload_n 0, 1) := by decide +kernel
theorem dX1_addSnow_64 : decode cX1_addSnow 64 = .ok (.getfield 9, 3) := by decide +kernel
theorem dX1_addSnow_67 : decode cX1_addSnow 67 = .ok (.iload 5, 2) := by decide +kernel
theorem dX1_addSnow_69 : decode cX1_addSnow 69 = .ok (.iload 6, 2) := by decide +kernel
theorem dX1_addSnow_71 : decode cX1_addSnow 71 = .ok (.iastore, 1) := by decide +kernel
theorem dX1_addSnow_72 : decode cX1_addSnow 72 = .ok (.iinc 5 1, 3) := by decide +kernel
theorem dX1_addSnow_75 : decode cX1_addSnow 75 = .ok (.goto (-69), 3) := by decide +kernel
theorem dX1_addSnow_78 : decode cX1_addSnow 78 = .ok (.iload 4, 2) := by decide +kernel
theorem dX1_addSnow_80 : decode cX1_addSnow 80 = .ok (.ireturn, 1) := by decide +kernel
theorem dX1_melt_0 : decode cX1_melt 0 = .ok (.iconst 0, 1) := by decide +kernel
theorem dX1_melt_1 : decode cX1_melt 1 = .ok (.istore_n 2, 1) := by decide +kernel
theorem dX1_melt_2 : decode cX1_melt 2 = .ok (.iconst 0, 1) := by decide +kernel
theorem dX1_melt_3 : decode cX1_melt 3 = .ok (.istore_n 3, 1) := by decide +kernel
theorem dX1_melt_4 : decode cX1_melt 4 = .ok (.iload_n 3, 1) := by decide +kernel
theorem dX1_melt_5 : decode cX1_melt 5 = .ok (.bipush 64, 2) := by decide +kernel
theorem dX1_melt_7 : decode cX1_melt 7 = .ok (.if_icmp .ge 97, 3) := by decide +kernel
theorem dX1_melt_10 : decode cX1_melt 10 = .ok (.iload_n 1, 1) := by decide +kernel
theorem dX1_melt_11 : decode cX1_melt 11 = .ok (.ifCond .le 33, 3) := by decide +kernel
theorem dX1_melt_14 : decode cX1_melt 14 = .ok (.aload_n 0, 1) := by decide +kernel
theorem dX1_melt_15 : decode cX1_melt 15 = .ok (.getfield 9, 3) := by decide +kernel
theorem dX1_melt_18 : decode cX1_melt 18 = .ok (.iload_n 3, 1) := by decide +kernel
theorem dX1_melt_19 : decode cX1_melt 19 = .ok (.iaload, 1) := by decide +kernel
theorem dX1_melt_20 : decode cX1_melt 20 = .ok (.ifCond .gt 21, 3) := by decide +kernel
theorem dX1_melt_23 : decode cX1_melt 23 = .ok (.aload_n 0, 1) := by decide +kernel
theorem dX1_melt_24 : decode cX1_melt 24 = .ok (.getfield 15, 3) := by decide +kernel
theorem dX1_melt_27 : decode cX1_melt 27 = .ok (.iload_n 3, 1) := by decide +kernel
theorem dX1_melt_28 : decode cX1_melt 28 = .ok (.iaload, 1) := by decide +kernel
theorem dX1_melt_29 : decode cX1_melt 29 = .ok (.ifCond .gt 12, 3) := by decide +kernel
theorem dX1_melt_32 : decode cX1_melt 32 = .ok (.aload_n 0, 1) := by decide +kernel
theorem dX1_melt_33 : decode cX1_melt 33 = .ok (.getfield 18, 3) := by decide +kernel
theorem dX1_melt_36 : decode cX1_melt 36 = .ok (.iload_n 3, 1) := by decide +kernel
theorem dX1_melt_37 : decode cX1_melt 37 = .ok (.iaload, 1) := by decide +kernel
theorem dX1_melt_38 : decode cX1_melt 38 = .ok (.ifCond .le 6, 3) := by decide +kernel
theorem dX1_melt_41 : decode cX1_melt 41 = .ok (.iinc 2 1, 3) := by decide +kernel
theorem dX1_melt_44 : decode cX1_melt 44 = .ok (.aload_n 0, 1) := by decide +kernel
theorem dX1_melt_45 : decode cX1_melt 45 = .ok (.getfield 9, 3) := by decide +kernel
theorem dX1_melt_48 : decode cX1_melt 48 = .ok (.iload_n 3, 1) := by decide +kernel
theorem dX1_melt_49 : decode cX1_melt 49 = .ok (.iconst 0, 1) := by decide +kernel
theorem dX1_melt_50 : decode cX1_melt 50 = .ok (.aload_n 0, 1) := by decide +kernel
theorem dX1_melt_51 : decode cX1_melt 51 = .ok (.getfield 9, 3) := by decide +kernel
theorem dX1_melt_54 : decode cX1_melt 54 = .ok (.iload_n 3, 1) := by decide +kernel
theorem dX1_melt_55 : decode cX1_melt 55 = .ok (.iaload, 1) := by decide +kernel
theorem dX1_melt_56 : decode cX1_melt 56 = .ok (.iload_n 1, 1) := by decide +kernel
theorem dX1_melt_57 : decode cX1_melt 57 = .ok (.isub, 1) := by decide +kernel
theorem dX1_melt_58 : decode cX1_melt 58 = .ok (.invokestatic 37, 3) := by decide +kernel
theorem dX1_melt_61 : decode cX1_melt 61 = .ok (.iastore, 1) := by decide +kernel
theorem dX1_melt_62 : decode cX1_melt 62 = .ok (.aload_n 0, 1) := by decide +kernel
theorem dX1_melt_63 : decode cX1_melt 63 = .ok (.getfield 15, 3) := by decide +kernel
theorem dX1_melt_66 : decode cX1_melt 66 = .ok (.iload_n 3, 1) := by decide +kernel
theorem dX1_melt_67 : decode cX1_melt 67 = .ok (.iconst 0, 1) := by decide +kernel
theorem dX1_melt_68 : decode cX1_melt 68 = .ok (.aload_n 0, 1) := by decide +kernel
theorem dX1_melt_69 : decode cX1_melt 69 = .ok (.getfield 15, 3) := by decide +kernel
theorem dX1_melt_72 : decode cX1_melt 72 = .ok (.iload_n 3, 1) := by decide +kernel
theorem dX1_melt_73 : decode cX1_melt 73 = .ok (.iaload, 1) := by decide +kernel
theorem dX1_melt_74 : decode cX1_melt 74 = .ok (.iload_n 1, 1) := by decide +kernel
theorem dX1_melt_75 : decode cX1_melt 75 = .ok (.isub, 1) := by decide +kernel
theorem dX1_melt_76 : decode cX1_melt 76 = .ok (.invokestatic 37, 3) := by decide +kernel
theorem dX1_melt_79 : decode cX1_melt 79 = .ok (.iastore, 1) := by decide +kernel
theorem dX1_melt_80 : decode cX1_melt 80 = .ok (.aload_n 0, 1) := by decide +kernel
theorem dX1_melt_81 : decode cX1_melt 81 = .ok (.getfield 18, 3) := by decide +kernel
theorem dX1_melt_84 : decode cX1_melt 84 = .ok (.iload_n 3, 1) := by decide +kernel
theorem dX1_melt_85 : decode cX1_melt 85 = .ok (.iconst 0, 1) := by decide +kernel
theorem dX1_melt_86 : decode cX1_melt 86 = .ok (.aload_n 0, 1) := by decide +kernel
theorem dX1_melt_87 : decode cX1_melt 87 = .ok (.getfield 18, 3) := by decide +kernel
theorem dX1_melt_90 : decode cX1_melt 90 = .ok (.iload_n 3, 1) := by decide +kernel
theorem dX1_melt_91 : decode cX1_melt 91 = .ok (.iaload, 1) := by decide +kernel
theorem dX1_melt_92 : decode cX1_melt 92 = .ok (.iload_n 1, 1) := by decide +kernel
theorem dX1_melt_93 : decode cX1_melt 93 = .ok (.isub, 1) := by decide +kernel
theorem dX1_melt_94 : decode cX1_melt 94 = .ok (.invokestatic 37, 3) := by decide +kernel
theorem dX1_melt_97 : decode cX1_melt 97 = .ok (.iastore, 1) := by decide +kernel
theorem dX1_melt_98 : decode cX1_melt 98 = .ok (.iinc 3 1, 3) := by decide +kernel
theorem dX1_melt_101 : decode cX1_melt 101 = .ok (.goto (-97), 3) := by decide +kernel
theorem dX1_melt_104 : decode cX1_melt 104 = .ok (.iload_n 2, 1) := by decide +kernel
theorem dX1_melt_105 : decode cX1_melt 105 = .ok (.ireturn, 1) := by decide +kernel
theorem dX1_freeze_0 : decode cX1_freeze 0 = .ok (.iconst 0, 1) := by decide +kernel
theorem dX1_freeze_1 : decode cX1_freeze 1 = .ok (.istore_n 1, 1) := by decide +kernel
theorem dX1_freeze_2 : decode cX1_freeze 2 = .ok (.iconst 0, 1) := by decide +kernel
theorem dX1_freeze_3 : decode cX1_freeze 3 = .ok (.istore_n 2, 1) := by decide +kernel
theorem dX1_freeze_4 : decode cX1_freeze 4 = .ok (.iload_n 2, 1) := by decide +kernel
theorem dX1_freeze_5 : decode cX1_freeze 5 = .ok (.bipush 64, 2) := by decide +kernel
theorem dX1_freeze_7 : decode cX1_freeze 7 = .ok (.if_icmp .ge 33, 3) := by decide +kernel
theorem dX1_freeze_10 : decode cX1_freeze 10 = .ok (.aload_n 0, 1) := by decide +kernel
theorem dX1_freeze_11 : decode cX1_freeze 11 = .ok (.getfield 18, 3) := by decide +kernel
theorem dX1_freeze_14 : decode cX1_freeze 14 = .ok (.iload_n 2, 1) := by decide +kernel
theorem dX1_freeze_15 : decode cX1_freeze 15 = .ok (.aload_n 0, 1) := by decide +kernel
theorem dX1_freeze_16 : decode cX1_freeze 16 = .ok (.getfield 15, 3) := by decide +kernel
theorem dX1_freeze_19 : decode cX1_freeze 19 = .ok (.iload_n 2, 1) := by decide +kernel
theorem dX1_freeze_20 : decode cX1_freeze 20 = .ok (.iaload, 1) := by decide +kernel
theorem dX1_freeze_21 : decode cX1_freeze 21 = .ok (.iastore, 1) := by decide +kernel
theorem dX1_freeze_22 : decode cX1_freeze 22 = .ok (.aload_n 0, 1) := by decide +kernel
theorem dX1_freeze_23 : decode cX1_freeze 23 = .ok (.getfield 18, 3) := by decide +kernel
theorem dX1_freeze_26 : decode cX1_freeze 26 = .ok (.iload_n 2, 1) := by decide +kernel
theorem dX1_freeze_27 : decode cX1_freeze 27 = .ok (.iaload, 1) := by decide +kernel
theorem dX1_freeze_28 : decode cX1_freeze 28 = .ok (.ifCond .le 6, 3) := by decide +kernel
theorem dX1_freeze_31 : decode cX1_freeze 31 = .ok (.iinc 1 1, 3) := by decide +kernel
theorem dX1_freeze_34 : decode cX1_freeze 34 = .ok (.iinc 2 1, 3) := by decide +kernel
theorem dX1_freeze_37 : decode cX1_freeze 37 = .ok (.goto (-33), 3) := by decide +kernel
theorem dX1_freeze_40 : decode cX1_freeze 40 = .ok (.iload_n 1, 1) := by decide +kernel
theorem dX1_freeze_41 : decode cX1_freeze 41 = .ok (.ireturn, 1) := by decide +kernel
theorem dX1_shovel_0 : decode cX1_shovel 0 = .ok (.aload_n 0, 1) := by decide +kernel
theorem dX1_shovel_1 : decode cX1_shovel 1 = .ok (.getfield 9, 3) := by decide +kernel
theorem dX1_shovel_4 : decode cX1_shovel 4 = .ok (.iload_n 1, 1) := by decide +kernel
theorem dX1_shovel_5 : decode cX1_shovel 5 = .ok (.iaload, 1) := by decide +kernel
theorem dX1_shovel_6 : decode cX1_shovel 6 = .ok (.aload_n 0, 1) := by decide +kernel
theorem dX1_shovel_7 : decode cX1_shovel 7 = .ok (.getfield 15, 3) := by decide +kernel
theorem dX1_shovel_10 : decode cX1_shovel 10 = .ok (.iload_n 1, 1) := by decide +kernel
theorem dX1_shovel_11 : decode cX1_shovel 11 = .ok (.iaload, 1) := by decide +kernel
theorem dX1_shovel_12 : decode cX1_shovel 12 = .ok (.iadd, 1) := by decide +kernel
theorem dX1_shovel_13 : decode cX1_shovel 13 = .ok (.istore_n 3, 1) := by decide +kernel
theorem dX1_shovel_14 : decode cX1_shovel 14 = .ok (.aload_n 0, 1) := by decide +kernel
theorem dX1_shovel_15 : decode cX1_shovel 15 = .ok (.getfield 9, 3) := by decide +kernel
theorem dX1_shovel_18 : decode cX1_shovel 18 = .ok (.iload_n 1, 1) := by decide +kernel
theorem dX1_shovel_19 : decode cX1_shovel 19 = .ok (.iconst 0, 1) := by decide +kernel
theorem dX1_shovel_20 : decode cX1_shovel 20 = .ok (.iastore, 1) := by decide +kernel
theorem dX1_shovel_21 : decode cX1_shovel 21 = .ok (.aload_n 0, 1) := by decide +kernel
theorem dX1_shovel_22 : decode cX1_shovel 22 = .ok (.getfield 15, 3) := by decide +kernel
theorem dX1_shovel_25 : decode cX1_shovel 25 = .ok (.iload_n 1, 1) := by decide +kernel
theorem dX1_shovel_26 : decode cX1_shovel 26 = .ok (.iconst 0, 1) := by decide +kernel
theorem dX1_shovel_27 : decode cX1_shovel 27 = .ok (.iastore, 1) := by decide +kernel
theorem dX1_shovel_28 : decode cX1_shovel 28 = .ok (.aload_n 0, 1) := by decide +kernel
theorem dX1_shovel_29 : decode cX1_shovel 29 = .ok (.getfield 9, 3) := by decide +kernel
theorem dX1_shovel_32 : decode cX1_shovel 32 = .ok (.iload_n 2, 1) := by decide +kernel
theorem dX1_shovel_33 : decode cX1_shovel 33 = .ok (.bipush 30, 2) := by decide +kernel
theorem dX1_shovel_35 : decode cX1_shovel 35 = .ok (.aload_n 0, 1) := by decide +kernel
theorem dX1_shovel_36 : decode cX1_shovel 36 = .ok (.getfield 9, 3) := by decide +kernel
theorem dX1_shovel_39 : decode cX1_shovel 39 = .ok (.iload_n 2, 1) := by decide +kernel
theorem dX1_shovel_40 : decode cX1_shovel 40 = .ok (.iaload, 1) := by decide +kernel
theorem dX1_shovel_41 : decode cX1_shovel 41 = .ok (.iload_n 3, 1) := by decide +kernel
theorem dX1_shovel_42 : decode cX1_shovel 42 = .ok (.iadd, 1) := by decide +kernel
theorem dX1_shovel_43 : decode cX1_shovel 43 = .ok (.invokestatic 31, 3) := by decide +kernel
theorem dX1_shovel_46 : decode cX1_shovel 46 = .ok (.iastore, 1) := by decide +kernel
theorem dX1_shovel_47 : decode cX1_shovel 47 = .ok (.iload_n 3, 1) := by decide +kernel
theorem dX1_shovel_48 : decode cX1_shovel 48 = .ok (.ireturn, 1) := by decide +kernel
theorem dX1_setSnow_0 : decode cX1_setSnow 0 = .ok (.iconst 0, 1) := by decide +kernel
theorem dX1_setSnow_1 : decode cX1_setSnow 1 = .ok (.istore_n 2, 1) := by decide +kernel
theorem dX1_setSnow_2 : decode cX1_setSnow 2 = .ok (.iload_n 2, 1) := by decide +kernel
theorem dX1_setSnow_3 : decode cX1_setSnow 3 = .ok (.aload_n 1, 1) := by decide +kernel
theorem dX1_setSnow_4 : decode cX1_setSnow 4 = .ok (.getfield 40, 3) := by decide +kernel
theorem dX1_setSnow_7 : decode cX1_setSnow 7 = .ok (.if_icmp .ge 43, 3) := by decide +kernel
theorem dX1_setSnow_10 : decode cX1_setSnow 10 = .ok (.aload_n 1, 1) := by decide +kernel
theorem dX1_setSnow_11 : decode cX1_setSnow 11 = .ok (.getfield 46, 3) := by decide +kernel
theorem dX1_setSnow_14 : decode cX1_setSnow 14 = .ok (.iload_n 2, 1) := by decide +kernel
theorem dX1_setSnow_15 : decode cX1_setSnow 15 = .ok (.iaload, 1) := by decide +kernel
theorem dX1_setSnow_16 : decode cX1_setSnow 16 = .ok (.ifCond .lt 14, 3) := by decide +kernel
theorem dX1_setSnow_19 : decode cX1_setSnow 19 = .ok (.aload_n 1, 1) := by decide +kernel
theorem dX1_setSnow_20 : decode cX1_setSnow 20 = .ok (.getfield 46, 3) := by decide +kernel
theorem dX1_setSnow_23 : decode cX1_setSnow 23 = .ok (.iload_n 2, 1) := by decide +kernel
theorem dX1_setSnow_24 : decode cX1_setSnow 24 = .ok (.iaload, 1) := by decide +kernel
theorem dX1_setSnow_25 : decode cX1_setSnow 25 = .ok (.bipush 30, 2) := by decide +kernel
theorem dX1_setSnow_27 : decode cX1_setSnow 27 = .ok (.if_icmp .le 5, 3) := by decide +kernel
theorem dX1_setSnow_30 : decode cX1_setSnow 30 = .ok (.iload_n 2, 1) := by decide +kernel
theorem dX1_setSnow_31 : decode cX1_setSnow 31 = .ok (.ireturn, 1) := by decide +kernel
theorem dX1_setSnow_32 : decode cX1_setSnow 32 = .ok (.aload_n 0, 1) := by decide +kernel
theorem dX1_setSnow_33 : decode cX1_setSnow 33 = .ok (.getfield 9, 3) := by decide +kernel
theorem dX1_setSnow_36 : decode cX1_setSnow 36 = .ok (.iload_n 2, 1) := by decide +kernel
theorem dX1_setSnow_37 : decode cX1_setSnow 37 = .ok (.aload_n 1, 1) := by decide +kernel
theorem dX1_setSnow_38 : decode cX1_setSnow 38 = .ok (.getfield 46, 3) := by decide +kernel
theorem dX1_setSnow_41 : decode cX1_setSnow 41 = .ok (.iload_n 2, 1) := by decide +kernel
theorem dX1_setSnow_42 : decode cX1_setSnow 42 = .ok (.iaload, 1) := by decide +kernel
theorem dX1_setSnow_43 : decode cX1_setSnow 43 = .ok (.iastore, 1) := by decide +kernel
theorem dX1_setSnow_44 : decode cX1_setSnow 44 = .ok (.iinc 2 1, 3) := by decide +kernel
theorem dX1_setSnow_47 : decode cX1_setSnow 47 = .ok (.goto (-45), 3) := by decide +kernel
theorem dX1_setSnow_50 : decode cX1_setSnow 50 = .ok (.aload_n 1, 1) := by decide +kernel
theorem dX1_setSnow_51 : decode cX1_setSnow 51 = .ok (.getfield 40, 3) := by decide +kernel
theorem dX1_setSnow_54 : decode cX1_setSnow 54 = .ok (.ireturn, 1) := by decide +kernel
theorem dX1_treadAs_0 : decode cX1_treadAs 0 = .ok (.iconst 0, 1) := by decide +kernel
theorem dX1_treadAs_1 : decode cX1_treadAs 1 = .ok (.istore_n 2, 1) := by decide +kernel
theorem dX1_treadAs_2 : decode cX1_treadAs 2 = .ok (.iload_n 2, 1) := by decide +kernel
theorem dX1_treadAs_3 : decode cX1_treadAs 3 = .ok (.bipush 64, 2) := by decide +kernel
theorem dX1_treadAs_5 : decode cX1_treadAs 5 = .ok (.if_icmp .ge 67, 3) := by decide +kernel
theorem dX1_treadAs_8 : decode cX1_treadAs 8 = .ok (.aload_n 0, 1) := by decide +kernel
theorem dX1_treadAs_9 : decode cX1_treadAs 9 = .ok (.getfield 15, 3) := by decide +kernel
theorem dX1_treadAs_12 : decode cX1_treadAs 12 = .ok (.iload_n 2, 1) := by decide +kernel
theorem dX1_treadAs_13 : decode cX1_treadAs 13 = .ok (.bipush 30, 2) := by decide +kernel
theorem dX1_treadAs_15 : decode cX1_treadAs 15 = .ok (.aload_n 0, 1) := by decide +kernel
theorem dX1_treadAs_16 : decode cX1_treadAs 16 = .ok (.getfield 15, 3) := by decide +kernel
theorem dX1_treadAs_19 : decode cX1_treadAs 19 = .ok (.iload_n 2, 1) := by decide +kernel
theorem dX1_treadAs_20 : decode cX1_treadAs 20 = .ok (.iaload, 1) := by decide +kernel
theorem dX1_treadAs_21 : decode cX1_treadAs 21 = .ok (.aload_n 0, 1) := by decide +kernel
theorem dX1_treadAs_22 : decode cX1_treadAs 22 = .ok (.getfield 9, 3) := by decide +kernel
theorem dX1_treadAs_25 : decode cX1_treadAs 25 = .ok (.iload_n 2, 1) := by decide +kernel
theorem dX1_treadAs_26 : decode cX1_treadAs 26 = .ok (.iaload, 1) := by decide +kernel
theorem dX1_treadAs_27 : decode cX1_treadAs 27 = .ok (.iadd, 1) := by decide +kernel
theorem dX1_treadAs_28 : decode cX1_treadAs 28 = .ok (.aload_n 1, 1) := by decide +kernel
theorem dX1_treadAs_29 : decode cX1_treadAs 29 = .ok (.getfield 49, 3) := by decide +kernel
theorem dX1_treadAs_32 : decode cX1_treadAs 32 = .ok (.iload_n 2, 1) := by decide +kernel
theorem dX1_treadAs_33 : decode cX1_treadAs 33 = .ok (.iaload, 1) := by decide +kernel
theorem dX1_treadAs_34 : decode cX1_treadAs 34 = .ok (.isub, 1) := by decide +kernel
theorem dX1_treadAs_35 : decode cX1_treadAs 35 = .ok (.invokestatic 31, 3) := by decide +kernel
theorem dX1_treadAs_38 : decode cX1_treadAs 38 = .ok (.iastore, 1) := by decide +kernel
theorem dX1_treadAs_39 : decode cX1_treadAs 39 = .ok (.aload_n 0, 1) := by decide +kernel
theorem dX1_treadAs_40 : decode cX1_treadAs 40 = .ok (.getfield 9, 3) := by decide +kernel
theorem dX1_treadAs_43 : decode cX1_treadAs 43 = .ok (.iload_n 2, 1) := by decide +kernel
theorem dX1_treadAs_44 : decode cX1_treadAs 44 = .ok (.aload_n 1, 1) := by decide +kernel
theorem dX1_treadAs_45 : decode cX1_treadAs 45 = .ok (.getfield 49, 3) := by decide +kernel
theorem dX1_treadAs_48 : decode cX1_treadAs 48 = .ok (.iload_n 2, 1) := by decide +kernel
theorem dX1_treadAs_49 : decode cX1_treadAs 49 = .ok (.iaload, 1) := by decide +kernel
theorem dX1_treadAs_50 : decode cX1_treadAs 50 = .ok (.iastore, 1) := by decide +kernel
theorem dX1_treadAs_51 : decode cX1_treadAs 51 = .ok (.aload_n 0, 1) := by decide +kernel
theorem dX1_treadAs_52 : decode cX1_treadAs 52 = .ok (.getfield 21, 3) := by decide +kernel
theorem dX1_treadAs_55 : decode cX1_treadAs 55 = .ok (.iload_n 2, 1) := by decide +kernel
theorem dX1_treadAs_56 : decode cX1_treadAs 56 = .ok (.dup2, 1) := by decide +kernel
theorem dX1_treadAs_57 : decode cX1_treadAs 57 = .ok (.iaload, 1) := by decide +kernel
theorem dX1_treadAs_58 : decode cX1_treadAs 58 = .ok (.aload_n 1, 1) := by decide +kernel
theorem dX1_treadAs_59 : decode cX1_treadAs 59 = .ok (.getfield 52, 3) := by decide +kernel
theorem dX1_treadAs_62 : decode cX1_treadAs 62 = .ok (.iload_n 2, 1) := by decide +kernel
theorem dX1_treadAs_63 : decode cX1_treadAs 63 = .ok (.iaload, 1) := by decide +kernel
theorem dX1_treadAs_64 : decode cX1_treadAs 64 = .ok (.iadd, 1) := by decide +kernel
theorem dX1_treadAs_65 : decode cX1_treadAs 65 = .ok (.iastore, 1) := by decide +kernel
theorem dX1_treadAs_66 : decode cX1_treadAs 66 = .ok (.iinc 2 1, 3) := by decide +kernel
theorem dX1_treadAs_69 : decode cX1_treadAs 69 = .ok (.goto (-67), 3) := by decide +kernel
theorem dX1_treadAs_72 : decode cX1_treadAs 72 = .ok (.return_, 1) := by decide +kernel
theorem dX2_init_0 : decode cX2_init 0 = .ok (.aload_n 0, 1) := by decide +kernel
theorem dX2_init_1 : decode cX2_init 1 = .ok (.invokespecial 3, 3) := by decide +kernel
theorem dX2_init_4 : decode cX2_init 4 = .ok (.aload_n 0, 1) := by decide +kernel
theorem dX2_init_5 : decode cX2_init 5 = .ok (.bipush 6, 2) := by decide +kernel
theorem dX2_init_7 : decode cX2_init 7 = .ok (.anewarray 9, 3) := by decide +kernel
theorem dX2_init_10 : decode cX2_init 10 = .ok (.putfield 11, 3) := by decide +kernel
theorem dX2_init_13 : decode cX2_init 13 = .ok (.aload_n 0, 1) := by decide +kernel
theorem dX2_init_14 : decode cX2_init 14 = .ok (.iconst 5, 1) := by decide +kernel
theorem dX2_init_15 : decode cX2_init 15 = .ok (.newarray .int, 2) := by decide +kernel
theorem dX2_init_17 : decode cX2_init 17 = .ok (.putfield 17, 3) := by decide +kernel
theorem dX2_init_20 : decode cX2_init 20 = .ok (.aload_n 0, 1) := by decide +kernel
theorem dX2_init_21 : decode cX2_init 21 = .ok (.iconst 5, 1) := by decide +kernel
theorem dX2_init_22 : decode cX2_init 22 = .ok (.newarray .int, 2) := by decide +kernel
theorem dX2_init_24 : decode cX2_init 24 = .ok (.putfield 21, 3) := by decide +kernel
theorem dX2_init_27 : decode cX2_init 27 = .ok (.aload_n 0, 1) := by decide +kernel
theorem dX2_init_28 : decode cX2_init 28 = .ok (.iconst 5, 1) := by decide +kernel
theorem dX2_init_29 : decode cX2_init 29 = .ok (.newarray .int, 2) := by decide +kernel
theorem dX2_init_31 : decode cX2_init 31 = .ok (.putfield 24, 3) := by decide +kernel
theorem dX2_init_34 : decode cX2_init 34 = .ok (.aload_n 0, 1) := by decide +kernel
theorem dX2_init_35 : decode cX2_init 35 = .ok (.iconst 0, 1) := by decide +kernel
theorem dX2_init_36 : decode cX2_init 36 = .ok (.putfield 27, 3) := by decide +kernel
theorem dX2_init_39 : decode cX2_init 39 = .ok (.aload_n 0, 1) := by decide +kernel
theorem dX2_init_40 : decode cX2_init 40 = .ok (.iconst 0, 1) := by decide +kernel
theorem dX2_init_41 : decode cX2_init 41 = .ok (.putfield 31, 3) := by decide +kernel
theorem dX2_init_44 : decode cX2_init 44 = .ok (.aload_n 0, 1) := by decide +kernel
theorem dX2_init_45 : decode cX2_init 45 = .ok (.iconst 0, 1) := by decide +kernel
theorem dX2_init_46 : decode cX2_init 46 = .ok (.putfield 34, 3) := by decide +kernel
theorem dX2_init_49 : decode cX2_init 49 = .ok (.aload_n 0, 1) := by decide +kernel
theorem dX2_init_50 : decode cX2_init 50 = .ok (.iconst 0, 1) := by decide +kernel
theorem dX2_init_51 : decode cX2_init 51 = .ok (.putfield 37, 3) := by decide +kernel
theorem dX2_init_54 : decode cX2_init 54 = .ok (.aload_n 0, 1) := by decide +kernel
theorem dX2_init_55 : decode cX2_init 55 = .ok (.aload_n 1, 1) := by decide +kernel
theorem dX2_init_56 : decode cX2_init 56 = .ok (.putfield 40, 3) := by decide +kernel
theorem dX2_init_59 : decode cX2_init 59 = .ok (.aload_n 0, 1) := by decide +kernel
theorem dX2_init_60 : decode cX2_init 60 = .ok (.aload_n 2, 1) := by decide +kernel
theorem dX2_init_61 : decode cX2_init 61 = .ok (.putfield 44, 3) := by decide +kernel
theorem dX2_init_64 : decode cX2_init 64 = .ok (.iconst 0, 1) := by decide +kernel
theorem dX2_init_65 : decode cX2_init 65 = .ok (.istore 4, 2) := by decide +kernel
theorem dX2_init_67 : decode cX2_init 67 = .ok (.iload 4, 2) := by decide +kernel
theorem dX2_init_69 : decode cX2_init 69 = .ok (.iconst 5, 1) := by decide +kernel
theorem dX2_init_70 : decode cX2_init 70 = .ok (.if_icmp .gt 25, 3) := by decide +kernel
theorem dX2_init_73 : decode cX2_init 73 = .ok (.aload_n 0, 1) := by decide +kernel
theorem dX2_init_74 : decode cX2_init 74 = .ok (.getfield 11, 3) := by decide +kernel
theorem dX2_init_77 : decode cX2_init 77 = .ok (.iload 4, 2) := by decide +kernel
theorem dX2_init_79 : decode cX2_init 79 = .ok (.new 9, 3) := by decide +kernel
theorem dX2_init_82 : decode cX2_init 82 = .ok (.dup, 1) := by decide +kernel
theorem dX2_init_83 : decode cX2_init 83 = .ok (.aload_n 1, 1) := by decide +kernel
theorem dX2_init_84 : decode cX2_init 84 = .ok (.aload_n 3, 1) := by decide +kernel
theorem dX2_init_85 : decode cX2_init 85 = .ok (.invokespecial 48, 3) := by decide +kernel
theorem dX2_init_88 : decode cX2_init 88 = .ok (.aastore, 1) := by decide +kernel
theorem dX2_init_89 : decode cX2_init 89 = .ok (.iinc 4 1, 3) := by decide +kernel
theorem dX2_init_92 : decode cX2_init 92 = .ok (.goto (-25), 3) := by decide +kernel
theorem dX2_init_95 : decode cX2_init 95 = .ok (.return_, 1) := by decide +kernel
theorem dX2_tryAll_0 : decode cX2_tryAll 0 = .ok (.aload_n 0, 1) := by decide +kernel
theorem dX2_tryAll_1 : decode cX2_tryAll 1 = .ok (.getfield 44, 3) := by decide +kernel
theorem dX2_tryAll_4 : decode cX2_tryAll 4 = .ok (.getfield 51, 3) := by decide +kernel
theorem dX2_tryAll_7 : decode cX2_tryAll 7 = .ok (.iconst 5, 1) := by decide +kernel
theorem dX2_tryAll_8 : decode cX2_tryAll 8 = .ok (.invokestatic 56, 3) := by decide +kernel
theorem dX2_tryAll_11 : decode cX2_tryAll 11 = .ok (.istore_n 3, 1) := by decide +kernel
theorem dX2_tryAll_12 : decode cX2_tryAll 12 = .ok (.iconst 0, 1) := by decide +kernel
theorem dX2_tryAll_13 : decode cX2_tryAll 13 = .ok (.istore 4, 2) := by decide +kernel
theorem dX2_tryAll_15 : decode cX2_tryAll 15 = .ok (.iload 4, 2) := by decide +kernel
theorem dX2_tryAll_17 : decode cX2_tryAll 17 = .ok (.iload_n 3, 1) := by decide +kernel
theorem dX2_tryAll_18 : decode cX2_tryAll 18 = .ok (.if_icmp .ge 18, 3) := by decide +kernel
theorem dX2_tryAll_21 : decode cX2_tryAll 21 = .ok (.aload_n 0, 1) := by decide +kernel
theorem dX2_tryAll_22 : decode cX2_tryAll 22 = .ok (.getfield 17, 3) := by decide +kernel
theorem dX2_tryAll_25 : decode cX2_tryAll 25 = .ok (.iload 4, 2) := by decide +kernel
theorem dX2_tryAll_27 : decode cX2_tryAll 27 = .ok (.iload 4, 2) := by decide +kernel
theorem dX2_tryAll_29 : decode cX2_tryAll 29 = .ok (.iastore, 1) := by decide +kernel
theorem dX2_tryAll_30 : decode cX2_tryAll 30 = .ok (.iinc 4 1, 3) := by decide +kernel
theorem dX2_tryAll_33 : decode cX2_tryAll 33 = .ok (.goto (-18), 3) := by decide +kernel
theorem dX2_tryAll_36 : decode cX2_tryAll 36 = .ok (.aload_n 0, 1) := by decide +kernel
theorem dX2_tryAll_37 : decode cX2_tryAll 37 = .ok (.iconst 0, 1) := by decide +kernel
theorem dX2_tryAll_38 : decode cX2_tryAll 38 = .ok (.putfield 34, 3) := by decide +kernel
theorem dX2_tryAll_41 : decode cX2_tryAll 41 = .ok (.aload_n 0, 1) := by decide +kernel
theorem dX2_tryAll_42 : decode cX2_tryAll 42 = .ok (.iconst 0, 1) := by decide +kernel
theorem dX2_tryAll_43 : decode cX2_tryAll 43 = .ok (.putfield 37, 3) := by decide +kernel
theorem dX2_tryAll_46 : decode cX2_tryAll 46 = .ok (.aload_n 0, 1) := by decide +kernel
theorem dX2_tryAll_47 : decode cX2_tryAll 47 = .ok (.getfield 11, 3) := by decide +kernel
theorem dX2_tryAll_50 : decode cX2_tryAll 50 = .ok (.iconst 0, 1) := by decide +kernel
theorem dX2_tryAll_51 : decode cX2_tryAll 51 = .ok (.aaload, 1) := by decide +kernel
theorem dX2_tryAll_52 : decode cX2_tryAll 52 = .ok (.aload_n 1, 1) := by decide +kernel
theorem dX2_tryAll_53 : decode cX2_tryAll 53 = .ok (.invokevirtual 62, 3) := by decide +kernel
theorem dX2_tryAll_56 : decode cX2_tryAll 56 = .ok (.iconst 0, 1) := by decide +kernel
theorem dX2_tryAll_57 : decode cX2_tryAll 57 = .ok (.istore 4, 2) := by decide +kernel
theorem dX2_tryAll_59 : decode cX2_tryAll 59 = .ok (.iconst 0, 1) := by decide +kernel
theorem dX2_tryAll_60 : decode cX2_tryAll 60 = .ok (.istore 5, 2) := by decide +kernel
theorem dX2_tryAll_62 : decode cX2_tryAll 62 = .ok (.iload 5, 2) := by decide +kernel
theorem dX2_tryAll_64 : decode cX2_tryAll 64 = .ok (.bipush 120, 2) := by decide +kernel
theorem dX2_tryAll_66 : decode cX2_tryAll 66 = .ok (.if_icmp .ge 77, 3) := by decide +kernel
theorem dX2_tryAll_69 : decode cX2_tryAll 69 = .ok (.iload 4, 2) := by decide +kernel
theorem dX2_tryAll_71 : decode cX2_tryAll 71 = .ok (.iconst (-1), 1) := by decide +kernel
theorem dX2_tryAll_72 : decode cX2_tryAll 72 = .ok (.if_icmp .eq 71, 3) := by decide +kernel
theorem dX2_tryAll_75 : decode cX2_tryAll 75 = .ok (.aload_n 0, 1) := by decide +kernel
theorem dX2_tryAll_76 : decode cX2_tryAll 76 = .ok (.iload 4, 2) := by decide +kernel
theorem dX2_tryAll_78 : decode cX2_tryAll 78 = .ok (.iload_n 3, 1) := by decide +kernel
theorem dX2_tryAll_79 : decode cX2_tryAll 79 = .ok (.invokevirtual 66, 3) := by decide +kernel
theorem dX2_tryAll_82 : decode cX2_tryAll 82 = .ok (.aload_n 0, 1) := by decide +kernel
theorem dX2_tryAll_83 : decode cX2_tryAll 83 = .ok (.aload_n 0, 1) := by decide +kernel
theorem dX2_tryAll_84 : decode cX2_tryAll 84 = .ok (.getfield 11, 3) := by decide +kernel
theorem dX2_tryAll_87 : decode cX2_tryAll 87 = .ok (.iload_n 3, 1) := by decide +kernel
theorem dX2_tryAll_88 : decode cX2_tryAll 88 = .ok (.aaload, 1) := by decide +kernel
theorem dX2_tryAll_89 : decode cX2_tryAll 89 = .ok (.getfield 70, 3) := by decide +kernel
theorem dX2_tryAll_92 : decode cX2_tryAll 92 = .ok (.iload 5, 2) := by decide +kernel
theorem dX2_tryAll_94 : decode cX2_tryAll 94 = .ok (.ifCond .ne 7, 3) := by decide +kernel
theorem dX2_tryAll_97 : decode cX2_tryAll 97 = .ok (.iconst 1, 1) := by decide +kernel
theorem dX2_tryAll_98 : decode cX2_tryAll 98 = .ok (.goto 4, 3) := by decide +kernel
theorem dX2_tryAll_101 : decode cX2_tryAll 101 = .ok (.iconst 0, 1) := by decide +kernel
theorem dX2_tryAll_102 : decode cX2_tryAll 102 = .ok (.invokevirtual 73, 3) := by decide +kernel
theorem dX2_tryAll_105 : decode cX2_tryAll 105 = .ok (.aload_n 2, 1) := by decide +kernel
theorem dX2_tryAll_106 : decode cX2_tryAll 106 = .ok (.ifnull 24, 3) := by decide +kernel
theorem dX2_tryAll_109 : decode cX2_tryAll 109 = .ok (.aload_n 2, 1) := by decide +kernel
theorem dX2_tryAll_110 : decode cX2_tryAll 110 = .ok (.aload_n 0, 1) := by decide +kernel
theorem dX2_tryAll_111 : decode cX2_tryAll 111 = .ok (.getfield 11, 3) := by decide +kernel
theorem dX2_tryAll_114 : decode cX2_tryAll 114 = .ok (.iload_n 3, 1) := by decide +kernel
theorem dX2_tryAll_115 : decode cX2_tryAll 115 = .ok (.aaload, 1) := by decide +kernel
theorem dX2_tryAll_116 : decode cX2_tryAll 116 = .ok (.getfield 77, 3) := by decide +kernel
theorem dX2_tryAll_119 : decode cX2_tryAll 119 = .ok (.invokevirtual 80, 3) := by decide +kernel
theorem dX2_tryAll_122 : decode cX2_tryAll 122 = .ok (.ifCond .eq 8, 3) := by decide +kernel
theorem dX2_tryAll_125 : decode cX2_tryAll 125 = .ok (.aload_n 0, 1) := by decide +kernel
theorem dX2_tryAll_126 : decode cX2_tryAll 126 = .ok (.iload_n 3, 1) := by decide +kernel
theorem dX2_tryAll_127 : decode cX2_tryAll 127 = .ok (.invokevirtual 86, 3) := by decide +kernel
theorem dX2_tryAll_130 : decode cX2_tryAll 130 = .ok (.aload_n 0, 1) := by decide +kernel
theorem dX2_tryAll_131 : decode cX2_tryAll 131 = .ok (.iload_n 3, 1) := by decide +kernel
theorem dX2_tryAll_132 : decode cX2_tryAll 132 = .ok (.invokevirtual 90, 3) := by decide +kernel
theorem dX2_tryAll_135 : decode cX2_tryAll 135 = .ok (.istore 4, 2) := by decide +kernel
theorem dX2_tryAll_137 : decode cX2_tryAll 137 = .ok (.iinc 5 1, 3) := by decide +kernel
theorem dX2_tryAll_140 : decode cX2_tryAll 140 = .ok (.goto (-78), 3) := by decide +kernel
theorem dX2_tryAll_143 : decode cX2_tryAll 143 = .ok (.return_, 1) := by decide +kernel
theorem dX2_sendFrom_0 : decode cX2_sendFrom 0 = .ok (.iload_n 1, 1) := by decide +kernel
theorem dX2_sendFrom_1 : decode cX2_sendFrom 1 = .ok (.istore_n 3, 1) := by decide +kernel
theorem dX2_sendFrom_2 : decode cX2_sendFrom 2 = .ok (.iload_n 3, 1) := by decide +kernel
theorem dX2_sendFrom_3 : decode cX2_sendFrom 3 = .ok (.iload_n 2, 1) := by decide +kernel
theorem dX2_sendFrom_4 : decode cX2_sendFrom 4 = .ok (.if_icmp .ge 73, 3) := by decide +kernel
theorem dX2_sendFrom_7 : decode cX2_sendFrom 7 = .ok (.aload_n 0, 1) := by decide +kernel
theorem dX2_sendFrom_8 : decode cX2_sendFrom 8 = .ok (.getfield 11, 3) := by decide +kernel
theorem dX2_sendFrom_11 : decode cX2_sendFrom 11 = .ok (.iload_n 3, 1) := by decide +kernel
theorem dX2_sendFrom_12 : decode cX2_sendFrom 12 = .ok (.iconst 1, 1) := by decide +kernel
theorem dX2_sendFrom_13 : decode cX2_sendFrom 13 = .ok (.iadd, 1) := by decide +kernel
theorem dX2_sendFrom_14 : decode cX2_sendFrom 14 = .ok (.aaload, 1) := by decide +kernel
theorem dX2_sendFrom_15 : decode cX2_sendFrom 15 = .ok (.aload_n 0, 1) := by decide +kernel
theorem dX2_sendFrom_16 : decode cX2_sendFrom 16 = .ok (.getfield 11, 3) := by decide +kernel
theorem dX2_sendFrom_19 : decode cX2_sendFrom 19 = .ok (.iload_n 3, 1) := by decide +kernel
theorem dX2_sendFrom_20 : decode cX2_sendFrom 20 = .ok (.aaload, 1) := by decide +kernel
theorem dX2_sendFrom_21 : decode cX2_sendFrom 21 = .ok (.invokevirtual 94, 3) := by decide +kernel
theorem dX2_sendFrom_24 : decode cX2_sendFrom 24 = .ok (.aload_n 0, 1) := by decide +kernel
theorem dX2_sendFrom_25 : decode cX2_sendFrom 25 = .ok (.getfield 11, 3) := by decide +kernel
theorem dX2_sendFrom_28 : decode cX2_sendFrom 28 = .ok (.iload_n 3, 1) := by decide +kernel
theorem dX2_sendFrom_29 : decode cX2_sendFrom 29 = .ok (.iconst 1, 1) := by decide +kernel
theorem dX2_sendFrom_30 : decode cX2_sendFrom 30 = .ok (.iadd, 1) := by decide +kernel
theorem dX2_sendFrom_31 : decode cX2_sendFrom 31 = .ok (.aaload, 1) := by decide +kernel
theorem dX2_sendFrom_32 : decode cX2_sendFrom 32 = .ok (.aload_n 0, 1) := by decide +kernel
theorem dX2_sendFrom_33 : decode cX2_sendFrom 33 = .ok (.getfield 44, 3) := by decide +kernel
theorem dX2_sendFrom_36 : decode cX2_sendFrom 36 = .ok (.getfield 98, 3) := by decide +kernel
theorem dX2_sendFrom_39 : decode cX2_sendFrom 39 = .ok (.aload_n 0, 1) := by decide +kernel
theorem dX2_sendFrom_40 : decode cX2_sendFrom 40 = .ok (.getfield 17, 3) := by decide +kernel
theorem dX2_sendFrom_43 : decode cX2_sendFrom 43 = .ok (.iload_n 3, 1) := by decide +kernel
theorem dX2_sendFrom_44 : decode cX2_sendFrom 44 = .ok (.iaload, 1) := by decide +kernel
theorem dX2_sendFrom_45 : decode cX2_sendFrom 45 = .ok (.iaload, 1) := by decide +kernel
theorem dX2_sendFrom_46 : decode cX2_sendFrom 46 = .ok (.aload_n 0, 1) := by decide +kernel
theorem dX2_sendFrom_47 : decode cX2_sendFrom 47 = .ok (.getfield 44, 3) := by decide +kernel
theorem dX2_sendFrom_50 : decode cX2_sendFrom 50 = .ok (.getfield 101, 3) := by decide +kernel
theorem dX2_sendFrom_53 : decode cX2_sendFrom 53 = .ok (.aload_n 0, 1) := by decide +kernel
theorem dX2_sendFrom_54 : decode cX2_sendFrom 54 = .ok (.getfield 17, 3) := by decide +kernel
theorem dX2_sendFrom_57 : decode cX2_sendFrom 57 = .ok (.iload_n 3, 1) := by decide +kernel
theorem dX2_sendFrom_58 : decode cX2_sendFrom 58 = .ok (.iaload, 1) := by decide +kernel
theorem dX2_sendFrom_59 : decode cX2_sendFrom 59 = .ok (.iaload, 1) := by decide +kernel
theorem dX2_sendFrom_60 : decode cX2_sendFrom 60 = .ok (.aload_n 0, 1) := by decide +kernel
theorem dX2_sendFrom_61 : decode cX2_sendFrom 61 = .ok (.getfield 40, 3) := by decide +kernel
theorem dX2_sendFrom_64 : decode cX2_sendFrom 64 = .ok (.getfield 104, 3) := by decide +kernel
theorem dX2_sendFrom_67 : decode cX2_sendFrom 67 = .ok (.invokevirtual 110, 3) := by decide +kernel
theorem dX2_sendFrom_70 : decode cX2_sendFrom 70 = .ok (.pop, 1) := by decide +kernel
theorem dX2_sendFrom_71 : decode cX2_sendFrom 71 = .ok (.iinc 3 1, 3) := by decide +kernel
theorem dX2_sendFrom_74 : decode cX2_sendFrom 74 = .ok (.goto (-72), 3) := by decide +kernel
theorem dX2_sendFrom_77 : decode cX2_sendFrom 77 = .ok (.return_, 1) := by decide +kernel
theorem dX2_weigh_0 : decode cX2_weigh 0 = .ok (.iload_n 2, 1) := by decide +kernel
theorem dX2_weigh_1 : decode cX2_weigh 1 = .ok (.ifCond .ne 11, 3) := by decide +kernel
theorem dX2_weigh_4 : decode cX2_weigh 4 = .ok (.iload_n 1, 1) := by decide +kernel
theorem dX2_weigh_5 : decode cX2_weigh 5 = .ok (.aload_n 0, 1) := by decide +kernel
theorem dX2_weigh_6 : decode cX2_weigh 6 = .ok (.getfield 27, 3) := by decide +kernel
theorem dX2_weigh_9 : decode cX2_weigh 9 = .ok (.if_icmp .ge 22, 3) := by decide +kernel
theorem dX2_weigh_12 : decode cX2_weigh 12 = .ok (.aload_n 0, 1) := by decide +kernel
theorem dX2_weigh_13 : decode cX2_weigh 13 = .ok (.iload_n 1, 1) := by decide +kernel
theorem dX2_weigh_14 : decode cX2_weigh 14 = .ok (.putfield 27, 3) := by decide +kernel
theorem dX2_weigh_17 : decode cX2_weigh 17 = .ok (.aload_n 0, 1) := by decide +kernel
theorem dX2_weigh_18 : decode cX2_weigh 18 = .ok (.getfield 17, 3) := by decide +kernel
theorem dX2_weigh_21 : decode cX2_weigh 21 = .ok (.iconst 0, 1) := by decide +kernel
theorem dX2_weigh_22 : decode cX2_weigh 22 = .ok (.aload_n 0, 1) := by decide +kernel
theorem dX2_weigh_23 : decode cX2_weigh 23 = .ok (.getfield 21, 3) := by decide +kernel
theorem dX2_weigh_26 : decode cX2_weigh 26 = .ok (.iconst 0, 1) := by decide +kernel
theorem dX2_weigh_27 : decode cX2_weigh 27 = .ok (.iconst 5, 1) := by decide +kernel
theorem dX2_weigh_28 : decode cX2_weigh 28 = .ok (.invokestatic 114, 3) := by decide +kernel
theorem dX2_weigh_31 : decode cX2_weigh 31 = .ok (.iload_n 2, 1) := by decide +kernel
theorem dX2_weigh_32 : decode cX2_weigh 32 = .ok (.ifCond .ne 11, 3) := by decide +kernel
theorem dX2_weigh_35 : decode cX2_weigh 35 = .ok (.iload_n 1, 1) := by decide +kernel
theorem dX2_weigh_36 : decode cX2_weigh 36 = .ok (.aload_n 0, 1) := by decide +kernel
theorem dX2_weigh_37 : decode cX2_weigh 37 = .ok (.getfield 31, 3) := by decide +kernel
theorem dX2_weigh_40 : decode cX2_weigh 40 = .ok (.if_icmp .le 8, 3) := by decide +kernel
theorem dX2_weigh_43 : decode cX2_weigh 43 = .ok (.aload_n 0, 1) := by decide +kernel
theorem dX2_weigh_44 : decode cX2_weigh 44 = .ok (.iload_n 1, 1) := by decide +kernel
theorem dX2_weigh_45 : decode cX2_weigh 45 = .ok (.putfield 31, 3) := by decide +kernel
theorem dX2_weigh_48 : decode cX2_weigh 48 = .ok (.return_, 1) := by decide +kernel
theorem dX2_keepAlike_0 : decode cX2_keepAlike 0 = .ok (.aload_n 0, 1) := by decide +kernel
theorem dX2_keepAlike_1 : decode cX2_keepAlike 1 = .ok (.getfield 34, 3) := by decide +kernel
theorem dX2_keepAlike_4 : decode cX2_keepAlike 4 = .ok (.ifCond .ne 17, 3) := by decide +kernel
theorem dX2_keepAlike_7 : decode cX2_keepAlike 7 = .ok (.aload_n 0, 1) := by decide +kernel
theorem dX2_keepAlike_8 : decode cX2_keepAlike 8 = .ok (.getfield 17, 3) := by decide +kernel
theorem dX2_keepAlike_11 : decode cX2_keepAlike 11 = .ok (.iconst 0, 1) := by decide +kernel
theorem dX2_keepAlike_12 : decode cX2_keepAlike 12 = .ok (.aload_n 0, 1) := by decide +kernel
theorem dX2_keepAlike_13 : decode cX2_keepAlike 13 = .ok (.getfield 24, 3) := by decide +kernel
theorem dX2_keepAlike_16 : decode cX2_keepAlike 16 = .ok (.iconst 0, 1) := by decide +kernel
theorem dX2_keepAlike_17 : decode cX2_keepAlike 17 = .ok (.iconst 5, 1) := by decide +kernel
theorem dX2_keepAlike_18 : decode cX2_keepAlike 18 = .ok (.invokestatic 114, 3) := by decide +kernel
theorem dX2_keepAlike_21 : decode cX2_keepAlike 21 = .ok (.aload_n 0, 1) := by decide +kernel
theorem dX2_keepAlike_22 : decode cX2_keepAlike 22 = .ok (.dup, 1) := by decide +kernel
theorem dX2_keepAlike_23 : decode cX2_keepAlike 23 = .ok (.getfield 34, 3) := by decide +kernel
theorem dX2_keepAlike_26 : decode cX2_keepAlike 26 = .ok (.iconst 1, 1) := by decide +kernel
theorem dX2_keepAlike_27 : decode cX2_keepAlike 27 = .ok (.iadd, 1) := by decide +kernel
theorem dX2_keepAlike_28 : decode cX2_keepAlike 28 = .ok (.putfield 34, 3) := by decide +kernel
theorem dX2_keepAlike_31 : decode cX2_keepAlike 31 = .ok (.iload_n 1, 1) := by decide +kernel
theorem dX2_keepAlike_32 : decode cX2_keepAlike 32 = .ok (.ifCond .le 20, 3) := by decide +kernel
theorem dX2_keepAlike_35 : decode cX2_keepAlike 35 = .ok (.aload_n 0, 1) := by decide +kernel
theorem dX2_keepAlike_36 : decode cX2_keepAlike 36 = .ok (.dup, 1) := by decide +kernel
theorem dX2_keepAlike_37 : decode cX2_keepAlike 37 = .ok (.getfield 37, 3) := by decide +kernel
theorem dX2_keepAlike_40 : decode cX2_keepAlike 40 = .ok (.iconst 1, 1) := by decide +kernel
theorem dX2_keepAlike_41 : decode cX2_keepAlike 41 = .ok (.aload_n 0, 1) := by decide +kernel
theorem dX2_keepAlike_42 : decode cX2_keepAlike 42 = .ok (.getfield 17, 3) := by decide +kernel
theorem dX2_keepAlike_45 : decode cX2_keepAlike 45 = .ok (.iconst 0, 1) := by decide +kernel
theorem dX2_keepAlike_46 : decode cX2_keepAlike 46 = .ok (.iaload, 1) := by decide +kernel
theorem dX2_keepAlike_47 : decode cX2_keepAlike 47 = .ok (.ishl, 1) := by decide +kernel
theorem dX2_keepAlike_48 : decode cX2_keepAlike 48 = .ok (.ior, 1) := by decide +kernel
theorem dX2_keepAlike_49 : decode cX2_keepAlike 49 = .ok (.putfield 37, 3) := by decide +kernel
theorem dX2_keepAlike_52 : decode cX2_keepAlike 52 = .ok (.return_, 1) := by decide +kernel
theorem dX2_advance_0 : decode cX2_advance 0 = .ok (.iload_n 1, 1) := by decide +kernel
theorem dX2_advance_1 : decode cX2_advance 1 = .ok (.iconst 2, 1) := by decide +kernel
theorem dX2_advance_2 : decode cX2_advance 2 = .ok (.isub, 1) := by decide +kernel
theorem dX2_advance_3 : decode cX2_advance 3 = .ok (.istore_n 2, 1) := by decide +kernel
theorem dX2_advance_4 : decode cX2_advance 4 = .ok (.iload_n 2, 1) := by decide +kernel
theorem dX2_advance_5 : decode cX2_advance 5 = .ok (.ifCond .lt 26, 3) := by decide +kernel
theorem dX2_advance_8 : decode cX2_advance 8 = .ok (.aload_n 0, 1) := by decide +kernel
theorem dX2_advance_9 : decode cX2_advance 9 = .ok (.getfield 17, 3) := by decide +kernel
theorem dX2_advance_12 : decode cX2_advance 12 = .ok (.iload_n 2, 1) := by decide +kernel
theorem dX2_advance_13 : decode cX2_advance 13 = .ok (.iaload, 1) := by decide +kernel
theorem dX2_advance_14 : decode cX2_advance 14 = .ok (.aload_n 0, 1) := by decide +kernel
theorem dX2_advance_15 : decode cX2_advance 15 = .ok (.getfield 17, 3) := by decide +kernel
theorem dX2_advance_18 : decode cX2_advance 18 = .ok (.iload_n 2, 1) := by decide +kernel
theorem dX2_advance_19 : decode cX2_advance 19 = .ok (.iconst 1, 1) := by decide +kernel
theorem dX2_advance_20 : decode cX2_advance 20 = .ok (.iadd, 1) := by decide +kernel
theorem dX2_advance_21 : decode cX2_advance 21 = .ok (.iaload, 1) := by decide +kernel
theorem dX2_advance_22 : decode cX2_advance 22 = .ok (.if_icmp .le 9, 3) := by decide +kernel
theorem dX2_advance_25 : decode cX2_advance 25 = .ok (.iinc 2 (-1), 3) := by decide +kernel
theorem dX2_advance_28 : decode cX2_advance 28 = .ok (.goto (-24), 3) := by decide +kernel
theorem dX2_advance_31 : decode cX2_advance 31 = .ok (.iload_n 2, 1) := by decide +kernel
theorem dX2_advance_32 : decode cX2_advance 32 = .ok (.ifCond .ge 5, 3) := by decide +kernel
theorem dX2_advance_35 : decode cX2_advance 35 = .ok (.iconst (-1), 1) := by decide +kernel
theorem dX2_advance_36 : decode cX2_advance 36 = .ok (.ireturn, 1) := by decide +kernel
theorem dX2_advance_37 : decode cX2_advance 37 = .ok (.iload_n 1, 1) := by decide +kernel
theorem dX2_advance_38 : decode cX2_advance 38 = .ok (.iconst 1, 1) := by decide +kernel
theorem dX2_advance_39 : decode cX2_advance 39 = .ok (.isub, 1) := by decide +kernel
theorem dX2_advance_40 : decode cX2_advance 40 = .ok (.istore_n 3, 1) := by decide +kernel
theorem dX2_advance_41 : decode cX2_advance 41 = .ok (.iload_n 3, 1) := by decide +kernel
theorem dX2_advance_42 : decode cX2_advance 42 = .ok (.iload_n 2, 1) := by decide +kernel
theorem dX2_advance_43 : decode cX2_advance 43 = .ok (.if_icmp .le 24, 3) := by decide +kernel
theorem dX2_advance_46 : decode cX2_advance 46 = .ok (.aload_n 0, 1) := by decide +kernel
theorem dX2_advance_47 : decode cX2_advance 47 = .ok (.getfield 17, 3) := by decide +kernel
theorem dX2_advance_50 : decode cX2_advance 50 = .ok (.iload_n 3, 1) := by decide +kernel
theorem dX2_advance_51 : decode cX2_advance 51 = .ok (.iaload, 1) := by decide +kernel
theorem dX2_advance_52 : decode cX2_advance 52 = .ok (.aload_n 0, 1) := by decide +kernel
theorem dX2_advance_53 : decode cX2_advance 53 = .ok (.getfield 17, 3) := by decide +kernel
theorem dX2_advance_56 : decode cX2_advance 56 = .ok (.iload_n 2, 1) := by decide +kernel
theorem dX2_advance_57 : decode cX2_advance 57 = .ok (.iaload, 1) := by decide +kernel
theorem dX2_advance_58 : decode cX2_advance 58 = .ok (.if_icmp .ge 9, 3) := by decide +kernel
theorem dX2_advance_61 : decode cX2_advance 61 = .ok (.iinc 3 (-1), 3) := by decide +kernel
theorem dX2_advance_64 : decode cX2_advance 64 = .ok (.goto (-23), 3) := by decide +kernel
theorem dX2_advance_67 : decode cX2_advance 67 = .ok (.aload_n 0, 1) := by decide +kernel
theorem dX2_advance_68 : decode cX2_advance 68 = .ok (.iload_n 2, 1) := by decide +kernel
theorem dX2_advance_69 : decode cX2_advance 69 = .ok (.iload_n 3, 1) := by decide +kernel
theorem dX2_advance_70 : decode cX2_advance 70 = .ok (.invokevirtual 120, 3) := by decide +kernel
theorem dX2_advance_73 : decode cX2_advance 73 = .ok (.iload_n 2, 1) := by decide +kernel
theorem dX2_advance_74 : decode cX2_advance 74 = .ok (.iconst 1, 1) := by decide +kernel
theorem dX2_advance_75 : decode cX2_advance 75 = .ok (.iadd, 1) := by decide +kernel
theorem dX2_advance_76 : decode cX2_advance 76 = .ok (.istore 4, 2) := by decide +kernel
theorem dX2_advance_78 : decode cX2_advance 78 = .ok (.iload_n 1, 1) := by decide +kernel
theorem dX2_advance_79 : decode cX2_advance 79 = .ok (.iconst 1, 1) := by decide +kernel
theorem dX2_advance_80 : decode cX2_advance 80 = .ok (.isub, 1) := by decide +kernel
theorem dX2_advance_81 : decode cX2_advance 81 = .ok (.istore 5, 2) := by decide +kernel
theorem dX2_advance_83 : decode cX2_advance 83 = .ok (.iload 4, 2) := by decide +kernel
theorem dX2_advance_85 : decode cX2_advance 85 = .ok (.iload 5, 2) := by decide +kernel
theorem dX2_advance_87 : decode cX2_advance 87 = .ok (.if_icmp .ge 20, 3) := by decide +kernel
theorem dX2_advance_90 : decode cX2_advance 90 = .ok (.aload_n 0, 1) := by decide +kernel
theorem dX2_advance_91 : decode cX2_advance 91 = .ok (.iload 4, 2) := by decide +kernel
theorem dX2_advance_93 : decode cX2_advance 93 = .ok (.iload 5, 2) := by decide +kernel
theorem dX2_advance_95 : decode cX2_advance 95 = .ok (.invokevirtual 120, 3) := by decide +kernel
theorem dX2_advance_98 : decode cX2_advance 98 = .ok (.iinc 4 1, 3) := by decide +kernel
theorem dX2_advance_101 : decode cX2_advance 101 = .ok (.iinc 5 (-1), 3) := by decide +kernel
theorem dX2_advance_104 : decode cX2_advance 104 = .ok (.goto (-21), 3) := by decide +kernel
theorem dX2_advance_107 : decode cX2_advance 107 = .ok (.iload_n 2, 1) := by decide +kernel
theorem dX2_advance_108 : decode cX2_advance 108 = .ok (.ireturn, 1) := by decide +kernel
theorem dX2_swap_0 : decode cX2_swap 0 = .ok (.aload_n 0, 1) := by decide +kernel
theorem dX2_swap_1 : decode cX2_swap 1 = .ok (.getfield 17, 3) := by decide +kernel
theorem dX2_swap_4 : decode cX2_swap 4 = .ok (.iload_n 1, 1) := by decide +kernel
theorem dX2_swap_5 : decode cX2_swap 5 = .ok (.iaload, 1) := by decide +kernel
theorem dX2_swap_6 : decode cX2_swap 6 = .ok (.istore_n 3, 1) := by decide +kernel
theorem dX2_swap_7 : decode cX2_swap 7 = .ok (.aload_n 0, 1) := by decide +kernel
theorem dX2_swap_8 : decode cX2_swap 8 = .ok (.getfield 17, 3) := by decide +kernel
theorem dX2_swap_11 : decode cX2_swap 11 = .ok (.iload_n 1, 1) := by decide +kernel
theorem dX2_swap_12 : decode cX2_swap 12 = .ok (.aload_n 0, 1) := by decide +kernel
theorem dX2_swap_13 : decode cX2_swap 13 = .ok (.getfield 17, 3) := by decide +kernel
theorem dX2_swap_16 : decode cX2_swap 16 = .ok (.iload_n 2, 1) := by decide +kernel
theorem dX2_swap_17 : decode cX2_swap 17 = .ok (.iaload, 1) := by decide +kernel
theorem dX2_swap_18 : decode cX2_swap 18 = .ok (.iastore, 1) := by decide +kernel
theorem dX2_swap_19 : decode cX2_swap 19 = .ok (.aload_n 0, 1) := by decide +kernel
theorem dX2_swap_20 : decode cX2_swap 20 = .ok (.getfield 17, 3) := by decide +kernel
theorem dX2_swap_23 : decode cX2_swap 23 = .ok (.iload_n 2, 1) := by decide +kernel
theorem dX2_swap_24 : decode cX2_swap 24 = .ok (.iload_n 3, 1) := by decide +kernel
theorem dX2_swap_25 : decode cX2_swap 25 = .ok (.iastore, 1) := by decide +kernel
theorem dX2_swap_26 : decode cX2_swap 26 = .ok (.return_, 1) := by decide +kernel
theorem dX3_init_0 : decode cX3_init 0 = .ok (.aload_n 0, 1) := by decide +kernel
theorem dX3_init_1 : decode cX3_init 1 = .ok (.invokespecial 3, 3) := by decide +kernel
theorem dX3_init_4 : decode cX3_init 4 = .ok (.aload_n 0, 1) := by decide +kernel
theorem dX3_init_5 : decode cX3_init 5 = .ok (.bipush 64, 2) := by decide +kernel
theorem dX3_init_7 : decode cX3_init 7 = .ok (.newarray .int, 2) := by decide +kernel
theorem dX3_init_9 : decode cX3_init 9 = .ok (.putfield 9, 3) := by decide +kernel
theorem dX3_init_12 : decode cX3_init 12 = .ok (.aload_n 0, 1) := by decide +kernel
theorem dX3_init_13 : decode cX3_init 13 = .ok (.bipush 64, 2) := by decide +kernel
theorem dX3_init_15 : decode cX3_init 15 = .ok (.newarray .int, 2) := by decide +kernel
theorem dX3_init_17 : decode cX3_init 17 = .ok (.putfield 15, 3) := by decide +kernel
theorem dX3_init_20 : decode cX3_init 20 = .ok (.aload_n 0, 1) := by decide +kernel
theorem dX3_init_21 : decode cX3_init 21 = .ok (.iconst 0, 1) := by decide +kernel
theorem dX3_init_22 : decode cX3_init 22 = .ok (.putfield 18, 3) := by decide +kernel
theorem dX3_init_25 : decode cX3_init 25 = .ok (.aload_n 0, 1) := by decide +kernel
theorem dX3_init_26 : decode cX3_init 26 = .ok (.iconst 0, 1) := by decide +kernel
theorem dX3_init_27 : decode cX3_init 27 = .ok (.putfield 22, 3) := by decide +kernel
theorem dX3_init_30 : decode cX3_init 30 = .ok (.aload_n 0, 1) := by decide +kernel
theorem dX3_init_31 : decode cX3_init 31 = .ok (.iconst 0, 1) := by decide +kernel
theorem dX3_init_32 : decode cX3_init 32 = .ok (.putfield 25, 3) := by decide +kernel
theorem dX3_init_35 : decode cX3_init 35 = .ok (.aload_n 0, 1) := by decide +kernel
theorem dX3_init_36 : decode cX3_init 36 = .ok (.iconst (-1), 1) := by decide +kernel
theorem dX3_init_37 : decode cX3_init 37 = .ok (.putfield 28, 3) := by decide +kernel
theorem dX3_init_40 : decode cX3_init 40 = .ok (.aload_n 0, 1) := by decide +kernel
theorem dX3_init_41 : decode cX3_init 41 = .ok (.aload_n 1, 1) := by decide +kernel
theorem dX3_init_42 : decode cX3_init 42 = .ok (.putfield 31, 3) := by decide +kernel
theorem dX3_init_45 : decode cX3_init 45 = .ok (.aload_n 0, 1) := by decide +kernel
theorem dX3_init_46 : decode cX3_init 46 = .ok (.aload_n 2, 1) := by decide +kernel
theorem dX3_init_47 : decode cX3_init 47 = .ok (.putfield 35, 3) := by decide +kernel
theorem dX3_init_50 : decode cX3_init 50 = .ok (.return_, 1) := by decide +kernel
theorem dX3_begin_0 : decode cX3_begin 0 = .ok (.aload_n 1, 1) := by decide +kernel
theorem dX3_begin_1 : decode cX3_begin 1 = .ok (.iconst 0, 1) := by decide +kernel
theorem dX3_begin_2 : decode cX3_begin 2 = .ok (.aload_n 0, 1) := by decide +kernel
theorem dX3_begin_3 : decode cX3_begin 3 = .ok (.getfield 9, 3) := by decide +kernel
theorem dX3_begin_6 : decode cX3_begin 6 = .ok (.iconst 0, 1) := by decide +kernel
theorem dX3_begin_7 : decode cX3_begin 7 = .ok (.bipush 64, 2) := by decide +kernel
theorem dX3_begin_9 : decode cX3_begin 9 = .ok (.invokestatic 39, 3) := by decide +kernel
theorem dX3_begin_12 : decode cX3_begin 12 = .ok (.aload_n 0, 1) := by decide +kernel
theorem dX3_begin_13 : decode cX3_begin 13 = .ok (.getfield 15, 3) := by decide +kernel
theorem dX3_begin_16 : decode cX3_begin 16 = .ok (.iconst 0, 1) := by decide +kernel
theorem dX3_begin_17 : decode cX3_begin 17 = .ok (.invokestatic 45, 3) := by decide +kernel
theorem dX3_begin_20 : decode cX3_begin 20 = .ok (.aload_n 0, 1) := by decide +kernel
theorem dX3_begin_21 : decode cX3_begin 21 = .ok (.iconst 0, 1) := by decide +kernel
theorem dX3_begin_22 : decode cX3_begin 22 = .ok (.putfield 18, 3) := by decide +kernel
theorem dX3_begin_25 : decode cX3_begin 25 = .ok (.aload_n 0, 1) := by decide +kernel
theorem dX3_begin_26 : decode cX3_begin 26 = .ok (.iconst 0, 1) := by decide +kernel
theorem dX3_begin_27 : decode cX3_begin 27 = .ok (.putfield 22, 3) := by decide +kernel
theorem dX3_begin_30 : decode cX3_begin 30 = .ok (.aload_n 0, 1) := by decide +kernel
theorem dX3_begin_31 : decode cX3_begin 31 = .ok (.iconst 0, 1) := by decide +kernel
theorem dX3_begin_32 : decode cX3_begin 32 = .ok (.putfield 25, 3) := by decide +kernel
theorem dX3_begin_35 : decode cX3_begin 35 = .ok (.return_, 1) := by decide +kernel
theorem dX3_beginAs_0 : decode cX3_beginAs 0 = .ok (.aload_n 1, 1) := by decide +kernel
theorem dX3_beginAs_1 : decode cX3_beginAs 1 = .ok (.getfield 9, 3) := by decide +kernel
theorem dX3_beginAs_4 : decode cX3_beginAs 4 = .ok (.iconst 0, 1) := by decide +kernel
theorem dX3_beginAs_5 : decode cX3_beginAs 5 = .ok (.aload_n 0, 1) := by decide +kernel
theorem dX3_beginAs_6 : decode cX3_beginAs 6 = .ok (.getfield 9, 3) := by decide +kernel
theorem dX3_beginAs_9 : decode cX3_beginAs 9 = .ok (.iconst 0, 1) := by decide +kernel
theorem dX3_beginAs_10 : decode cX3_beginAs 10 = .ok (.bipush 64, 2) := by decide +kernel
theorem dX3_beginAs_12 : decode cX3_beginAs 12 = .ok (.invokestatic 39, 3) := by decide +kernel
theorem dX3_beginAs_15 : decode cX3_beginAs 15 = .ok (.aload_n 1, 1) := by decide +kernel
theorem dX3_beginAs_16 : decode cX3_beginAs 16 = .ok (.getfield 15, 3) := by decide +kernel
theorem dX3_beginAs_19 : decode cX3_beginAs 19 = .ok (.iconst 0, 1) := by decide +kernel
theorem dX3_beginAs_20 : decode cX3_beginAs 20 = .ok (.aload_n 0, 1) := by decide +kernel
theorem dX3_beginAs_21 : decode cX3_beginAs 21 = .ok (.getfield 15, 3) := by decide +kernel
theorem dX3_beginAs_24 : decode cX3_beginAs 24 = .ok (.iconst 0, 1) := by decide +kernel
theorem dX3_beginAs_25 : decode cX3_beginAs 25 = .ok (.bipush 64, 2) := by decide +kernel
theorem dX3_beginAs_27 : decode cX3_beginAs 27 = .ok (.invokestatic 39, 3) := by decide +kernel
theorem dX3_beginAs_30 : decode cX3_beginAs 30 = .ok (.aload_n 0, 1) := by decide +kernel
theorem dX3_beginAs_31 : decode cX3_beginAs 31 = .ok (.aload_n 1, 1) := by decide +kernel
theorem dX3_beginAs_32 : decode cX3_beginAs 32 = .ok (.getfield 18, 3) := by decide +kernel
theorem dX3_beginAs_35 : decode cX3_beginAs 35 = .ok (.putfield 18, 3) := by decide +kernel
theorem dX3_beginAs_38 : decode cX3_beginAs 38 = .ok (.aload_n 0, 1) := by decide +kernel
theorem dX3_beginAs_39 : decode cX3_beginAs 39 = .ok (.aload_n 1, 1) := by decide +kernel
theorem dX3_beginAs_40 : decode cX3_beginAs 40 = .ok (.getfield 22, 3) := by decide +kernel
theorem dX3_beginAs_43 : decode cX3_beginAs 43 = .ok (.putfield 22, 3) := by decide +kernel
theorem dX3_beginAs_46 : decode cX3_beginAs 46 = .ok (.aload_n 0, 1) := by decide +kernel
theorem dX3_beginAs_47 : decode cX3_beginAs 47 = .ok (.aload_n 1, 1) := by decide +kernel
theorem dX3_beginAs_48 : decode cX3_beginAs 48 = .ok (.getfield 25, 3) := by decide +kernel
theorem dX3_beginAs_51 : decode cX3_beginAs 51 = .ok (.putfield 25, 3) := by decide +kernel
theorem dX3_beginAs_54 : decode cX3_beginAs 54 = .ok (.return_, 1) := by decide +kernel
theorem dX3_go_0 : decode cX3_go 0 = .ok (.iload_n 1, 1) := by decide +kernel
theorem dX3_go_1 : decode cX3_go 1 = .ok (.istore 5, 2) := by decide +kernel
theorem dX3_go_3 : decode cX3_go 3 = .ok (.lload_n 3, 1) := by decide +kernel
theorem dX3_go_4 : decode cX3_go 4 = .ok (.iload_n 1, 1) := by decide +kernel
theorem dX3_go_5 : decode cX3_go 5 = .ok (.invokestatic 51, 3) := by decide +kernel
theorem dX3_go_8 : decode cX3_go 8 = .ok (.land, 1) := by decide +kernel
theorem dX3_go_9 : decode cX3_go 9 = .ok (.lstore 6, 2) := by decide +kernel
theorem dX3_go_11 : decode cX3_go 11 = .ok (.iconst 0, 1) := by decide +kernel
theorem dX3_go_12 : decode cX3_go 12 = .ok (.istore 8, 2) := by decide +kernel
theorem dX3_go_14 : decode cX3_go 14 = .ok (.iload 8, 2) := by decide +kernel
theorem dX3_go_16 : decode cX3_go 16 = .ok (.bipush 64, 2) := by decide +kernel
theorem dX3_go_18 : decode cX3_go 18 = .ok (.if_icmp .gt 71, 3) := by decide +kernel
theorem dX3_go_21 : decode cX3_go 21 = .ok (.aload_n 0, 1) := by decide +kernel
theorem dX3_go_22 : decode cX3_go 22 = .ok (.getfield 35, 3) := by decide +kernel
theorem dX3_go_25 : decode cX3_go 25 = .ok (.iload 5, 2) := by decide +kernel
theorem dX3_go_27 : decode cX3_go 27 = .ok (.iload_n 2, 1) := by decide +kernel
theorem dX3_go_28 : decode cX3_go 28 = .ok (.aload_n 0, 1) := by decide +kernel
theorem dX3_go_29 : decode cX3_go 29 = .ok (.getfield 31, 3) := by decide +kernel
theorem dX3_go_32 : decode cX3_go 32 = .ok (.getfield 55, 3) := by decide +kernel
theorem dX3_go_35 : decode cX3_go 35 = .ok (.lload 6, 2) := by decide +kernel
theorem dX3_go_37 : decode cX3_go 37 = .ok (.lor, 1) := by decide +kernel
theorem dX3_go_38 : decode cX3_go 38 = .ok (.aload_n 0, 1) := by decide +kernel
theorem dX3_go_39 : decode cX3_go 39 = .ok (.getfield 9, 3) := by decide +kernel
theorem dX3_go_42 : decode cX3_go 42 = .ok (.invokevirtual 61, 3) := by decide +kernel
theorem dX3_go_45 : decode cX3_go 45 = .ok (.iconst (-1), 1) := by decide +kernel
theorem dX3_go_46 : decode cX3_go 46 = .ok (.if_icmp .ne 6, 3) := by decide +kernel
theorem dX3_go_49 : decode cX3_go 49 = .ok (.goto 40, 3) := by decide +kernel
theorem dX3_go_52 : decode cX3_go 52 = .ok (.aload_n 0, 1) := by decide +kernel
theorem dX3_go_53 : decode cX3_go 53 = .ok (.iload 5, 2) := by decide +kernel
theorem dX3_go_55 : decode cX3_go 55 = .ok (.lload_n 3, 1) := by decide +kernel
theorem dX3_go_56 : decode cX3_go 56 = .ok (.invokevirtual 67, 3) := by decide +kernel
theorem dX3_go_59 : decode cX3_go 59 = .ok (.istore 5, 2) := by decide +kernel
theorem dX3_go_61 : decode cX3_go 61 = .ok (.aload_n 0, 1) := by decide +kernel
theorem dX3_go_62 : decode cX3_go 62 = .ok (.getfield 28, 3) := by decide +kernel
theorem dX3_go_65 : decode cX3_go 65 = .ok (.iconst (-1), 1) := by decide +kernel
theorem dX3_go_66 : decode cX3_go 66 = .ok (.if_icmp .ne 5, 3) := by decide +kernel
theorem dX3_go_69 : decode cX3_go 69 = .ok (.iconst 1, 1) := by decide +kernel
theorem dX3_go_70 : decode cX3_go 70 = .ok (.ireturn, 1) := by decide +kernel
theorem dX3_go_71 : decode cX3_go 71 = .ok (.lload 6, 2) := by decide +kernel
theorem dX3_go_73 : decode cX3_go 73 = .ok (.aload_n 0, 1) := by decide +kernel
theorem dX3_go_74 : decode cX3_go 74 = .ok (.getfield 28, 3) := by decide +kernel
theorem dX3_go_77 : decode cX3_go 77 = .ok (.invokestatic 51, 3) := by decide +kernel
theorem dX3_go_80 : decode cX3_go 80 = .ok (.lor, 1) := by decide +kernel
theorem dX3_go_81 : decode cX3_go 81 = .ok (.lstore 6, 2) := by decide +kernel
theorem dX3_go_83 : decode cX3_go 83 = .ok (.iinc 8 1, 3) := by decide +kernel
theorem dX3_go_86 : decode cX3_go 86 = .ok (.goto (-72), 3) := by decide +kernel
theorem dX3_go_89 : decode cX3_go 89 = .ok (.aload_n 0, 1) := by decide +kernel
theorem dX3_go_90 : decode cX3_go 90 = .ok (.dup, 1) := by decide +kernel
theorem dX3_go_91 : decode cX3_go 91 = .ok (.getfield 25, 3) := by decide +kernel
theorem dX3_go_94 : decode cX3_go 94 = .ok (.iconst 1, 1) := by decide +kernel
theorem dX3_go_95 : decode cX3_go 95 = .ok (.iadd, 1) := by decide +kernel
theorem dX3_go_96 : decode cX3_go 96 = .ok (.putfield 25, 3) := by decide +kernel
theorem dX3_go_99 : decode cX3_go 99 = .ok (.iconst 0, 1) := by decide +kernel
theorem dX3_go_100 : decode cX3_go 100 = .ok (.ireturn, 1) := by decide +kernel
theorem dX3_follow_0 : decode cX3_follow 0 = .ok (.iload_n 1, 1) := by decide +kernel
theorem dX3_follow_1 : decode cX3_follow 1 = .ok (.istore 4, 2) := by decide +kernel
theorem dX3_follow_3 : decode cX3_follow 3 = .ok (.aload_n 0, 1) := by decide +kernel
theorem dX3_follow_4 : decode cX3_follow 4 = .ok (.iconst (-1), 1) := by decide +kernel
theorem dX3_follow_5 : decode cX3_follow 5 = .ok (.putfield 28, 3) := by decide +kernel
theorem dX3_follow_8 : decode cX3_follow 8 = .ok (.iconst 0, 1) := by decide +kernel
theorem dX3_follow_9 : decode cX3_follow 9 = .ok (.istore 5, 2) := by decide +kernel
theorem dX3_follow_11 : decode cX3_follow 11 = .ok (.iload 5, 2) := by decide +kernel
theorem dX3_follow_13 : decode cX3_follow 13 = .ok (.aload_n 0, 1) := by decide +kernel
theorem dX3_follow_14 : decode cX3_follow 14 = .ok (.getfield 35, 3) := by decide +kernel
theorem dX3_follow_17 : decode cX3_follow 17 = .ok (.getfield 71, 3) := by decide +kernel
theorem dX3_follow_20 : decode cX3_follow 20 = .ok (.if_icmp .ge 49, 3) := by decide +kernel
theorem dX3_follow_23 : decode cX3_follow 23 = .ok (.aload_n 0, 1) := by decide +kernel
theorem dX3_follow_24 : decode cX3_follow 24 = .ok (.getfield 35, 3) := by decide +kernel
theorem dX3_follow_27 : decode cX3_follow 27 = .ok (.getfield 74, 3) := by decide +kernel
theorem dX3_follow_30 : decode cX3_follow 30 = .ok (.iload 5, 2) := by decide +kernel
theorem dX3_follow_32 : decode cX3_follow 32 = .ok (.iaload, 1) := by decide +kernel
theorem dX3_follow_33 : decode cX3_follow 33 = .ok (.istore 6, 2) := by decide +kernel
theorem dX3_follow_35 : decode cX3_follow 35 = .ok (.lload_n 2, 1) := by decide +kernel
theorem dX3_follow_36 : decode cX3_follow 36 = .ok (.iload 6, 2) := by decide +kernel
theorem dX3_follow_38 : decode cX3_follow 38 = .ok (.invokestatic 77, 3) := by decide +kernel
theorem dX3_follow_41 : decode cX3_follow 41 = .ok (.ifCond .eq 12, 3) := by decide +kernel
theorem dX3_follow_44 : decode cX3_follow 44 = .ok (.aload_n 0, 1) := by decide +kernel
theorem dX3_follow_45 : decode cX3_follow 45 = .ok (.iload 6, 2) := by decide +kernel
theorem dX3_follow_47 : decode cX3_follow 47 = .ok (.putfield 28, 3) := by decide +kernel
theorem dX3_follow_50 : decode cX3_follow 50 = .ok (.iload 4, 2) := by decide +kernel
theorem dX3_follow_52 : decode cX3_follow 52 = .ok (.ireturn, 1) := by decide +kernel
theorem dX3_follow_53 : decode cX3_follow 53 = .ok (.aload_n 0, 1) := by decide +kernel
theorem dX3_follow_54 : decode cX3_follow 54 = .ok (.iload 6, 2) := by decide +kernel
theorem dX3_follow_56 : decode cX3_follow 56 = .ok (.invokevirtual 81, 3) := by decide +kernel
theorem dX3_follow_59 : decode cX3_follow 59 = .ok (.iload 6, 2) := by decide +kernel
theorem dX3_follow_61 : decode cX3_follow 61 = .ok (.istore 4, 2) := by decide +kernel
theorem dX3_follow_63 : decode cX3_follow 63 = .ok (.iinc 5 1, 3) := by decide +kernel
theorem dX3_follow_66 : decode cX3_follow 66 = .ok (.goto (-55), 3) := by decide +kernel
theorem dX3_follow_69 : decode cX3_follow 69 = .ok (.iload 4, 2) := by decide +kernel
theorem dX3_follow_71 : decode cX3_follow 71 = .ok (.ireturn, 1) := by decide +kernel
theorem dX3_tread_0 : decode cX3_tread 0 = .ok (.aload_n 0, 1) := by decide +kernel
theorem dX3_tread_1 : decode cX3_tread 1 = .ok (.dup, 1) := by decide +kernel
theorem dX3_tread_2 : decode cX3_tread 2 = .ok (.getfield 18, 3) := by decide +kernel
theorem dX3_tread_5 : decode cX3_tread 5 = .ok (.iconst 1, 1) := by decide +kernel
theorem dX3_tread_6 : decode cX3_tread 6 = .ok (.aload_n 0, 1) := by decide +kernel
theorem dX3_tread_7 : decode cX3_tread 7 = .ok (.getfield 9, 3) := by decide +kernel
theorem dX3_tread_10 : decode cX3_tread 10 = .ok (.iload_n 1, 1) := by decide +kernel
theorem dX3_tread_11 : decode cX3_tread 11 = .ok (.iaload, 1) := by decide +kernel
theorem dX3_tread_12 : decode cX3_tread 12 = .ok (.iadd, 1) := by decide +kernel
theorem dX3_tread_13 : decode cX3_tread 13 = .ok (.iadd, 1) := by decide +kernel
theorem dX3_tread_14 : decode cX3_tread 14 = .ok (.putfield 18, 3) := by decide +kernel
theorem dX3_tread_17 : decode cX3_tread 17 = .ok (.aload_n 0, 1) := by decide +kernel
theorem dX3_tread_18 : decode cX3_tread 18 = .ok (.dup, 1) := by decide +kernel
theorem dX3_tread_19 : decode cX3_tread 19 = .ok (.getfield 22, 3) := by decide +kernel
theorem dX3_tread_22 : decode cX3_tread 22 = .ok (.iconst 1, 1) := by decide +kernel
theorem dX3_tread_23 : decode cX3_tread 23 = .ok (.iadd, 1) := by decide +kernel
theorem dX3_tread_24 : decode cX3_tread 24 = .ok (.putfield 22, 3) := by decide +kernel
theorem dX3_tread_27 : decode cX3_tread 27 = .ok (.aload_n 0, 1) := by decide +kernel
theorem dX3_tread_28 : decode cX3_tread 28 = .ok (.getfield 15, 3) := by decide +kernel
theorem dX3_tread_31 : decode cX3_tread 31 = .ok (.iload_n 1, 1) := by decide +kernel
theorem dX3_tread_32 : decode cX3_tread 32 = .ok (.dup2, 1) := by decide +kernel
theorem dX3_tread_33 : decode cX3_tread 33 = .ok (.iaload, 1) := by decide +kernel
theorem dX3_tread_34 : decode cX3_tread 34 = .ok (.iconst 1, 1) := by decide +kernel
theorem dX3_tread_35 : decode cX3_tread 35 = .ok (.iadd, 1) := by decide +kernel
theorem dX3_tread_36 : decode cX3_tread 36 = .ok (.iastore, 1) := by decide +kernel
theorem dX3_tread_37 : decode cX3_tread 37 = .ok (.aload_n 0, 1) := by decide +kernel
theorem dX3_tread_38 : decode cX3_tread 38 = .ok (.getfield 9, 3) := by decide +kernel
theorem dX3_tread_41 : decode cX3_tread 41 = .ok (.iload_n 1, 1) := by decide +kernel
theorem dX3_tread_42 : decode cX3_tread 42 = .ok (.iaload, 1) := by decide +kernel
theorem dX3_tread_43 : decode cX3_tread 43 = .ok (.ifCond .le 13, 3) := by decide +kernel
theorem dX3_tread_46 : decode cX3_tread 46 = .ok (.aload_n 0, 1) := by decide +kernel
theorem dX3_tread_47 : decode cX3_tread 47 = .ok (.getfield 9, 3) := by decide +kernel
theorem dX3_tread_50 : decode cX3_tread 50 = .ok (.iload_n 1, 1) := by decide +kernel
theorem dX3_tread_51 : decode cX3_tread 51 = .ok (.dup2, 1) := by decide +kernel
theorem dX3_tread_52 : decode cX3_tread 52 = .ok (.iaload, 1) := by decide +kernel
theorem dX3_tread_53 : decode cX3_tread 53 = .ok (.iconst 1, 1) := by decide +kernel
theorem dX3_tread_54 : decode cX3_tread 54 = .ok (.isub, 1) := by decide +kernel
theorem dX3_tread_55 : decode cX3_tread 55 = .ok (.iastore, 1) := by decide +kernel
theorem dX3_tread_56 : decode cX3_tread 56 = .ok (.return_, 1) := by decide +kernel
theorem dX3_cellsPassed_0 : decode cX3_cellsPassed 0 = .ok (.iconst 0, 1) := by decide +kernel
theorem dX3_cellsPassed_1 : decode cX3_cellsPassed 1 = .ok (.istore_n 1, 1) := by decide +kernel
theorem dX3_cellsPassed_2 : decode cX3_cellsPassed 2 = .ok (.aload_n 0, 1) := by decide +kernel
theorem dX3_cellsPassed_3 : decode cX3_cellsPassed 3 = .ok (.getfield 15, 3) := by decide +kernel
theorem dX3_cellsPassed_6 : decode cX3_cellsPassed 6 = .ok (.astore_n 2, 1) := by decide +kernel
theorem dX3_cellsPassed_7 : decode cX3_cellsPassed 7 = .ok (.aload_n 2, 1) := by decide +kernel
theorem dX3_cellsPassed_8 : decode cX3_cellsPassed 8 = .ok (.arraylength, 1) := by decide +kernel
theorem dX3_cellsPassed_9 : decode cX3_cellsPassed 9 = .ok (.istore_n 3, 1) := by decide +kernel
theorem dX3_cellsPassed_10 : decode cX3_cellsPassed 10 = .ok (.iconst 0, 1) := by decide +kernel
theorem dX3_cellsPassed_11 : decode cX3_cellsPassed 11 = .ok (.istore 4, 2) := by decide +kernel
theorem dX3_cellsPassed_13 : decode cX3_cellsPassed 13 = .ok (.iload 4, 2) := by decide +kernel
theorem dX3_cellsPassed_15 : decode cX3_cellsPassed 15 = .ok (.iload_n 3, 1) := by decide +kernel
theorem dX3_cellsPassed_16 : decode cX3_cellsPassed 16 = .ok (.if_icmp .ge 23, 3) := by decide +kernel
theorem dX3_cellsPassed_19 : decode cX3_cellsPassed 19 = .ok (.aload_n 2, 1) := by decide +kernel
theorem dX3_cellsPassed_20 : decode cX3_cellsPassed 20 = .ok (.iload 4, 2) := by decide +kernel
theorem dX3_cellsPassed_22 : decode cX3_cellsPassed 22 = .ok (.iaload, 1) := by decide +kernel
theorem dX3_cellsPassed_23 : decode cX3_cellsPassed 23 = .ok (.istore 5, 2) := by decide +kernel
theorem dX3_cellsPassed_25 : decode cX3_cellsPassed 25 = .ok (.iload 5, 2) := by decide +kernel
theorem dX3_cellsPassed_27 : decode cX3_cellsPassed 27 = .ok (.ifCond .le 6, 3) := by decide +kernel
theorem dX3_cellsPassed_30 : decode cX3_cellsPassed 30 = .ok (.iinc 1 1, 3) := by decide +kernel
theorem dX3_cellsPassed_33 : decode cX3_cellsPassed 33 = .ok (.iinc 4 1, 3) := by decide +kernel
theorem dX3_cellsPassed_36 : decode cX3_cellsPassed 36 = .ok (.goto (-23), 3) := by decide +kernel
theorem dX3_cellsPassed_39 : decode cX3_cellsPassed 39 = .ok (.iload_n 1, 1) := by decide +kernel
theorem dX3_cellsPassed_40 : decode cX3_cellsPassed 40 = .ok (.ireturn, 1) := by decide +kernel
theorem dX4_init_0 : decode cX4_init 0 = .ok (.aload_n 0, 1) := by decide +kernel
theorem dX4_init_1 : decode cX4_init 1 = .ok (.invokespecial 3, 3) := by decide +kernel
theorem dX4_init_4 : decode cX4_init 4 = .ok (.aload_n 0, 1) := by decide +kernel
theorem dX4_init_5 : decode cX4_init 5 = .ok (.bipush 64, 2) := by decide +kernel
theorem dX4_init_7 : decode cX4_init 7 = .ok (.newarray .int, 2) := by decide +kernel
theorem dX4_init_9 : decode cX4_init 9 = .ok (.putfield 9, 3) := by decide +kernel
theorem dX4_init_12 : decode cX4_init 12 = .ok (.aload_n 0, 1) := by decide +kernel
theorem dX4_init_13 : decode cX4_init 13 = .ok (.bipush 32, 2) := by decide +kernel
theorem dX4_init_15 : decode cX4_init 15 = .ok (.newarray .long, 2) := by decide +kernel
theorem dX4_init_17 : decode cX4_init 17 = .ok (.putfield 15, 3) := by decide +kernel
theorem dX4_init_20 : decode cX4_init 20 = .ok (.aload_n 0, 1) := by decide +kernel
theorem dX4_init_21 : decode cX4_init 21 = .ok (.bipush 64, 2) := by decide +kernel
theorem dX4_init_23 : decode cX4_init 23 = .ok (.newarray .int, 2) := by decide +kernel
theorem dX4_init_25 : decode cX4_init 25 = .ok (.putfield 19, 3) := by decide +kernel
theorem dX4_init_28 : decode cX4_init 28 = .ok (.aload_n 0, 1) := by decide +kernel
theorem dX4_init_29 : decode cX4_init 29 = .ok (.iconst 0, 1) := by decide +kernel
theorem dX4_init_30 : decode cX4_init 30 = .ok (.putfield 22, 3) := by decide +kernel
theorem dX4_init_33 : decode cX4_init 33 = .ok (.aload_n 0, 1) := by decide +kernel
theorem dX4_init_34 : decode cX4_init 34 = .ok (.lconst 0, 1) := by decide +kernel
theorem dX4_init_35 : decode cX4_init 35 = .ok (.putfield 26, 3) := by decide +kernel
theorem dX4_init_38 : decode cX4_init 38 = .ok (.return_, 1) := by decide +kernel
theorem dX4_find_0 : decode cX4_find 0 = .ok (.aload_n 0, 1) := by decide +kernel
theorem dX4_find_1 : decode cX4_find 1 = .ok (.iconst 0, 1) := by decide +kernel
theorem dX4_find_2 : decode cX4_find 2 = .ok (.putfield 22, 3) := by decide +kernel
theorem dX4_find_5 : decode cX4_find 5 = .ok (.lload_n 3, 1) := by decide +kernel
theorem dX4_find_6 : decode cX4_find 6 = .ok (.iload_n 1, 1) := by decide +kernel
theorem dX4_find_7 : decode cX4_find 7 = .ok (.invokestatic 30, 3) := by decide +kernel
theorem dX4_find_10 : decode cX4_find 10 = .ok (.ifCond .ne 11, 3) := by decide +kernel
theorem dX4_find_13 : decode cX4_find 13 = .ok (.lload_n 3, 1) := by decide +kernel
theorem dX4_find_14 : decode cX4_find 14 = .ok (.iload_n 2, 1) := by decide +kernel
theorem dX4_find_15 : decode cX4_find 15 = .ok (.invokestatic 30, 3) := by decide +kernel
theorem dX4_find_18 : decode cX4_find 18 = .ok (.ifCond .eq 5, 3) := by decide +kernel
theorem dX4_find_21 : decode cX4_find 21 = .ok (.iconst (-1), 1) := by decide +kernel
theorem dX4_find_22 : decode cX4_find 22 = .ok (.ireturn, 1) := by decide +kernel
theorem dX4_find_23 : decode cX4_find 23 = .ok (.aload_n 0, 1) := by decide +kernel
theorem dX4_find_24 : decode cX4_find 24 = .ok (.iload_n 1, 1) := by decide +kernel
theorem dX4_find_25 : decode cX4_find 25 = .ok (.iload_n 2, 1) := by decide +kernel
theorem dX4_find_26 : decode cX4_find 26 = .ok (.lload_n 3, 1) := by decide +kernel
theorem dX4_find_27 : decode cX4_find 27 = .ok (.aload 5, 2) := by decide +kernel
theorem dX4_find_29 : decode cX4_find 29 = .ok (.invokevirtual 34, 3) := by decide +kernel
theorem dX4_find_32 : decode cX4_find 32 = .ok (.aload_n 0, 1) := by decide +kernel
theorem dX4_find_33 : decode cX4_find 33 = .ok (.getfield 26, 3) := by decide +kernel
theorem dX4_find_36 : decode cX4_find 36 = .ok (.iload_n 1, 1) := by decide +kernel
theorem dX4_find_37 : decode cX4_find 37 = .ok (.invokestatic 30, 3) := by decide +kernel
theorem dX4_find_40 : decode cX4_find 40 = .ok (.ifCond .ne 5, 3) := by decide +kernel
theorem dX4_find_43 : decode cX4_find 43 = .ok (.iconst (-1), 1) := by decide +kernel
theorem dX4_find_44 : decode cX4_find 44 = .ok (.ireturn, 1) := by decide +kernel
theorem dX4_find_45 : decode cX4_find 45 = .ok (.iload_n 1, 1) := by decide +kernel
theorem dX4_find_46 : decode cX4_find 46 = .ok (.istore 6, 2) := by decide +kernel
theorem dX4_find_48 : decode cX4_find 48 = .ok (.iconst 0, 1) := by decide +kernel
theorem dX4_find_49 : decode cX4_find 49 = .ok (.istore 7, 2) := by decide +kernel
theorem dX4_find_51 : decode cX4_find 51 = .ok (.iload 7, 2) := by decide +kernel
theorem dX4_find_53 : decode cX4_find 53 = .ok (.bipush 64, 2) := by decide +kernel
theorem dX4_find_55 : decode cX4_find 55 = .ok (.if_icmp .ge 50, 3) := by decide +kernel
theorem dX4_find_58 : decode cX4_find 58 = .ok (.iload 6, 2) := by decide +kernel
theorem dX4_find_60 : decode cX4_find 60 = .ok (.iload_n 2, 1) := by decide +kernel
theorem dX4_find_61 : decode cX4_find 61 = .ok (.if_icmp .eq 44, 3) := by decide +kernel
theorem dX4_find_64 : decode cX4_find 64 = .ok (.aload_n 0, 1) := by decide +kernel
theorem dX4_find_65 : decode cX4_find 65 = .ok (.iload 6, 2) := by decide +kernel
theorem dX4_find_67 : decode cX4_find 67 = .ok (.aload 5, 2) := by decide +kernel
theorem dX4_find_69 : decode cX4_find 69 = .ok (.invokevirtual 38, 3) := by decide +kernel
theorem dX4_find_72 : decode cX4_find 72 = .ok (.istore 6, 2) := by decide +kernel
theorem dX4_find_74 : decode cX4_find 74 = .ok (.iload 6, 2) := by decide +kernel
theorem dX4_find_76 : decode cX4_find 76 = .ok (.iconst (-1), 1) := by decide +kernel
theorem dX4_find_77 : decode cX4_find 77 = .ok (.if_icmp .ne 5, 3) := by decide +kernel
theorem dX4_find_80 : decode cX4_find 80 = .ok (.iconst (-1), 1) := by decide +kernel
theorem dX4_find_81 : decode cX4_find 81 = .ok (.ireturn, 1) := by decide +kernel
theorem dX4_find_82 : decode cX4_find 82 = .ok (.aload_n 0, 1) := by decide +kernel
theorem dX4_find_83 : decode cX4_find 83 = .ok (.getfield 19, 3) := by decide +kernel
theorem dX4_find_86 : decode cX4_find 86 = .ok (.iload 7, 2) := by decide +kernel
theorem dX4_find_88 : decode cX4_find 88 = .ok (.iload 6, 2) := by decide +kernel
theorem dX4_find_90 : decode cX4_find 90 = .ok (.iastore, 1) := by decide +kernel
theorem dX4_find_91 : decode cX4_find 91 = .ok (.aload_n 0, 1) := by decide +kernel
theorem dX4_find_92 : decode cX4_find 92 = .ok (.iload 7, 2) := by decide +kernel
theorem dX4_find_94 : decode cX4_find 94 = .ok (.iconst 1, 1) := by decide +kernel
theorem dX4_find_95 : decode cX4_find 95 = .ok (.iadd, 1) := by decide +kernel
theorem dX4_find_96 : decode cX4_find 96 = .ok (.putfield 22, 3) := by decide +kernel
theorem dX4_find_99 : decode cX4_find 99 = .ok (.iinc 7 1, 3) := by decide +kernel
theorem dX4_find_102 : decode cX4_find 102 = .ok (.goto (-51), 3) := by decide +kernel
theorem dX4_find_105 : decode cX4_find 105 = .ok (.aload_n 0, 1) := by decide +kernel
theorem dX4_find_106 : decode cX4_find 106 = .ok (.getfield 9, 3) := by decide +kernel
theorem dX4_find_109 : decode cX4_find 109 = .ok (.iload_n 1, 1) := by decide +kernel
theorem dX4_find_110 : decode cX4_find 110 = .ok (.iaload, 1) := by decide +kernel
theorem dX4_find_111 : decode cX4_find 111 = .ok (.ireturn, 1) := by decide +kernel
theorem dX4_spread_0 : decode cX4_spread 0 = .ok (.aload_n 0, 1) := by decide +kernel
theorem dX4_spread_1 : decode cX4_spread 1 = .ok (.getfield 15, 3) := by decide +kernel
theorem dX4_spread_4 : decode cX4_spread 4 = .ok (.lconst 0, 1) := by decide +kernel
theorem dX4_spread_5 : decode cX4_spread 5 = .ok (.invokestatic 42, 3) := by decide +kernel
theorem dX4_spread_8 : decode cX4_spread 8 = .ok (.aload_n 0, 1) := by decide +kernel
theorem dX4_spread_9 : decode cX4_spread 9 = .ok (.getfield 15, 3) := by decide +kernel
theorem dX4_spread_12 : decode cX4_spread 12 = .ok (.iconst 0, 1) := by decide +kernel
theorem dX4_spread_13 : decode cX4_spread 13 = .ok (.iload_n 2, 1) := by decide +kernel
theorem dX4_spread_14 : decode cX4_spread 14 = .ok (.invokestatic 48, 3) := by decide +kernel
theorem dX4_spread_17 : decode cX4_spread 17 = .ok (.lastore, 1) := by decide +kernel
theorem dX4_spread_18 : decode cX4_spread 18 = .ok (.aload_n 0, 1) := by decide +kernel
theorem dX4_spread_19 : decode cX4_spread 19 = .ok (.lconst 0, 1) := by decide +kernel
theorem dX4_spread_20 : decode cX4_spread 20 = .ok (.putfield 26, 3) := by decide +kernel
theorem dX4_spread_23 : decode cX4_spread 23 = .ok (.iconst 0, 1) := by decide +kernel
theorem dX4_spread_24 : decode cX4_spread 24 = .ok (.istore 6, 2) := by decide +kernel
theorem dX4_spread_26 : decode cX4_spread 26 = .ok (.iconst 0, 1) := by decide +kernel
theorem dX4_spread_27 : decode cX4_spread 27 = .ok (.istore 7, 2) := by decide +kernel
theorem dX4_spread_29 : decode cX4_spread 29 = .ok (.iload 7, 2) := by decide +kernel
theorem dX4_spread_31 : decode cX4_spread 31 = .ok (.iload 6, 2) := by decide +kernel
theorem dX4_spread_33 : decode cX4_spread 33 = .ok (.if_icmp .gt 173, 3) := by decide +kernel
theorem dX4_spread_36 : decode cX4_spread 36 = .ok (.iload 7, 2) := by decide +kernel
theorem dX4_spread_38 : decode cX4_spread 38 = .ok (.sipush 1984, 3) := by decide +kernel
theorem dX4_spread_41 : decode cX4_spread 41 = .ok (.if_icmp .gt 165, 3) := by decide +kernel
theorem dX4_spread_44 : decode cX4_spread 44 = .ok (.aload_n 0, 1) := by decide +kernel
theorem dX4_spread_45 : decode cX4_spread 45 = .ok (.getfield 26, 3) := by decide +kernel
theorem dX4_spread_48 : decode cX4_spread 48 = .ok (.iload_n 1, 1) := by decide +kernel
theorem dX4_spread_49 : decode cX4_spread 49 = .ok (.invokestatic 30, 3) := by decide +kernel
theorem dX4_spread_52 : decode cX4_spread 52 = .ok (.ifCond .ne 154, 3) := by decide +kernel
theorem dX4_spread_55 : decode cX4_spread 55 = .ok (.aload_n 0, 1) := by decide +kernel
theorem dX4_spread_56 : decode cX4_spread 56 = .ok (.getfield 15, 3) := by decide +kernel
theorem dX4_spread_59 : decode cX4_spread 59 = .ok (.iload 7, 2) := by decide +kernel
theorem dX4_spread_61 : decode cX4_spread 61 = .ok (.bipush 31, 2) := by decide +kernel
theorem dX4_spread_63 : decode cX4_spread 63 = .ok (.iand, 1) := by decide +kernel
theorem dX4_spread_64 : decode cX4_spread 64 = .ok (.laload, 1) := by decide +kernel
theorem dX4_spread_65 : decode cX4_spread 65 = .ok (.aload_n 0, 1) := by decide +kernel
theorem dX4_spread_66 : decode cX4_spread 66 = .ok (.getfield 26, 3) := by decide +kernel
theorem dX4_spread_69 : decode cX4_spread 69 = .ok (.ldc2_w 52, 3) := by decide +kernel
theorem dX4_spread_72 : decode cX4_spread 72 = .ok (.lxor, 1) := by decide +kernel
theorem dX4_spread_73 : decode cX4_spread 73 = .ok (.land, 1) := by decide +kernel
theorem dX4_spread_74 : decode cX4_spread 74 = .ok (.lstore 8, 2) := by decide +kernel
theorem dX4_spread_76 : decode cX4_spread 76 = .ok (.aload_n 0, 1) := by decide +kernel
theorem dX4_spread_77 : decode cX4_spread 77 = .ok (.getfield 15, 3) := by decide +kernel
theorem dX4_spread_80 : decode cX4_spread 80 = .ok (.iload 7, 2) := by decide +kernel
theorem dX4_spread_82 : decode cX4_spread 82 = .ok (.bipush 31, 2) := by decide +kernel
theorem dX4_spread_84 : decode cX4_spread 84 = .ok (.iand, 1) := by decide +kernel
theorem dX4_spread_85 : decode cX4_spread 85 = .ok (.lconst 0, 1) := by decide +kernel
theorem dX4_spread_86 : decode cX4_spread 86 = .ok (.lastore, 1) := by decide +kernel
theorem dX4_spread_87 : decode cX4_spread 87 = .ok (.aload_n 0, 1) := by decide +kernel
theorem dX4_spread_88 : decode cX4_spread 88 = .ok (.dup, 1) := by decide +kernel
theorem dX4_spread_89 : decode cX4_spread 89 = .ok (.getfield 26, 3) := by decide +kernel
theorem dX4_spread_92 : decode cX4_spread 92 = .ok (.lload 8, 2) := by decide +kernel
theorem dX4_spread_94 : decode cX4_spread 94 = .ok (.lor, 1) := by decide +kernel
theorem dX4_spread_95 : decode cX4_spread 95 = .ok (.putfield 26, 3) := by decide +kernel
theorem dX4_spread_98 : decode cX4_spread 98 = .ok (.iconst 0, 1) := by decide +kernel
theorem dX4_spread_99 : decode cX4_spread 99 = .ok (.istore 10, 2) := by decide +kernel
theorem dX4_spread_101 : decode cX4_spread 101 = .ok (.iload 10, 2) := by decide +kernel
theorem dX4_spread_103 : decode cX4_spread 103 = .ok (.bipush 64, 2) := by decide +kernel
theorem dX4_spread_105 : decode cX4_spread 105 = .ok (.if_icmp .ge 95, 3) := by decide +kernel
theorem dX4_spread_108 : decode cX4_spread 108 = .ok (.lload 8, 2) := by decide +kernel
theorem dX4_spread_110 : decode cX4_spread 110 = .ok (.lconst 0, 1) := by decide +kernel
theorem dX4_spread_111 : decode cX4_spread 111 = .ok (.lcmp, 1) := by decide +kernel
theorem dX4_spread_112 : decode cX4_spread 112 = .ok (.ifCond .eq 88, 3) := by decide +kernel
theorem dX4_spread_115 : decode cX4_spread 115 = .ok (.lload 8, 2) := by decide +kernel
theorem dX4_spread_117 : decode cX4_spread 117 = .ok (.lload 8, 2) := by decide +kernel
theorem dX4_spread_119 : decode cX4_spread 119 = .ok (.lneg, 1) := by decide +kernel
theorem dX4_spread_120 : decode cX4_spread 120 = .ok (.land, 1) := by decide +kernel
theorem dX4_spread_121 : decode cX4_spread 121 = .ok (.lconst 1, 1) := by decide +kernel
theorem dX4_spread_122 : decode cX4_spread 122 = .ok (.lsub, 1) := by decide +kernel
theorem dX4_spread_123 : decode cX4_spread 123 = .ok (.invokestatic 54, 3) := by decide +kernel
theorem dX4_spread_126 : decode cX4_spread 126 = .ok (.istore 11, 2) := by decide +kernel
theorem dX4_spread_128 : decode cX4_spread 128 = .ok (.lload 8, 2) := by decide +kernel
theorem dX4_spread_130 : decode cX4_spread 130 = .ok (.lload 8, 2) := by decide +kernel
theorem dX4_spread_132 : decode cX4_spread 132 = .ok (.lconst 1, 1) := by decide +kernel
theorem dX4_spread_133 : decode cX4_spread 133 = .ok (.lsub, 1) := by decide +kernel
theorem dX4_spread_134 : decode cX4_spread 134 = .ok (.land, 1) := by decide +kernel
theorem dX4_spread_135 : decode cX4_spread 135 = .ok (.lstore 8, 2) := by decide +kernel
theorem dX4_spread_137 : decode cX4_spread 137 = .ok (.aload_n 0, 1) := by decide +kernel
theorem dX4_spread_138 : decode cX4_spread 138 = .ok (.getfield 9, 3) := by decide +kernel
theorem dX4_spread_141 : decode cX4_spread 141 = .ok (.iload 11, 2) := by decide +kernel
theorem dX4_spread_143 : decode cX4_spread 143 = .ok (.iload 7, 2) := by decide +kernel
theorem dX4_spread_145 : decode cX4_spread 145 = .ok (.iastore, 1) := by decide +kernel
theorem dX4_spread_146 : decode cX4_spread 146 = .ok (.iload 7, 2) := by decide +kernel
theorem dX4_spread_148 : decode cX4_spread 148 = .ok (.iconst 1, 1) := by decide +kernel
theorem dX4_spread_149 : decode cX4_spread 149 = .ok (.iadd, 1) := by decide +kernel
theorem dX4_spread_150 : decode cX4_spread 150 = .ok (.aload 5, 2) := by decide +kernel
theorem dX4_spread_152 : decode cX4_spread 152 = .ok (.iload 11, 2) := by decide +kernel
theorem dX4_spread_154 : decode cX4_spread 154 = .ok (.iaload, 1) := by decide +kernel
theorem dX4_spread_155 : decode cX4_spread 155 = .ok (.iadd, 1) := by decide +kernel
theorem dX4_spread_156 : decode cX4_spread 156 = .ok (.istore 12, 2) := by decide +kernel
theorem dX4_spread_158 : decode cX4_spread 158 = .ok (.aload_n 0, 1) := by decide +kernel
theorem dX4_spread_159 : decode cX4_spread 159 = .ok (.getfield 15, 3) := by decide +kernel
theorem dX4_spread_162 : decode cX4_spread 162 = .ok (.iload 12, 2) := by decide +kernel
theorem dX4_spread_164 : decode cX4_spread 164 = .ok (.bipush 31, 2) := by decide +kernel
theorem dX4_spread_166 : decode cX4_spread 166 = .ok (.iand, 1) := by decide +kernel
theorem dX4_spread_167 : decode cX4_spread 167 = .ok (.dup2, 1) := by decide +kernel
theorem dX4_spread_168 : decode cX4_spread 168 = .ok (.laload, 1) := by decide +kernel
theorem dX4_spread_169 : decode cX4_spread 169 = .ok (.iload 11, 2) := by decide +kernel
theorem dX4_spread_171 : decode cX4_spread 171 = .ok (.invokestatic 48, 3) := by decide +kernel
theorem dX4_spread_174 : decode cX4_spread 174 = .ok (.invokestatic 60, 3) := by decide +kernel
theorem dX4_spread_177 : decode cX4_spread 177 = .ok (.lload_n 3, 1) := by decide +kernel
theorem dX4_spread_178 : decode cX4_spread 178 = .ok (.ldc2_w 52, 3) := by decide +kernel
theorem dX4_spread_181 : decode cX4_spread 181 = .ok (.lxor, 1) := by decide +kernel
theorem dX4_spread_182 : decode cX4_spread 182 = .ok (.land, 1) := by decide +kernel
theorem dX4_spread_183 : decode cX4_spread 183 = .ok (.lor, 1) := by decide +kernel
theorem dX4_spread_184 : decode cX4_spread 184 = .ok (.lastore, 1) := by decide +kernel
theorem dX4_spread_185 : decode cX4_spread 185 = .ok (.iload 6, 2) := by decide +kernel
theorem dX4_spread_187 : decode cX4_spread 187 = .ok (.iload 12, 2) := by decide +kernel
theorem dX4_spread_189 : decode cX4_spread 189 = .ok (.invokestatic 64, 3) := by decide +kernel
theorem dX4_spread_192 : decode cX4_spread 192 = .ok (.istore 6, 2) := by decide +kernel
theorem dX4_spread_194 : decode cX4_spread 194 = .ok (.iinc 10 1, 3) := by decide +kernel
theorem dX4_spread_197 : decode cX4_spread 197 = .ok (.goto (-96), 3) := by decide +kernel
theorem dX4_spread_200 : decode cX4_spread 200 = .ok (.iinc 7 1, 3) := by decide +kernel
theorem dX4_spread_203 : decode cX4_spread 203 = .ok (.goto (-174), 3) := by decide +kernel
theorem dX4_spread_206 : decode cX4_spread 206 = .ok (.return_, 1) := by decide +kernel
theorem dX4_onward_0 : decode cX4_onward 0 = .ok (.iconst 0, 1) := by decide +kernel
theorem dX4_onward_1 : decode cX4_onward 1 = .ok (.istore_n 3, 1) := by decide +kernel
theorem dX4_onward_2 : decode cX4_onward 2 = .ok (.iload_n 3, 1) := by decide +kernel
theorem dX4_onward_3 : decode cX4_onward 3 = .ok (.iconst 4, 1) := by decide +kernel
theorem dX4_onward_4 : decode cX4_onward 4 = .ok (.if_icmp .ge 60, 3) := by decide +kernel
theorem dX4_onward_7 : decode cX4_onward 7 = .ok (.iload_n 1, 1) := by decide +kernel
theorem dX4_onward_8 : decode cX4_onward 8 = .ok (.iload_n 3, 1) := by decide +kernel
theorem dX4_onward_9 : decode cX4_onward 9 = .ok (.invokestatic 70, 3) := by decide +kernel
theorem dX4_onward_12 : decode cX4_onward 12 = .ok (.istore 4, 2) := by decide +kernel
theorem dX4_onward_14 : decode cX4_onward 14 = .ok (.iload 4, 2) := by decide +kernel
theorem dX4_onward_16 : decode cX4_onward 16 = .ok (.iconst (-1), 1) := by decide +kernel
theorem dX4_onward_17 : decode cX4_onward 17 = .ok (.if_icmp .eq 41, 3) := by decide +kernel
theorem dX4_onward_20 : decode cX4_onward 20 = .ok (.aload_n 0, 1) := by decide +kernel
theorem dX4_onward_21 : decode cX4_onward 21 = .ok (.getfield 26, 3) := by decide +kernel
theorem dX4_onward_24 : decode cX4_onward 24 = .ok (.iload 4, 2) := by decide +kernel
theorem dX4_onward_26 : decode cX4_onward 26 = .ok (.invokestatic 30, 3) := by decide +kernel
theorem dX4_onward_29 : decode cX4_onward 29 = .ok (.ifCond .eq 29, 3) := by decide +kernel
theorem dX4_onward_32 : decode cX4_onward 32 = .ok (.aload_n 0, 1) := by decide +kernel
theorem dX4_onward_33 : decode cX4_onward 33 = .ok (.getfield 9, 3) := by decide +kernel
theorem dX4_onward_36 : decode cX4_onward 36 = .ok (.iload 4, 2) := by decide +kernel
theorem dX4_onward_38 : decode cX4_onward 38 = .ok (.iaload, 1) := by decide +kernel
theorem dX4_onward_39 : decode cX4_onward 39 = .ok (.iconst 1, 1) := by decide +kernel
theorem dX4_onward_40 : decode cX4_onward 40 = .ok (.iadd, 1) := by decide +kernel
theorem dX4_onward_41 : decode cX4_onward 41 = .ok (.aload_n 2, 1) := by decide +kernel
theorem dX4_onward_42 : decode cX4_onward 42 = .ok (.iload 4, 2) := by decide +kernel
theorem dX4_onward_44 : decode cX4_onward 44 = .ok (.iaload, 1) := by decide +kernel
theorem dX4_onward_45 : decode cX4_onward 45 = .ok (.iadd, 1) := by decide +kernel
theorem dX4_onward_46 : decode cX4_onward 46 = .ok (.aload_n 0, 1) := by decide +kernel
theorem dX4_onward_47 : decode cX4_onward 47 = .ok (.getfield 9, 3) := by decide +kernel
theorem dX4_onward_50 : decode cX4_onward 50 = .ok (.iload_n 1, 1) := by decide +kernel
theorem dX4_onward_51 : decode cX4_onward 51 = .ok (.iaload, 1) := by decide +kernel
theorem dX4_onward_52 : decode cX4_onward 52 = .ok (.if_icmp .ne 6, 3) := by decide +kernel
theorem dX4_onward_55 : decode cX4_onward 55 = .ok (.iload 4, 2) := by decide +kernel
theorem dX4_onward_57 : decode cX4_onward 57 = .ok (.ireturn, 1) := by decide +kernel
theorem dX4_onward_58 : decode cX4_onward 58 = .ok (.iinc 3 1, 3) := by decide +kernel
theorem dX4_onward_61 : decode cX4_onward 61 = .ok (.goto (-59), 3) := by decide +kernel
theorem dX4_onward_64 : decode cX4_onward 64 = .ok (.iconst (-1), 1) := by decide +kernel
theorem dX4_onward_65 : decode cX4_onward 65 = .ok (.ireturn, 1) := by decide +kernel
theorem dX4_around_0 : decode cX4_around 0 = .ok (.lload_n 0, 1) := by decide +kernel
theorem dX4_around_1 : decode cX4_around 1 = .ok (.iconst 1, 1) := by decide +kernel
theorem dX4_around_2 : decode cX4_around 2 = .ok (.lshl, 1) := by decide +kernel
theorem dX4_around_3 : decode cX4_around 3 = .ok (.ldc2_w 73, 3) := by decide +kernel
theorem dX4_around_6 : decode cX4_around 6 = .ok (.land, 1) := by decide +kernel
theorem dX4_around_7 : decode cX4_around 7 = .ok (.lstore_n 2, 1) := by decide +kernel
theorem dX4_around_8 : decode cX4_around 8 = .ok (.lload_n 0, 1) := by decide +kernel
theorem dX4_around_9 : decode cX4_around 9 = .ok (.ldc2_w 73, 3) := by decide +kernel
theorem dX4_around_12 : decode cX4_around 12 = .ok (.land, 1) := by decide +kernel
theorem dX4_around_13 : decode cX4_around 13 = .ok (.iconst 1, 1) := by decide +kernel
theorem dX4_around_14 : decode cX4_around 14 = .ok (.lushr, 1) := by decide +kernel
theorem dX4_around_15 : decode cX4_around 15 = .ok (.lstore 4, 2) := by decide +kernel
theorem dX4_around_17 : decode cX4_around 17 = .ok (.lload_n 0, 1) := by decide +kernel
theorem dX4_around_18 : decode cX4_around 18 = .ok (.bipush 8, 2) := by decide +kernel
theorem dX4_around_20 : decode cX4_around 20 = .ok (.lushr, 1) := by decide +kernel
theorem dX4_around_21 : decode cX4_around 21 = .ok (.lload_n 2, 1) := by decide +kernel
theorem dX4_around_22 : decode cX4_around 22 = .ok (.lor, 1) := by decide +kernel
theorem dX4_around_23 : decode cX4_around 23 = .ok (.lload_n 0, 1) := by decide +kernel
theorem dX4_around_24 : decode cX4_around 24 = .ok (.bipush 8, 2) := by decide +kernel
theorem dX4_around_26 : decode cX4_around 26 = .ok (.lshl, 1) := by decide +kernel
theorem dX4_around_27 : decode cX4_around 27 = .ok (.lor, 1) := by decide +kernel
theorem dX4_around_28 : decode cX4_around 28 = .ok (.lload 4, 2) := by decide +kernel
theorem dX4_around_30 : decode cX4_around 30 = .ok (.lor, 1) := by decide +kernel
theorem dX4_around_31 : decode cX4_around 31 = .ok (.lreturn, 1) := by decide +kernel
theorem dX5_init_0 : decode cX5_init 0 = .ok (.aload_n 0, 1) := by decide +kernel
theorem dX5_init_1 : decode cX5_init 1 = .ok (.invokespecial 3, 3) := by decide +kernel
theorem dX5_init_4 : decode cX5_init 4 = .ok (.aload_n 0, 1) := by decide +kernel
theorem dX5_init_5 : decode cX5_init 5 = .ok (.bipush 64, 2) := by decide +kernel
theorem dX5_init_7 : decode cX5_init 7 = .ok (.newarray .int, 2) := by decide +kernel
theorem dX5_init_9 : decode cX5_init 9 = .ok (.putfield 9, 3) := by decide +kernel
theorem dX5_init_12 : decode cX5_init 12 = .ok (.aload_n 0, 1) := by decide +kernel
theorem dX5_init_13 : decode cX5_init 13 = .ok (.iconst (-1), 1) := by decide +kernel
theorem dX5_init_14 : decode cX5_init 14 = .ok (.putfield 15, 3) := by decide +kernel
theorem dX5_init_17 : decode cX5_init 17 = .ok (.aload_n 0, 1) := by decide +kernel
theorem dX5_init_18 : decode cX5_init 18 = .ok (.iconst 0, 1) := by decide +kernel
theorem dX5_init_19 : decode cX5_init 19 = .ok (.putfield 19, 3) := by decide +kernel
theorem dX5_init_22 : decode cX5_init 22 = .ok (.return_, 1) := by decide +kernel
theorem dX5_isLost_0 : decode cX5_isLost 0 = .ok (.aload_n 0, 1) := by decide +kernel
theorem dX5_isLost_1 : decode cX5_isLost 1 = .ok (.getfield 15, 3) := by decide +kernel
theorem dX5_isLost_4 : decode cX5_isLost 4 = .ok (.iconst (-1), 1) := by decide +kernel
theorem dX5_isLost_5 : decode cX5_isLost 5 = .ok (.if_icmp .ne 7, 3) := by decide +kernel
theorem dX5_isLost_8 : decode cX5_isLost 8 = .ok (.iconst 1, 1) := by decide +kernel
theorem dX5_isLost_9 : decode cX5_isLost 9 = .ok (.goto 4, 3) := by decide +kernel
theorem dX5_isLost_12 : decode cX5_isLost 12 = .ok (.iconst 0, 1) := by decide +kernel
theorem dX5_isLost_13 : decode cX5_isLost 13 = .ok (.ireturn, 1) := by decide +kernel
theorem dX5_renew_0 : decode cX5_renew 0 = .ok (.aload_n 0, 1) := by decide +kernel
theorem dX5_renew_1 : decode cX5_renew 1 = .ok (.iload_n 1, 1) := by decide +kernel
theorem dX5_renew_2 : decode cX5_renew 2 = .ok (.putfield 15, 3) := by decide +kernel
theorem dX5_renew_5 : decode cX5_renew 5 = .ok (.aload_n 0, 1) := by decide +kernel
theorem dX5_renew_6 : decode cX5_renew 6 = .ok (.iload_n 2, 1) := by decide +kernel
theorem dX5_renew_7 : decode cX5_renew 7 = .ok (.putfield 19, 3) := by decide +kernel
theorem dX5_renew_10 : decode cX5_renew 10 = .ok (.aload_n 0, 1) := by decide +kernel
theorem dX5_renew_11 : decode cX5_renew 11 = .ok (.getfield 9, 3) := by decide +kernel
theorem dX5_renew_14 : decode cX5_renew 14 = .ok (.iconst 0, 1) := by decide +kernel
theorem dX5_renew_15 : decode cX5_renew 15 = .ok (.invokestatic 22, 3) := by decide +kernel
theorem dX5_renew_18 : decode cX5_renew 18 = .ok (.return_, 1) := by decide +kernel
theorem dX5_put_0 : decode cX5_put 0 = .ok (.aload_n 0, 1) := by decide +kernel
theorem dX5_put_1 : decode cX5_put 1 = .ok (.getfield 15, 3) := by decide +kernel
theorem dX5_put_4 : decode cX5_put 4 = .ok (.lookupswitch 50 #[(0, 28), (1, 39)], 28) := by decide +kernel
theorem dX5_put_32 : decode cX5_put 32 = .ok (.aload_n 0, 1) := by decide +kernel
theorem dX5_put_33 : decode cX5_put 33 = .ok (.getfield 9, 3) := by decide +kernel
theorem dX5_put_36 : decode cX5_put 36 = .ok (.iload_n 1, 1) := by decide +kernel
theorem dX5_put_37 : decode cX5_put 37 = .ok (.iload_n 2, 1) := by decide +kernel
theorem dX5_put_38 : decode cX5_put 38 = .ok (.i2b, 1) := by decide +kernel
theorem dX5_put_39 : decode cX5_put 39 = .ok (.iastore, 1) := by decide +kernel
theorem dX5_put_40 : decode cX5_put 40 = .ok (.goto 21, 3) := by decide +kernel
theorem dX5_put_43 : decode cX5_put 43 = .ok (.aload_n 0, 1) := by decide +kernel
theorem dX5_put_44 : decode cX5_put 44 = .ok (.getfield 9, 3) := by decide +kernel
theorem dX5_put_47 : decode cX5_put 47 = .ok (.iload_n 1, 1) := by decide +kernel
theorem dX5_put_48 : decode cX5_put 48 = .ok (.iload_n 2, 1) := by decide +kernel
theorem dX5_put_49 : decode cX5_put 49 = .ok (.i2s, 1) := by decide +kernel
theorem dX5_put_50 : decode cX5_put 50 = .ok (.iastore, 1) := by decide +kernel
theorem dX5_put_51 : decode cX5_put 51 = .ok (.goto 10, 3) := by decide +kernel
theorem dX5_put_54 : decode cX5_put 54 = .ok (.aload_n 0, 1) := by decide +kernel
theorem dX5_put_55 : decode cX5_put 55 = .ok (.getfield 9, 3) := by decide +kernel
theorem dX5_put_58 : decode cX5_put 58 = .ok (.iload_n 1, 1) := by decide +kernel
theorem dX5_put_59 : decode cX5_put 59 = .ok (.iload_n 2, 1) := by decide +kernel
theorem dX5_put_60 : decode cX5_put 60 = .ok (.iastore, 1) := by decide +kernel
theorem dX5_put_61 : decode cX5_put 61 = .ok (.return_, 1) := by decide +kernel
theorem dX5_holds_0 : decode cX5_holds 0 = .ok (.iload_n 1, 1) := by decide +kernel
theorem dX5_holds_1 : decode cX5_holds 1 = .ok (.ifCond .lt 29, 3) := by decide +kernel
theorem dX5_holds_4 : decode cX5_holds 4 = .ok (.iload_n 2, 1) := by decide +kernel
theorem dX5_holds_5 : decode cX5_holds 5 = .ok (.ifCond .lt 25, 3) := by decide +kernel
theorem dX5_holds_8 : decode cX5_holds 8 = .ok (.iload_n 1, 1) := by decide +kernel
theorem dX5_holds_9 : decode cX5_holds 9 = .ok (.aload_n 0, 1) := by decide +kernel
theorem dX5_holds_10 : decode cX5_holds 10 = .ok (.getfield 19, 3) := by decide +kernel
theorem dX5_holds_13 : decode cX5_holds 13 = .ok (.if_icmp .gt 17, 3) := by decide +kernel
theorem dX5_holds_16 : decode cX5_holds 16 = .ok (.iload_n 2, 1) := by decide +kernel
theorem dX5_holds_17 : decode cX5_holds 17 = .ok (.aload_n 0, 1) := by decide +kernel
theorem dX5_holds_18 : decode cX5_holds 18 = .ok (.getfield 19, 3) := by decide +kernel
theorem dX5_holds_21 : decode cX5_holds 21 = .ok (.iload_n 1, 1) := by decide +kernel
theorem dX5_holds_22 : decode cX5_holds 22 = .ok (.isub, 1) := by decide +kernel
theorem dX5_holds_23 : decode cX5_holds 23 = .ok (.if_icmp .gt 7, 3) := by decide +kernel
theorem dX5_holds_26 : decode cX5_holds 26 = .ok (.iconst 1, 1) := by decide +kernel
theorem dX5_holds_27 : decode cX5_holds 27 = .ok (.goto 4, 3) := by decide +kernel
theorem dX5_holds_30 : decode cX5_holds 30 = .ok (.iconst 0, 1) := by decide +kernel
theorem dX5_holds_31 : decode cX5_holds 31 = .ok (.ireturn, 1) := by decide +kernel
theorem dX5_shows_0 : decode cX5_shows 0 = .ok (.iconst 0, 1) := by decide +kernel
theorem dX5_shows_1 : decode cX5_shows 1 = .ok (.istore_n 2, 1) := by decide +kernel
theorem dX5_shows_2 : decode cX5_shows 2 = .ok (.iload_n 2, 1) := by decide +kernel
theorem dX5_shows_3 : decode cX5_shows 3 = .ok (.aload_n 0, 1) := by decide +kernel
theorem dX5_shows_4 : decode cX5_shows 4 = .ok (.getfield 19, 3) := by decide +kernel
theorem dX5_shows_7 : decode cX5_shows 7 = .ok (.if_icmp .ge 23, 3) := by decide +kernel
theorem dX5_shows_10 : decode cX5_shows 10 = .ok (.aload_n 0, 1) := by decide +kernel
theorem dX5_shows_11 : decode cX5_shows 11 = .ok (.getfield 9, 3) := by decide +kernel
theorem dX5_shows_14 : decode cX5_shows 14 = .ok (.iload_n 2, 1) := by decide +kernel
theorem dX5_shows_15 : decode cX5_shows 15 = .ok (.iaload, 1) := by decide +kernel
theorem dX5_shows_16 : decode cX5_shows 16 = .ok (.aload_n 1, 1) := by decide +kernel
theorem dX5_shows_17 : decode cX5_shows 17 = .ok (.iload_n 2, 1) := by decide +kernel
theorem dX5_shows_18 : decode cX5_shows 18 = .ok (.iaload, 1) := by decide +kernel
theorem dX5_shows_19 : decode cX5_shows 19 = .ok (.if_icmp .eq 5, 3) := by decide +kernel
theorem dX5_shows_22 : decode cX5_shows 22 = .ok (.iconst 0, 1) := by decide +kernel
theorem dX5_shows_23 : decode cX5_shows 23 = .ok (.ireturn, 1) := by decide +kernel
theorem dX5_shows_24 : decode cX5_shows 24 = .ok (.iinc 2 1, 3) := by decide +kernel
theorem dX5_shows_27 : decode cX5_shows 27 = .ok (.goto (-25), 3) := by decide +kernel
theorem dX5_shows_30 : decode cX5_shows 30 = .ok (.iconst 1, 1) := by decide +kernel
theorem dX5_shows_31 : decode cX5_shows 31 = .ok (.ireturn, 1) := by decide +kernel
theorem dX6_init_0 : decode cX6_init 0 = .ok (.aload_n 0, 1) := by decide +kernel
theorem dX6_init_1 : decode cX6_init 1 = .ok (.invokespecial 3, 3) := by decide +kernel
theorem dX6_init_4 : decode cX6_init 4 = .ok (.aload_n 0, 1) := by decide +kernel
theorem dX6_init_5 : decode cX6_init 5 = .ok (.bipush 8, 2) := by decide +kernel
theorem dX6_init_7 : decode cX6_init 7 = .ok (.newarray .int, 2) := by decide +kernel
theorem dX6_init_9 : decode cX6_init 9 = .ok (.putfield 9, 3) := by decide +kernel
theorem dX6_init_12 : decode cX6_init 12 = .ok (.aload_n 0, 1) := by decide +kernel
theorem dX6_init_13 : decode cX6_init 13 = .ok (.bipush 8, 2) := by decide +kernel
theorem dX6_init_15 : decode cX6_init 15 = .ok (.newarray .int, 2) := by decide +kernel
theorem dX6_init_17 : decode cX6_init 17 = .ok (.putfield 15, 3) := by decide +kernel
theorem dX6_init_20 : decode cX6_init 20 = .ok (.aload_n 0, 1) := by decide +kernel
theorem dX6_init_21 : decode cX6_init 21 = .ok (.iconst 0, 1) := by decide +kernel
theorem dX6_init_22 : decode cX6_init 22 = .ok (.putfield 18, 3) := by decide +kernel
theorem dX6_init_25 : decode cX6_init 25 = .ok (.return_, 1) := by decide +kernel
theorem dX6_join_0 : decode cX6_join 0 = .ok (.aload_n 0, 1) := by decide +kernel
theorem dX6_join_1 : decode cX6_join 1 = .ok (.getfield 18, 3) := by decide +kernel
theorem dX6_join_4 : decode cX6_join 4 = .ok (.bipush 8, 2) := by decide +kernel
theorem dX6_join_6 : decode cX6_join 6 = .ok (.if_icmp .lt 5, 3) := by decide +kernel
theorem dX6_join_9 : decode cX6_join 9 = .ok (.iconst 0, 1) := by decide +kernel
theorem dX6_join_10 : decode cX6_join 10 = .ok (.ireturn, 1) := by decide +kernel
theorem dX6_join_11 : decode cX6_join 11 = .ok (.aload_n 0, 1) := by decide +kernel
theorem dX6_join_12 : decode cX6_join 12 = .ok (.getfield 9, 3) := by decide +kernel
theorem dX6_join_15 : decode cX6_join 15 = .ok (.aload_n 0, 1) := by decide +kernel
theorem dX6_join_16 : decode cX6_join 16 = .ok (.getfield 18, 3) := by decide +kernel
theorem dX6_join_19 : decode cX6_join 19 = .ok (.iload_n 1, 1) := by decide +kernel
theorem dX6_join_20 : decode cX6_join 20 = .ok (.iastore, 1) := by decide +kernel
theorem dX6_join_21 : decode cX6_join 21 = .ok (.aload_n 0, 1) := by decide +kernel
theorem dX6_join_22 : decode cX6_join 22 = .ok (.getfield 15, 3) := by decide +kernel
theorem dX6_join_25 : decode cX6_join 25 = .ok (.aload_n 0, 1) := by decide +kernel
theorem dX6_join_26 : decode cX6_join 26 = .ok (.getfield 18, 3) := by decide +kernel
theorem dX6_join_29 : decode cX6_join 29 = .ok (.iload_n 2, 1) := by decide +kernel
theorem dX6_join_30 : decode cX6_join 30 = .ok (.iastore, 1) := by decide +kernel
theorem dX6_join_31 : decode cX6_join 31 = .ok (.aload_n 0, 1) := by decide +kernel
theorem dX6_join_32 : decode cX6_join 32 = .ok (.dup, 1) := by decide +kernel
theorem dX6_join_33 : decode cX6_join 33 = .ok (.getfield 18, 3) := by decide +kernel
theorem dX6_join_36 : decode cX6_join 36 = .ok (.iconst 1, 1) := by decide +kernel
theorem dX6_join_37 : decode cX6_join 37 = .ok (.iadd, 1) := by decide +kernel
theorem dX6_join_38 : decode cX6_join 38 = .ok (.putfield 18, 3) := by decide +kernel
theorem dX6_join_41 : decode cX6_join 41 = .ok (.iconst 1, 1) := by decide +kernel
theorem dX6_join_42 : decode cX6_join 42 = .ok (.ireturn, 1) := by decide +kernel
theorem dJ13_bitCount_95d88_0 : decode cJ13_bitCount_95d88 0 = .ok (.lload_n 0, 1) := by decide +kernel
theorem dJ13_bitCount_95d88_1 : decode cJ13_bitCount_95d88 1 = .ok (.lload_n 0, 1) := by decide +kernel
theorem dJ13_bitCount_95d88_2 : decode cJ13_bitCount_95d88 2 = .ok (.iconst 1, 1) := by decide +kernel
theorem dJ13_bitCount_95d88_3 : decode cJ13_bitCount_95d88 3 = .ok (.lushr, 1) := by decide +kernel
theorem dJ13_bitCount_95d88_4 : decode cJ13_bitCount_95d88 4 = .ok (.ldc2_w 314, 3) := by decide +kernel
theorem dJ13_bitCount_95d88_7 : decode cJ13_bitCount_95d88 7 = .ok (.land, 1) := by decide +kernel
theorem dJ13_bitCount_95d88_8 : decode cJ13_bitCount_95d88 8 = .ok (.lsub, 1) := by decide +kernel
theorem dJ13_bitCount_95d88_9 : decode cJ13_bitCount_95d88 9 = .ok (.lstore_n 0, 1) := by decide +kernel
theorem dJ13_bitCount_95d88_10 : decode cJ13_bitCount_95d88 10 = .ok (.lload_n 0, 1) := by decide +kernel
theorem dJ13_bitCount_95d88_11 : decode cJ13_bitCount_95d88 11 = .ok (.ldc2_w 316, 3) := by decide +kernel
theorem dJ13_bitCount_95d88_14 : decode cJ13_bitCount_95d88 14 = .ok (.land, 1) := by decide +kernel
theorem dJ13_bitCount_95d88_15 : decode cJ13_bitCount_95d88 15 = .ok (.lload_n 0, 1) := by decide +kernel
theorem dJ13_bitCount_95d88_16 : decode cJ13_bitCount_95d88 16 = .ok (.iconst 2, 1) := by decide +kernel
theorem dJ13_bitCount_95d88_17 : decode cJ13_bitCount_95d88 17 = .ok (.lushr, 1) := by decide +kernel
theorem dJ13_bitCount_95d88_18 : decode cJ13_bitCount_95d88 18 = .ok (.ldc2_w 316, 3) := by decide +kernel
theorem dJ13_bitCount_95d88_21 : decode cJ13_bitCount_95d88 21 = .ok (.land, 1) := by decide +kernel
theorem dJ13_bitCount_95d88_22 : decode cJ13_bitCount_95d88 22 = .ok (.ladd, 1) := by decide +kernel
theorem dJ13_bitCount_95d88_23 : decode cJ13_bitCount_95d88 23 = .ok (.lstore_n 0, 1) := by decide +kernel
theorem dJ13_bitCount_95d88_24 : decode cJ13_bitCount_95d88 24 = .ok (.lload_n 0, 1) := by decide +kernel
theorem dJ13_bitCount_95d88_25 : decode cJ13_bitCount_95d88 25 = .ok (.lload_n 0, 1) := by decide +kernel
theorem dJ13_bitCount_95d88_26 : decode cJ13_bitCount_95d88 26 = .ok (.iconst 4, 1) := by decide +kernel
theorem dJ13_bitCount_95d88_27 : decode cJ13_bitCount_95d88 27 = .ok (.lushr, 1) := by decide +kernel
theorem dJ13_bitCount_95d88_28 : decode cJ13_bitCount_95d88 28 = .ok (.ladd, 1) := by decide +kernel
theorem dJ13_bitCount_95d88_29 : decode cJ13_bitCount_95d88 29 = .ok (.ldc2_w 318, 3) := by decide +kernel
theorem dJ13_bitCount_95d88_32 : decode cJ13_bitCount_95d88 32 = .ok (.land, 1) := by decide +kernel
theorem dJ13_bitCount_95d88_33 : decode cJ13_bitCount_95d88 33 = .ok (.lstore_n 0, 1) := by decide +kernel
theorem dJ13_bitCount_95d88_34 : decode cJ13_bitCount_95d88 34 = .ok (.lload_n 0, 1) := by decide +kernel
theorem dJ13_bitCount_95d88_35 : decode cJ13_bitCount_95d88 35 = .ok (.lload_n 0, 1) := by decide +kernel
theorem dJ13_bitCount_95d88_36 : decode cJ13_bitCount_95d88 36 = .ok (.bipush 8, 2) := by decide +kernel
theorem dJ13_bitCount_95d88_38 : decode cJ13_bitCount_95d88 38 = .ok (.lushr, 1) := by decide +kernel
theorem dJ13_bitCount_95d88_39 : decode cJ13_bitCount_95d88 39 = .ok (.ladd, 1) := by decide +kernel
theorem dJ13_bitCount_95d88_40 : decode cJ13_bitCount_95d88 40 = .ok (.lstore_n 0, 1) := by decide +kernel
theorem dJ13_bitCount_95d88_41 : decode cJ13_bitCount_95d88 41 = .ok (.lload_n 0, 1) := by decide +kernel
theorem dJ13_bitCount_95d88_42 : decode cJ13_bitCount_95d88 42 = .ok (.lload_n 0, 1) := by decide +kernel
theorem dJ13_bitCount_95d88_43 : decode cJ13_bitCount_95d88 43 = .ok (.bipush 16, 2) := by decide +kernel
theorem dJ13_bitCount_95d88_45 : decode cJ13_bitCount_95d88 45 = .ok (.lushr, 1) := by decide +kernel
theorem dJ13_bitCount_95d88_46 : decode cJ13_bitCount_95d88 46 = .ok (.ladd, 1) := by decide +kernel
theorem dJ13_bitCount_95d88_47 : decode cJ13_bitCount_95d88 47 = .ok (.lstore_n 0, 1) := by decide +kernel
theorem dJ13_bitCount_95d88_48 : decode cJ13_bitCount_95d88 48 = .ok (.lload_n 0, 1) := by decide +kernel
theorem dJ13_bitCount_95d88_49 : decode cJ13_bitCount_95d88 49 = .ok (.lload_n 0, 1) := by decide +kernel
theorem dJ13_bitCount_95d88_50 : decode cJ13_bitCount_95d88 50 = .ok (.bipush 32, 2) := by decide +kernel
theorem dJ13_bitCount_95d88_52 : decode cJ13_bitCount_95d88 52 = .ok (.lushr, 1) := by decide +kernel
theorem dJ13_bitCount_95d88_53 : decode cJ13_bitCount_95d88 53 = .ok (.ladd, 1) := by decide +kernel
theorem dJ13_bitCount_95d88_54 : decode cJ13_bitCount_95d88 54 = .ok (.lstore_n 0, 1) := by decide +kernel
theorem dJ13_bitCount_95d88_55 : decode cJ13_bitCount_95d88 55 = .ok (.lload_n 0, 1) := by decide +kernel
theorem dJ13_bitCount_95d88_56 : decode cJ13_bitCount_95d88 56 = .ok (.l2i, 1) := by decide +kernel
theorem dJ13_bitCount_95d88_57 : decode cJ13_bitCount_95d88 57 = .ok (.bipush 127, 2) := by decide +kernel
theorem dJ13_bitCount_95d88_59 : decode cJ13_bitCount_95d88 59 = .ok (.iand, 1) := by decide +kernel
theorem dJ13_bitCount_95d88_60 : decode cJ13_bitCount_95d88 60 = .ok (.ireturn, 1) := by decide +kernel
theorem dJ9_max_7cf53_0 : decode cJ9_max_7cf53 0 = .ok (.iload_n 0, 1) := by decide +kernel
theorem dJ9_max_7cf53_1 : decode cJ9_max_7cf53 1 = .ok (.iload_n 1, 1) := by decide +kernel
theorem dJ9_max_7cf53_2 : decode cJ9_max_7cf53 2 = .ok (.if_icmp .lt 7, 3) := by decide +kernel
theorem dJ9_max_7cf53_5 : decode cJ9_max_7cf53 5 = .ok (.iload_n 0, 1) := by decide +kernel
theorem dJ9_max_7cf53_6 : decode cJ9_max_7cf53 6 = .ok (.goto 4, 3) := by decide +kernel
theorem dJ9_max_7cf53_9 : decode cJ9_max_7cf53 9 = .ok (.iload_n 1, 1) := by decide +kernel
theorem dJ9_max_7cf53_10 : decode cJ9_max_7cf53 10 = .ok (.ireturn, 1) := by decide +kernel
theorem dJ9_min_7cf53_0 : decode cJ9_min_7cf53 0 = .ok (.iload_n 0, 1) := by decide +kernel
theorem dJ9_min_7cf53_1 : decode cJ9_min_7cf53 1 = .ok (.iload_n 1, 1) := by decide +kernel
theorem dJ9_min_7cf53_2 : decode cJ9_min_7cf53 2 = .ok (.if_icmp .gt 7, 3) := by decide +kernel
theorem dJ9_min_7cf53_5 : decode cJ9_min_7cf53 5 = .ok (.iload_n 0, 1) := by decide +kernel
theorem dJ9_min_7cf53_6 : decode cJ9_min_7cf53 6 = .ok (.goto 4, 3) := by decide +kernel
theorem dJ9_min_7cf53_9 : decode cJ9_min_7cf53 9 = .ok (.iload_n 1, 1) := by decide +kernel
theorem dJ9_min_7cf53_10 : decode cJ9_min_7cf53 10 = .ok (.ireturn, 1) := by decide +kernel
theorem dJ7_fill_d0a16_0 : decode cJ7_fill_d0a16 0 = .ok (.iconst 0, 1) := by decide +kernel
theorem dJ7_fill_d0a16_1 : decode cJ7_fill_d0a16 1 = .ok (.istore_n 3, 1) := by decide +kernel
theorem dJ7_fill_d0a16_2 : decode cJ7_fill_d0a16 2 = .ok (.aload_n 0, 1) := by decide +kernel
theorem dJ7_fill_d0a16_3 : decode cJ7_fill_d0a16 3 = .ok (.arraylength, 1) := by decide +kernel
theorem dJ7_fill_d0a16_4 : decode cJ7_fill_d0a16 4 = .ok (.istore 4, 2) := by decide +kernel
theorem dJ7_fill_d0a16_6 : decode cJ7_fill_d0a16 6 = .ok (.iload_n 3, 1) := by decide +kernel
theorem dJ7_fill_d0a16_7 : decode cJ7_fill_d0a16 7 = .ok (.iload 4, 2) := by decide +kernel
theorem dJ7_fill_d0a16_9 : decode cJ7_fill_d0a16 9 = .ok (.if_icmp .ge 13, 3) := by decide +kernel
theorem dJ7_fill_d0a16_12 : decode cJ7_fill_d0a16 12 = .ok (.aload_n 0, 1) := by decide +kernel
theorem dJ7_fill_d0a16_13 : decode cJ7_fill_d0a16 13 = .ok (.iload_n 3, 1) := by decide +kernel
theorem dJ7_fill_d0a16_14 : decode cJ7_fill_d0a16 14 = .ok (.lload_n 1, 1) := by decide +kernel
theorem dJ7_fill_d0a16_15 : decode cJ7_fill_d0a16 15 = .ok (.lastore, 1) := by decide +kernel
theorem dJ7_fill_d0a16_16 : decode cJ7_fill_d0a16 16 = .ok (.iinc 3 1, 3) := by decide +kernel
theorem dJ7_fill_d0a16_19 : decode cJ7_fill_d0a16 19 = .ok (.goto (-13), 3) := by decide +kernel
theorem dJ7_fill_d0a16_22 : decode cJ7_fill_d0a16 22 = .ok (.return_, 1) := by decide +kernel
theorem dJ7_fill_53178_0 : decode cJ7_fill_53178 0 = .ok (.iconst 0, 1) := by decide +kernel
theorem dJ7_fill_53178_1 : decode cJ7_fill_53178 1 = .ok (.istore_n 2, 1) := by decide +kernel
theorem dJ7_fill_53178_2 : decode cJ7_fill_53178 2 = .ok (.aload_n 0, 1) := by decide +kernel
theorem dJ7_fill_53178_3 : decode cJ7_fill_53178 3 = .ok (.arraylength, 1) := by decide +kernel
theorem dJ7_fill_53178_4 : decode cJ7_fill_53178 4 = .ok (.istore_n 3, 1) := by decide +kernel
theorem dJ7_fill_53178_5 : decode cJ7_fill_53178 5 = .ok (.iload_n 2, 1) := by decide +kernel
theorem dJ7_fill_53178_6 : decode cJ7_fill_53178 6 = .ok (.iload_n 3, 1) := by decide +kernel
theorem dJ7_fill_53178_7 : decode cJ7_fill_53178 7 = .ok (.if_icmp .ge 13, 3) := by decide +kernel
theorem dJ7_fill_53178_10 : decode cJ7_fill_53178 10 = .ok (.aload_n 0, 1) := by decide +kernel
theorem dJ7_fill_53178_11 : decode cJ7_fill_53178 11 = .ok (.iload_n 2, 1) := by decide +kernel
theorem dJ7_fill_53178_12 : decode cJ7_fill_53178 12 = .ok (.iload_n 1, 1) := by decide +kernel
theorem dJ7_fill_53178_13 : decode cJ7_fill_53178 13 = .ok (.iastore, 1) := by decide +kernel
theorem dJ7_fill_53178_14 : decode cJ7_fill_53178 14 = .ok (.iinc 2 1, 3) := by decide +kernel
theorem dJ7_fill_53178_17 : decode cJ7_fill_53178 17 = .ok (.goto (-12), 3) := by decide +kernel
theorem dJ7_fill_53178_20 : decode cJ7_fill_53178 20 = .ok (.return_, 1) := by decide +kernel
