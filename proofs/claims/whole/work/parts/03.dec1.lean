theorem d_Ma_abs_0 : decode prog_11_method_61_code 0 = .ok (.lload_n 0, 1) := by decide +kernel
theorem d_Ma_abs_1 : decode prog_11_method_61_code 1 = .ok (.lconst 0, 1) := by decide +kernel
theorem d_Ma_abs_2 : decode prog_11_method_61_code 2 = .ok (.lcmp, 1) := by decide +kernel
theorem d_Ma_abs_3 : decode prog_11_method_61_code 3 = .ok (.ifCond .ge 8, 3) := by decide +kernel
theorem d_Ma_abs_6 : decode prog_11_method_61_code 6 = .ok (.lload_n 0, 1) := by decide +kernel
theorem d_Ma_abs_7 : decode prog_11_method_61_code 7 = .ok (.lneg, 1) := by decide +kernel
theorem d_Ma_abs_8 : decode prog_11_method_61_code 8 = .ok (.goto 4, 3) := by decide +kernel
theorem d_Ma_abs_11 : decode prog_11_method_61_code 11 = .ok (.lload_n 0, 1) := by decide +kernel
theorem d_Ma_abs_12 : decode prog_11_method_61_code 12 = .ok (.lreturn, 1) := by decide +kernel
theorem d_Ma_floorDiv_0 : decode prog_11_method_49_code 0 = .ok (.lload_n 0, 1) := by decide +kernel
theorem d_Ma_floorDiv_1 : decode prog_11_method_49_code 1 = .ok (.lload_n 2, 1) := by decide +kernel
theorem d_Ma_floorDiv_2 : decode prog_11_method_49_code 2 = .ok (.ldiv, 1) := by decide +kernel
theorem d_Ma_floorDiv_3 : decode prog_11_method_49_code 3 = .ok (.lstore 4, 2) := by decide +kernel
theorem d_Ma_floorDiv_5 : decode prog_11_method_49_code 5 = .ok (.lload_n 0, 1) := by decide +kernel
theorem d_Ma_floorDiv_6 : decode prog_11_method_49_code 6 = .ok (.lload_n 2, 1) := by decide +kernel
theorem d_Ma_floorDiv_7 : decode prog_11_method_49_code 7 = .ok (.lxor, 1) := by decide +kernel
theorem d_Ma_floorDiv_8 : decode prog_11_method_49_code 8 = .ok (.lconst 0, 1) := by decide +kernel
theorem d_Ma_floorDiv_9 : decode prog_11_method_49_code 9 = .ok (.lcmp, 1) := by decide +kernel
theorem d_Ma_floorDiv_10 : decode prog_11_method_49_code 10 = .ok (.ifCond .ge 17, 3) := by decide +kernel
theorem d_Ma_floorDiv_13 : decode prog_11_method_49_code 13 = .ok (.lload 4, 2) := by decide +kernel
theorem d_Ma_floorDiv_15 : decode prog_11_method_49_code 15 = .ok (.lload_n 2, 1) := by decide +kernel
theorem d_Ma_floorDiv_16 : decode prog_11_method_49_code 16 = .ok (.lmul, 1) := by decide +kernel
theorem d_Ma_floorDiv_17 : decode prog_11_method_49_code 17 = .ok (.lload_n 0, 1) := by decide +kernel
theorem d_Ma_floorDiv_18 : decode prog_11_method_49_code 18 = .ok (.lcmp, 1) := by decide +kernel
theorem d_Ma_floorDiv_19 : decode prog_11_method_49_code 19 = .ok (.ifCond .eq 8, 3) := by decide +kernel
theorem d_Ma_floorDiv_22 : decode prog_11_method_49_code 22 = .ok (.lload 4, 2) := by decide +kernel
theorem d_Ma_floorDiv_24 : decode prog_11_method_49_code 24 = .ok (.lconst 1, 1) := by decide +kernel
theorem d_Ma_floorDiv_25 : decode prog_11_method_49_code 25 = .ok (.lsub, 1) := by decide +kernel
theorem d_Ma_floorDiv_26 : decode prog_11_method_49_code 26 = .ok (.lreturn, 1) := by decide +kernel
theorem d_Ma_floorDiv_27 : decode prog_11_method_49_code 27 = .ok (.lload 4, 2) := by decide +kernel
theorem d_Ma_floorDiv_29 : decode prog_11_method_49_code 29 = .ok (.lreturn, 1) := by decide +kernel
theorem d_Ma_max_0 : decode prog_11_method_66_code 0 = .ok (.lload_n 0, 1) := by decide +kernel
theorem d_Ma_max_1 : decode prog_11_method_66_code 1 = .ok (.lload_n 2, 1) := by decide +kernel
theorem d_Ma_max_2 : decode prog_11_method_66_code 2 = .ok (.lcmp, 1) := by decide +kernel
theorem d_Ma_max_3 : decode prog_11_method_66_code 3 = .ok (.ifCond .lt 7, 3) := by decide +kernel
theorem d_Ma_max_6 : decode prog_11_method_66_code 6 = .ok (.lload_n 0, 1) := by decide +kernel
theorem d_Ma_max_7 : decode prog_11_method_66_code 7 = .ok (.goto 4, 3) := by decide +kernel
theorem d_Ma_max_10 : decode prog_11_method_66_code 10 = .ok (.lload_n 2, 1) := by decide +kernel
theorem d_Ma_max_11 : decode prog_11_method_66_code 11 = .ok (.lreturn, 1) := by decide +kernel
theorem d_Ma_min_0 : decode prog_11_method_70_code 0 = .ok (.lload_n 0, 1) := by decide +kernel
theorem d_Ma_min_1 : decode prog_11_method_70_code 1 = .ok (.lload_n 2, 1) := by decide +kernel
theorem d_Ma_min_2 : decode prog_11_method_70_code 2 = .ok (.lcmp, 1) := by decide +kernel
theorem d_Ma_min_3 : decode prog_11_method_70_code 3 = .ok (.ifCond .gt 7, 3) := by decide +kernel
theorem d_Ma_min_6 : decode prog_11_method_70_code 6 = .ok (.lload_n 0, 1) := by decide +kernel
theorem d_Ma_min_7 : decode prog_11_method_70_code 7 = .ok (.goto 4, 3) := by decide +kernel
theorem d_Ma_min_10 : decode prog_11_method_70_code 10 = .ok (.lload_n 2, 1) := by decide +kernel
theorem d_Ma_min_11 : decode prog_11_method_70_code 11 = .ok (.lreturn, 1) := by decide +kernel
theorem d_In_bitCount_0 : decode prog_10_method_49_code 0 = .ok (.iload_n 0, 1) := by decide +kernel
theorem d_In_bitCount_1 : decode prog_10_method_49_code 1 = .ok (.iload_n 0, 1) := by decide +kernel
theorem d_In_bitCount_2 : decode prog_10_method_49_code 2 = .ok (.iconst 1, 1) := by decide +kernel
theorem d_In_bitCount_3 : decode prog_10_method_49_code 3 = .ok (.iushr, 1) := by decide +kernel
theorem d_In_bitCount_4 : decode prog_10_method_49_code 4 = .ok (.ldc_w 265, 3) := by decide +kernel
theorem d_In_bitCount_7 : decode prog_10_method_49_code 7 = .ok (.iand, 1) := by decide +kernel
theorem d_In_bitCount_8 : decode prog_10_method_49_code 8 = .ok (.isub, 1) := by decide +kernel
theorem d_In_bitCount_9 : decode prog_10_method_49_code 9 = .ok (.istore_n 0, 1) := by decide +kernel
theorem d_In_bitCount_10 : decode prog_10_method_49_code 10 = .ok (.iload_n 0, 1) := by decide +kernel
theorem d_In_bitCount_11 : decode prog_10_method_49_code 11 = .ok (.ldc_w 266, 3) := by decide +kernel
theorem d_In_bitCount_14 : decode prog_10_method_49_code 14 = .ok (.iand, 1) := by decide +kernel
theorem d_In_bitCount_15 : decode prog_10_method_49_code 15 = .ok (.iload_n 0, 1) := by decide +kernel
theorem d_In_bitCount_16 : decode prog_10_method_49_code 16 = .ok (.iconst 2, 1) := by decide +kernel
theorem d_In_bitCount_17 : decode prog_10_method_49_code 17 = .ok (.iushr, 1) := by decide +kernel
theorem d_In_bitCount_18 : decode prog_10_method_49_code 18 = .ok (.ldc_w 266, 3) := by decide +kernel
theorem d_In_bitCount_21 : decode prog_10_method_49_code 21 = .ok (.iand, 1) := by decide +kernel
theorem d_In_bitCount_22 : decode prog_10_method_49_code 22 = .ok (.iadd, 1) := by decide +kernel
theorem d_In_bitCount_23 : decode prog_10_method_49_code 23 = .ok (.istore_n 0, 1) := by decide +kernel
theorem d_In_bitCount_24 : decode prog_10_method_49_code 24 = .ok (.iload_n 0, 1) := by decide +kernel
theorem d_In_bitCount_25 : decode prog_10_method_49_code 25 = .ok (.iload_n 0, 1) := by decide +kernel
theorem d_In_bitCount_26 : decode prog_10_method_49_code 26 = .ok (.iconst 4, 1) := by decide +kernel
theorem d_In_bitCount_27 : decode prog_10_method_49_code 27 = .ok (.iushr, 1) := by decide +kernel
theorem d_In_bitCount_28 : decode prog_10_method_49_code 28 = .ok (.iadd, 1) := by decide +kernel
theorem d_In_bitCount_29 : decode prog_10_method_49_code 29 = .ok (.ldc_w 267, 3) := by decide +kernel
theorem d_In_bitCount_32 : decode prog_10_method_49_code 32 = .ok (.iand, 1) := by decide +kernel
theorem d_In_bitCount_33 : decode prog_10_method_49_code 33 = .ok (.istore_n 0, 1) := by decide +kernel
theorem d_In_bitCount_34 : decode prog_10_method_49_code 34 = .ok (.iload_n 0, 1) := by decide +kernel
theorem d_In_bitCount_35 : decode prog_10_method_49_code 35 = .ok (.iload_n 0, 1) := by decide +kernel
theorem d_In_bitCount_36 : decode prog_10_method_49_code 36 = .ok (.bipush 8, 2) := by decide +kernel
theorem d_In_bitCount_38 : decode prog_10_method_49_code 38 = .ok (.iushr, 1) := by decide +kernel
theorem d_In_bitCount_39 : decode prog_10_method_49_code 39 = .ok (.iadd, 1) := by decide +kernel
theorem d_In_bitCount_40 : decode prog_10_method_49_code 40 = .ok (.istore_n 0, 1) := by decide +kernel
theorem d_In_bitCount_41 : decode prog_10_method_49_code 41 = .ok (.iload_n 0, 1) := by decide +kernel
theorem d_In_bitCount_42 : decode prog_10_method_49_code 42 = .ok (.iload_n 0, 1) := by decide +kernel
theorem d_In_bitCount_43 : decode prog_10_method_49_code 43 = .ok (.bipush 16, 2) := by decide +kernel
theorem d_In_bitCount_45 : decode prog_10_method_49_code 45 = .ok (.iushr, 1) := by decide +kernel
theorem d_In_bitCount_46 : decode prog_10_method_49_code 46 = .ok (.iadd, 1) := by decide +kernel
theorem d_In_bitCount_47 : decode prog_10_method_49_code 47 = .ok (.istore_n 0, 1) := by decide +kernel
theorem d_In_bitCount_48 : decode prog_10_method_49_code 48 = .ok (.iload_n 0, 1) := by decide +kernel
theorem d_In_bitCount_49 : decode prog_10_method_49_code 49 = .ok (.bipush 63, 2) := by decide +kernel
theorem d_In_bitCount_51 : decode prog_10_method_49_code 51 = .ok (.iand, 1) := by decide +kernel
theorem d_In_bitCount_52 : decode prog_10_method_49_code 52 = .ok (.ireturn, 1) := by decide +kernel
theorem d_RP_init_0 : decode prog_1_method_1_code 0 = .ok (.aload_n 0, 1) := by decide +kernel
theorem d_RP_init_1 : decode prog_1_method_1_code 1 = .ok (.invokespecial 3, 3) := by decide +kernel
theorem d_RP_init_4 : decode prog_1_method_1_code 4 = .ok (.aload_n 0, 1) := by decide +kernel
theorem d_RP_init_5 : decode prog_1_method_1_code 5 = .ok (.new 9, 3) := by decide +kernel
theorem d_RP_init_8 : decode prog_1_method_1_code 8 = .ok (.dup, 1) := by decide +kernel
theorem d_RP_init_9 : decode prog_1_method_1_code 9 = .ok (.invokespecial 11, 3) := by decide +kernel
theorem d_RP_init_12 : decode prog_1_method_1_code 12 = .ok (.putfield 12, 3) := by decide +kernel
theorem d_RP_init_15 : decode prog_1_method_1_code 15 = .ok (.aload_n 0, 1) := by decide +kernel
theorem d_RP_init_16 : decode prog_1_method_1_code 16 = .ok (.new 16, 3) := by decide +kernel
theorem d_RP_init_19 : decode prog_1_method_1_code 19 = .ok (.dup, 1) := by decide +kernel
theorem d_RP_init_20 : decode prog_1_method_1_code 20 = .ok (.invokespecial 18, 3) := by decide +kernel
theorem d_RP_init_23 : decode prog_1_method_1_code 23 = .ok (.putfield 19, 3) := by decide +kernel
theorem d_RP_init_26 : decode prog_1_method_1_code 26 = .ok (.aload_n 0, 1) := by decide +kernel
theorem d_RP_init_27 : decode prog_1_method_1_code 27 = .ok (.new 23, 3) := by decide +kernel
theorem d_RP_init_30 : decode prog_1_method_1_code 30 = .ok (.dup, 1) := by decide +kernel
theorem d_RP_init_31 : decode prog_1_method_1_code 31 = .ok (.invokespecial 25, 3) := by decide +kernel
theorem d_RP_init_34 : decode prog_1_method_1_code 34 = .ok (.putfield 26, 3) := by decide +kernel
theorem d_RP_init_37 : decode prog_1_method_1_code 37 = .ok (.aload_n 0, 1) := by decide +kernel
theorem d_RP_init_38 : decode prog_1_method_1_code 38 = .ok (.new 30, 3) := by decide +kernel
theorem d_RP_init_41 : decode prog_1_method_1_code 41 = .ok (.dup, 1) := by decide +kernel
theorem d_RP_init_42 : decode prog_1_method_1_code 42 = .ok (.aload_n 0, 1) := by decide +kernel
theorem d_RP_init_43 : decode prog_1_method_1_code 43 = .ok (.getfield 12, 3) := by decide +kernel
theorem d_RP_init_46 : decode prog_1_method_1_code 46 = .ok (.aload_n 0, 1) := by decide +kernel
theorem d_RP_init_47 : decode prog_1_method_1_code 47 = .ok (.getfield 19, 3) := by decide +kernel
theorem d_RP_init_50 : decode prog_1_method_1_code 50 = .ok (.aload_n 0, 1) := by decide +kernel
theorem d_RP_init_51 : decode prog_1_method_1_code 51 = .ok (.getfield 26, 3) := by decide +kernel
theorem d_RP_init_54 : decode prog_1_method_1_code 54 = .ok (.invokespecial 32, 3) := by decide +kernel
theorem d_RP_init_57 : decode prog_1_method_1_code 57 = .ok (.putfield 35, 3) := by decide +kernel
theorem d_RP_init_60 : decode prog_1_method_1_code 60 = .ok (.aload_n 0, 1) := by decide +kernel
theorem d_RP_init_61 : decode prog_1_method_1_code 61 = .ok (.new 39, 3) := by decide +kernel
theorem d_RP_init_64 : decode prog_1_method_1_code 64 = .ok (.dup, 1) := by decide +kernel
theorem d_RP_init_65 : decode prog_1_method_1_code 65 = .ok (.aload_n 0, 1) := by decide +kernel
theorem d_RP_init_66 : decode prog_1_method_1_code 66 = .ok (.getfield 12, 3) := by decide +kernel
theorem d_RP_init_69 : decode prog_1_method_1_code 69 = .ok (.aload_n 0, 1) := by decide +kernel
theorem d_RP_init_70 : decode prog_1_method_1_code 70 = .ok (.getfield 26, 3) := by decide +kernel
theorem d_RP_init_73 : decode prog_1_method_1_code 73 = .ok (.invokespecial 41, 3) := by decide +kernel
theorem d_RP_init_76 : decode prog_1_method_1_code 76 = .ok (.putfield 44, 3) := by decide +kernel
theorem d_RP_init_79 : decode prog_1_method_1_code 79 = .ok (.aload_n 0, 1) := by decide +kernel
theorem d_RP_init_80 : decode prog_1_method_1_code 80 = .ok (.new 48, 3) := by decide +kernel
theorem d_RP_init_83 : decode prog_1_method_1_code 83 = .ok (.dup, 1) := by decide +kernel
theorem d_RP_init_84 : decode prog_1_method_1_code 84 = .ok (.invokespecial 50, 3) := by decide +kernel
theorem d_RP_init_87 : decode prog_1_method_1_code 87 = .ok (.putfield 51, 3) := by decide +kernel
theorem d_RP_init_90 : decode prog_1_method_1_code 90 = .ok (.aload_n 0, 1) := by decide +kernel
theorem d_RP_init_91 : decode prog_1_method_1_code 91 = .ok (.iconst 5, 1) := by decide +kernel
theorem d_RP_init_92 : decode prog_1_method_1_code 92 = .ok (.newarray .long, 2) := by decide +kernel
theorem d_RP_init_94 : decode prog_1_method_1_code 94 = .ok (.putfield 55, 3) := by decide +kernel
theorem d_RP_init_97 : decode prog_1_method_1_code 97 = .ok (.aload_n 0, 1) := by decide +kernel
theorem d_RP_init_98 : decode prog_1_method_1_code 98 = .ok (.bipush 7, 2) := by decide +kernel
theorem d_RP_init_100 : decode prog_1_method_1_code 100 = .ok (.newarray .long, 2) := by decide +kernel
theorem d_RP_init_102 : decode prog_1_method_1_code 102 = .ok (.putfield 59, 3) := by decide +kernel
theorem d_RP_init_105 : decode prog_1_method_1_code 105 = .ok (.return_, 1) := by decide +kernel
theorem d_RP_lot_0 : decode prog_1_method_2_code 0 = .ok (.aload_n 0, 1) := by decide +kernel
theorem d_RP_lot_1 : decode prog_1_method_2_code 1 = .ok (.getfield 12, 3) := by decide +kernel
theorem d_RP_lot_4 : decode prog_1_method_2_code 4 = .ok (.getfield 62, 3) := by decide +kernel
theorem d_RP_lot_7 : decode prog_1_method_2_code 7 = .ok (.iconst 4, 1) := by decide +kernel
theorem d_RP_lot_8 : decode prog_1_method_2_code 8 = .ok (.if_icmp .ge 28, 3) := by decide +kernel
theorem d_RP_lot_11 : decode prog_1_method_2_code 11 = .ok (.iload_n 1, 1) := by decide +kernel
theorem d_RP_lot_12 : decode prog_1_method_2_code 12 = .ok (.i2l, 1) := by decide +kernel
theorem d_RP_lot_13 : decode prog_1_method_2_code 13 = .ok (.lconst 0, 1) := by decide +kernel
theorem d_RP_lot_14 : decode prog_1_method_2_code 14 = .ok (.ldc2_w 66, 3) := by decide +kernel
theorem d_RP_lot_17 : decode prog_1_method_2_code 17 = .ok (.invokestatic 68, 3) := by decide +kernel
theorem d_RP_lot_20 : decode prog_1_method_2_code 20 = .ok (.ifCond .eq 16, 3) := by decide +kernel
theorem d_RP_lot_23 : decode prog_1_method_2_code 23 = .ok (.lload_n 2, 1) := by decide +kernel
theorem d_RP_lot_24 : decode prog_1_method_2_code 24 = .ok (.ldc2_w 72, 3) := by decide +kernel
theorem d_RP_lot_27 : decode prog_1_method_2_code 27 = .ok (.ldc2_w 74, 3) := by decide +kernel
theorem d_RP_lot_30 : decode prog_1_method_2_code 30 = .ok (.invokestatic 68, 3) := by decide +kernel
theorem d_RP_lot_33 : decode prog_1_method_2_code 33 = .ok (.ifCond .ne 5, 3) := by decide +kernel
theorem d_RP_lot_36 : decode prog_1_method_2_code 36 = .ok (.iconst (-1), 1) := by decide +kernel
theorem d_RP_lot_37 : decode prog_1_method_2_code 37 = .ok (.ireturn, 1) := by decide +kernel
theorem d_RP_lot_38 : decode prog_1_method_2_code 38 = .ok (.aload_n 0, 1) := by decide +kernel
theorem d_RP_lot_39 : decode prog_1_method_2_code 39 = .ok (.getfield 12, 3) := by decide +kernel
theorem d_RP_lot_42 : decode prog_1_method_2_code 42 = .ok (.getfield 62, 3) := by decide +kernel
theorem d_RP_lot_45 : decode prog_1_method_2_code 45 = .ok (.istore 4, 2) := by decide +kernel
theorem d_RP_lot_47 : decode prog_1_method_2_code 47 = .ok (.aload_n 0, 1) := by decide +kernel
theorem d_RP_lot_48 : decode prog_1_method_2_code 48 = .ok (.getfield 12, 3) := by decide +kernel
theorem d_RP_lot_51 : decode prog_1_method_2_code 51 = .ok (.getfield 76, 3) := by decide +kernel
theorem d_RP_lot_54 : decode prog_1_method_2_code 54 = .ok (.iload 4, 2) := by decide +kernel
theorem d_RP_lot_56 : decode prog_1_method_2_code 56 = .ok (.iload_n 1, 1) := by decide +kernel
theorem d_RP_lot_57 : decode prog_1_method_2_code 57 = .ok (.iastore, 1) := by decide +kernel
theorem d_RP_lot_58 : decode prog_1_method_2_code 58 = .ok (.aload_n 0, 1) := by decide +kernel
theorem d_RP_lot_59 : decode prog_1_method_2_code 59 = .ok (.getfield 12, 3) := by decide +kernel
theorem d_RP_lot_62 : decode prog_1_method_2_code 62 = .ok (.getfield 80, 3) := by decide +kernel
theorem d_RP_lot_65 : decode prog_1_method_2_code 65 = .ok (.iload 4, 2) := by decide +kernel
theorem d_RP_lot_67 : decode prog_1_method_2_code 67 = .ok (.lload_n 2, 1) := by decide +kernel
theorem d_RP_lot_68 : decode prog_1_method_2_code 68 = .ok (.lastore, 1) := by decide +kernel
theorem d_RP_lot_69 : decode prog_1_method_2_code 69 = .ok (.aload_n 0, 1) := by decide +kernel
theorem d_RP_lot_70 : decode prog_1_method_2_code 70 = .ok (.getfield 12, 3) := by decide +kernel
theorem d_RP_lot_73 : decode prog_1_method_2_code 73 = .ok (.dup, 1) := by decide +kernel
theorem d_RP_lot_74 : decode prog_1_method_2_code 74 = .ok (.getfield 62, 3) := by decide +kernel
theorem d_RP_lot_77 : decode prog_1_method_2_code 77 = .ok (.iconst 1, 1) := by decide +kernel
theorem d_RP_lot_78 : decode prog_1_method_2_code 78 = .ok (.iadd, 1) := by decide +kernel
theorem d_RP_lot_79 : decode prog_1_method_2_code 79 = .ok (.putfield 62, 3) := by decide +kernel
theorem d_RP_lot_82 : decode prog_1_method_2_code 82 = .ok (.iload 4, 2) := by decide +kernel
theorem d_RP_lot_84 : decode prog_1_method_2_code 84 = .ok (.ireturn, 1) := by decide +kernel
theorem d_RP_amount_0 : decode prog_1_method_3_code 0 = .ok (.iload_n 1, 1) := by decide +kernel
theorem d_RP_amount_1 : decode prog_1_method_3_code 1 = .ok (.i2l, 1) := by decide +kernel
theorem d_RP_amount_2 : decode prog_1_method_3_code 2 = .ok (.lconst 0, 1) := by decide +kernel
theorem d_RP_amount_3 : decode prog_1_method_3_code 3 = .ok (.aload_n 0, 1) := by decide +kernel
theorem d_RP_amount_4 : decode prog_1_method_3_code 4 = .ok (.getfield 12, 3) := by decide +kernel
theorem d_RP_amount_7 : decode prog_1_method_3_code 7 = .ok (.getfield 62, 3) := by decide +kernel
theorem d_RP_amount_10 : decode prog_1_method_3_code 10 = .ok (.iconst 1, 1) := by decide +kernel
theorem d_RP_amount_11 : decode prog_1_method_3_code 11 = .ok (.isub, 1) := by decide +kernel
theorem d_RP_amount_12 : decode prog_1_method_3_code 12 = .ok (.i2l, 1) := by decide +kernel
theorem d_RP_amount_13 : decode prog_1_method_3_code 13 = .ok (.invokestatic 68, 3) := by decide +kernel
theorem d_RP_amount_16 : decode prog_1_method_3_code 16 = .ok (.ifCond .eq 24, 3) := by decide +kernel
theorem d_RP_amount_19 : decode prog_1_method_3_code 19 = .ok (.iload_n 2, 1) := by decide +kernel
theorem d_RP_amount_20 : decode prog_1_method_3_code 20 = .ok (.invokestatic 83, 3) := by decide +kernel
theorem d_RP_amount_23 : decode prog_1_method_3_code 23 = .ok (.ifCond .eq 17, 3) := by decide +kernel
theorem d_RP_amount_26 : decode prog_1_method_3_code 26 = .ok (.iload_n 3, 1) := by decide +kernel
theorem d_RP_amount_27 : decode prog_1_method_3_code 27 = .ok (.i2l, 1) := by decide +kernel
theorem d_RP_amount_28 : decode prog_1_method_3_code 28 = .ok (.ldc2_w 87, 3) := by decide +kernel
theorem d_RP_amount_31 : decode prog_1_method_3_code 31 = .ok (.ldc2_w 89, 3) := by decide +kernel
theorem d_RP_amount_34 : decode prog_1_method_3_code 34 = .ok (.invokestatic 68, 3) := by decide +kernel
theorem d_RP_amount_37 : decode prog_1_method_3_code 37 = .ok (.ifCond .ne 5, 3) := by decide +kernel
theorem d_RP_amount_40 : decode prog_1_method_3_code 40 = .ok (.iconst 0, 1) := by decide +kernel
theorem d_RP_amount_41 : decode prog_1_method_3_code 41 = .ok (.ireturn, 1) := by decide +kernel
theorem d_RP_amount_42 : decode prog_1_method_3_code 42 = .ok (.aload_n 0, 1) := by decide +kernel
theorem d_RP_amount_43 : decode prog_1_method_3_code 43 = .ok (.getfield 12, 3) := by decide +kernel
theorem d_RP_amount_46 : decode prog_1_method_3_code 46 = .ok (.getfield 91, 3) := by decide +kernel
theorem d_RP_amount_49 : decode prog_1_method_3_code 49 = .ok (.iload_n 2, 1) := by decide +kernel
theorem d_RP_amount_50 : decode prog_1_method_3_code 50 = .ok (.aaload, 1) := by decide +kernel
theorem d_RP_amount_51 : decode prog_1_method_3_code 51 = .ok (.iload_n 1, 1) := by decide +kernel
theorem d_RP_amount_52 : decode prog_1_method_3_code 52 = .ok (.iload_n 3, 1) := by decide +kernel
theorem d_RP_amount_53 : decode prog_1_method_3_code 53 = .ok (.i2l, 1) := by decide +kernel
theorem d_RP_amount_54 : decode prog_1_method_3_code 54 = .ok (.lastore, 1) := by decide +kernel
theorem d_RP_amount_55 : decode prog_1_method_3_code 55 = .ok (.iconst 1, 1) := by decide +kernel
theorem d_RP_amount_56 : decode prog_1_method_3_code 56 = .ok (.ireturn, 1) := by decide +kernel
theorem d_RP_span_0 : decode prog_1_method_4_code 0 = .ok (.iload_n 1, 1) := by decide +kernel
theorem d_RP_span_1 : decode prog_1_method_4_code 1 = .ok (.invokestatic 83, 3) := by decide +kernel
theorem d_RP_span_4 : decode prog_1_method_4_code 4 = .ok (.ifCond .eq 15, 3) := by decide +kernel
theorem d_RP_span_7 : decode prog_1_method_4_code 7 = .ok (.iload_n 2, 1) := by decide +kernel
theorem d_RP_span_8 : decode prog_1_method_4_code 8 = .ok (.iload_n 3, 1) := by decide +kernel
theorem d_RP_span_9 : decode prog_1_method_4_code 9 = .ok (.ldc 95, 2) := by decide +kernel
theorem d_RP_span_11 : decode prog_1_method_4_code 11 = .ok (.ldc 96, 2) := by decide +kernel
theorem d_RP_span_13 : decode prog_1_method_4_code 13 = .ok (.invokestatic 97, 3) := by decide +kernel
theorem d_RP_span_16 : decode prog_1_method_4_code 16 = .ok (.ifCond .ne 5, 3) := by decide +kernel
theorem d_RP_span_19 : decode prog_1_method_4_code 19 = .ok (.iconst 0, 1) := by decide +kernel
theorem d_RP_span_20 : decode prog_1_method_4_code 20 = .ok (.ireturn, 1) := by decide +kernel
theorem d_RP_span_21 : decode prog_1_method_4_code 21 = .ok (.aload_n 0, 1) := by decide +kernel
theorem d_RP_span_22 : decode prog_1_method_4_code 22 = .ok (.getfield 19, 3) := by decide +kernel
theorem d_RP_span_25 : decode prog_1_method_4_code 25 = .ok (.iload_n 1, 1) := by decide +kernel
theorem d_RP_span_26 : decode prog_1_method_4_code 26 = .ok (.iload_n 1, 1) := by decide +kernel
theorem d_RP_span_27 : decode prog_1_method_4_code 27 = .ok (.bipush 6, 2) := by decide +kernel
theorem d_RP_span_29 : decode prog_1_method_4_code 29 = .ok (.iload_n 2, 1) := by decide +kernel
theorem d_RP_span_30 : decode prog_1_method_4_code 30 = .ok (.iload_n 3, 1) := by decide +kernel
theorem d_RP_span_31 : decode prog_1_method_4_code 31 = .ok (.iconst 1, 1) := by decide +kernel
theorem d_RP_span_32 : decode prog_1_method_4_code 32 = .ok (.invokevirtual 101, 3) := by decide +kernel
theorem d_RP_span_35 : decode prog_1_method_4_code 35 = .ok (.iconst 1, 1) := by decide +kernel
theorem d_RP_span_36 : decode prog_1_method_4_code 36 = .ok (.ireturn, 1) := by decide +kernel
theorem d_RP_ratio_0 : decode prog_1_method_5_code 0 = .ok (.iload_n 1, 1) := by decide +kernel
theorem d_RP_ratio_1 : decode prog_1_method_5_code 1 = .ok (.i2l, 1) := by decide +kernel
theorem d_RP_ratio_2 : decode prog_1_method_5_code 2 = .ok (.lconst 0, 1) := by decide +kernel
theorem d_RP_ratio_3 : decode prog_1_method_5_code 3 = .ok (.lconst 1, 1) := by decide +kernel
theorem d_RP_ratio_4 : decode prog_1_method_5_code 4 = .ok (.invokestatic 68, 3) := by decide +kernel
theorem d_RP_ratio_7 : decode prog_1_method_5_code 7 = .ok (.ifCond .eq 17, 3) := by decide +kernel
theorem d_RP_ratio_10 : decode prog_1_method_5_code 10 = .ok (.iload_n 2, 1) := by decide +kernel
theorem d_RP_ratio_11 : decode prog_1_method_5_code 11 = .ok (.invokestatic 83, 3) := by decide +kernel
theorem d_RP_ratio_14 : decode prog_1_method_5_code 14 = .ok (.ifCond .eq 10, 3) := by decide +kernel
theorem d_RP_ratio_17 : decode prog_1_method_5_code 17 = .ok (.iload_n 3, 1) := by decide +kernel
theorem d_RP_ratio_18 : decode prog_1_method_5_code 18 = .ok (.invokestatic 83, 3) := by decide +kernel
theorem d_RP_ratio_21 : decode prog_1_method_5_code 21 = .ok (.ifCond .ne 5, 3) := by decide +kernel
theorem d_RP_ratio_24 : decode prog_1_method_5_code 24 = .ok (.iconst 0, 1) := by decide +kernel
theorem d_RP_ratio_25 : decode prog_1_method_5_code 25 = .ok (.ireturn, 1) := by decide +kernel
theorem d_RP_ratio_26 : decode prog_1_method_5_code 26 = .ok (.iload 4, 2) := by decide +kernel
theorem d_RP_ratio_28 : decode prog_1_method_5_code 28 = .ok (.iload 5, 2) := by decide +kernel
theorem d_RP_ratio_30 : decode prog_1_method_5_code 30 = .ok (.iconst 0, 1) := by decide +kernel
theorem d_RP_ratio_31 : decode prog_1_method_5_code 31 = .ok (.bipush 100, 2) := by decide +kernel
theorem d_RP_ratio_33 : decode prog_1_method_5_code 33 = .ok (.invokestatic 97, 3) := by decide +kernel
theorem d_RP_ratio_36 : decode prog_1_method_5_code 36 = .ok (.ifCond .eq 16, 3) := by decide +kernel
theorem d_RP_ratio_39 : decode prog_1_method_5_code 39 = .ok (.iload 6, 2) := by decide +kernel
theorem d_RP_ratio_41 : decode prog_1_method_5_code 41 = .ok (.i2l, 1) := by decide +kernel
theorem d_RP_ratio_42 : decode prog_1_method_5_code 42 = .ok (.lconst 1, 1) := by decide +kernel
theorem d_RP_ratio_43 : decode prog_1_method_5_code 43 = .ok (.ldc2_w 89, 3) := by decide +kernel
theorem d_RP_ratio_46 : decode prog_1_method_5_code 46 = .ok (.invokestatic 68, 3) := by decide +kernel
theorem d_RP_ratio_49 : decode prog_1_method_5_code 49 = .ok (.ifCond .ne 5, 3) := by decide +kernel
theorem d_RP_ratio_52 : decode prog_1_method_5_code 52 = .ok (.iconst 0, 1) := by decide +kernel
theorem d_RP_ratio_53 : decode prog_1_method_5_code 53 = .ok (.ireturn, 1) := by decide +kernel
theorem d_RP_ratio_54 : decode prog_1_method_5_code 54 = .ok (.aload_n 0, 1) := by decide +kernel
theorem d_RP_ratio_55 : decode prog_1_method_5_code 55 = .ok (.getfield 19, 3) := by decide +kernel
theorem d_RP_ratio_58 : decode prog_1_method_5_code 58 = .ok (.iconst 5, 1) := by decide +kernel
theorem d_RP_ratio_59 : decode prog_1_method_5_code 59 = .ok (.iload_n 1, 1) := by decide +kernel
theorem d_RP_ratio_60 : decode prog_1_method_5_code 60 = .ok (.iadd, 1) := by decide +kernel
theorem d_RP_ratio_61 : decode prog_1_method_5_code 61 = .ok (.iload_n 2, 1) := by decide +kernel
theorem d_RP_ratio_62 : decode prog_1_method_5_code 62 = .ok (.iload_n 3, 1) := by decide +kernel
theorem d_RP_ratio_63 : decode prog_1_method_5_code 63 = .ok (.iload 4, 2) := by decide +kernel
theorem d_RP_ratio_65 : decode prog_1_method_5_code 65 = .ok (.iload 5, 2) := by decide +kernel
theorem d_RP_ratio_67 : decode prog_1_method_5_code 67 = .ok (.iload 6, 2) := by decide +kernel
theorem d_RP_ratio_69 : decode prog_1_method_5_code 69 = .ok (.invokevirtual 101, 3) := by decide +kernel
theorem d_RP_ratio_72 : decode prog_1_method_5_code 72 = .ok (.iconst 1, 1) := by decide +kernel
theorem d_RP_ratio_73 : decode prog_1_method_5_code 73 = .ok (.ireturn, 1) := by decide +kernel
theorem d_RP_loads_0 : decode prog_1_method_6_code 0 = .ok (.iload_n 1, 1) := by decide +kernel
theorem d_RP_loads_1 : decode prog_1_method_6_code 1 = .ok (.iload_n 2, 1) := by decide +kernel
theorem d_RP_loads_2 : decode prog_1_method_6_code 2 = .ok (.iconst 0, 1) := by decide +kernel
theorem d_RP_loads_3 : decode prog_1_method_6_code 3 = .ok (.bipush 36, 2) := by decide +kernel
theorem d_RP_loads_5 : decode prog_1_method_6_code 5 = .ok (.invokestatic 97, 3) := by decide +kernel
theorem d_RP_loads_8 : decode prog_1_method_6_code 8 = .ok (.ifCond .ne 5, 3) := by decide +kernel
theorem d_RP_loads_11 : decode prog_1_method_6_code 11 = .ok (.iconst 0, 1) := by decide +kernel
theorem d_RP_loads_12 : decode prog_1_method_6_code 12 = .ok (.ireturn, 1) := by decide +kernel
theorem d_RP_loads_13 : decode prog_1_method_6_code 13 = .ok (.aload_n 0, 1) := by decide +kernel
theorem d_RP_loads_14 : decode prog_1_method_6_code 14 = .ok (.getfield 19, 3) := by decide +kernel
theorem d_RP_loads_17 : decode prog_1_method_6_code 17 = .ok (.bipush 7, 2) := by decide +kernel
theorem d_RP_loads_19 : decode prog_1_method_6_code 19 = .ok (.iconst 5, 1) := by decide +kernel
theorem d_RP_loads_20 : decode prog_1_method_6_code 20 = .ok (.bipush 6, 2) := by decide +kernel
theorem d_RP_loads_22 : decode prog_1_method_6_code 22 = .ok (.iload_n 1, 1) := by decide +kernel
theorem d_RP_loads_23 : decode prog_1_method_6_code 23 = .ok (.iload_n 2, 1) := by decide +kernel
theorem d_RP_loads_24 : decode prog_1_method_6_code 24 = .ok (.iconst 1, 1) := by decide +kernel
theorem d_RP_loads_25 : decode prog_1_method_6_code 25 = .ok (.invokevirtual 101, 3) := by decide +kernel
theorem d_RP_loads_28 : decode prog_1_method_6_code 28 = .ok (.iconst 1, 1) := by decide +kernel
theorem d_RP_loads_29 : decode prog_1_method_6_code 29 = .ok (.ireturn, 1) := by decide +kernel
theorem d_RP_untell_0 : decode prog_1_method_7_code 0 = .ok (.iload_n 1, 1) := by decide +kernel
theorem d_RP_untell_1 : decode prog_1_method_7_code 1 = .ok (.i2l, 1) := by decide +kernel
theorem d_RP_untell_2 : decode prog_1_method_7_code 2 = .ok (.lconst 0, 1) := by decide +kernel
theorem d_RP_untell_3 : decode prog_1_method_7_code 3 = .ok (.ldc2_w 105, 3) := by decide +kernel
theorem d_RP_untell_6 : decode prog_1_method_7_code 6 = .ok (.invokestatic 68, 3) := by decide +kernel
theorem d_RP_untell_9 : decode prog_1_method_7_code 9 = .ok (.ifCond .eq 14, 3) := by decide +kernel
theorem d_RP_untell_12 : decode prog_1_method_7_code 12 = .ok (.aload_n 0, 1) := by decide +kernel
theorem d_RP_untell_13 : decode prog_1_method_7_code 13 = .ok (.getfield 19, 3) := by decide +kernel
theorem d_RP_untell_16 : decode prog_1_method_7_code 16 = .ok (.iload_n 1, 1) := by decide +kernel
theorem d_RP_untell_17 : decode prog_1_method_7_code 17 = .ok (.invokevirtual 107, 3) := by decide +kernel
theorem d_RP_untell_20 : decode prog_1_method_7_code 20 = .ok (.ifCond .ne 5, 3) := by decide +kernel
theorem d_RP_untell_23 : decode prog_1_method_7_code 23 = .ok (.iconst 0, 1) := by decide +kernel
theorem d_RP_untell_24 : decode prog_1_method_7_code 24 = .ok (.ireturn, 1) := by decide +kernel
theorem d_RP_untell_25 : decode prog_1_method_7_code 25 = .ok (.aload_n 0, 1) := by decide +kernel
theorem d_RP_untell_26 : decode prog_1_method_7_code 26 = .ok (.getfield 19, 3) := by decide +kernel
theorem d_RP_untell_29 : decode prog_1_method_7_code 29 = .ok (.dup, 1) := by decide +kernel
theorem d_RP_untell_30 : decode prog_1_method_7_code 30 = .ok (.getfield 110, 3) := by decide +kernel
theorem d_RP_untell_33 : decode prog_1_method_7_code 33 = .ok (.iconst 1, 1) := by decide +kernel
theorem d_RP_untell_34 : decode prog_1_method_7_code 34 = .ok (.iload_n 1, 1) := by decide +kernel
theorem d_RP_untell_35 : decode prog_1_method_7_code 35 = .ok (.ishl, 1) := by decide +kernel
theorem d_RP_untell_36 : decode prog_1_method_7_code 36 = .ok (.ixor, 1) := by decide +kernel
theorem d_RP_untell_37 : decode prog_1_method_7_code 37 = .ok (.putfield 110, 3) := by decide +kernel
theorem d_RP_untell_40 : decode prog_1_method_7_code 40 = .ok (.iconst 1, 1) := by decide +kernel
theorem d_RP_untell_41 : decode prog_1_method_7_code 41 = .ok (.ireturn, 1) := by decide +kernel
theorem d_RP_run_0 : decode prog_1_method_8_code 0 = .ok (.aload_n 0, 1) := by decide +kernel
theorem d_RP_run_1 : decode prog_1_method_8_code 1 = .ok (.getfield 26, 3) := by decide +kernel
theorem d_RP_run_4 : decode prog_1_method_8_code 4 = .ok (.aload_n 0, 1) := by decide +kernel
theorem d_RP_run_5 : decode prog_1_method_8_code 5 = .ok (.getfield 12, 3) := by decide +kernel
theorem d_RP_run_8 : decode prog_1_method_8_code 8 = .ok (.aload_n 0, 1) := by decide +kernel
theorem d_RP_run_9 : decode prog_1_method_8_code 9 = .ok (.getfield 19, 3) := by decide +kernel
theorem d_RP_run_12 : decode prog_1_method_8_code 12 = .ok (.invokevirtual 113, 3) := by decide +kernel
theorem d_RP_run_15 : decode prog_1_method_8_code 15 = .ok (.aload_n 0, 1) := by decide +kernel
theorem d_RP_run_16 : decode prog_1_method_8_code 16 = .ok (.getfield 35, 3) := by decide +kernel
theorem d_RP_run_19 : decode prog_1_method_8_code 19 = .ok (.invokevirtual 117, 3) := by decide +kernel
theorem d_RP_run_22 : decode prog_1_method_8_code 22 = .ok (.aload_n 0, 1) := by decide +kernel
theorem d_RP_run_23 : decode prog_1_method_8_code 23 = .ok (.getfield 44, 3) := by decide +kernel
theorem d_RP_run_26 : decode prog_1_method_8_code 26 = .ok (.aload_n 0, 1) := by decide +kernel
theorem d_RP_run_27 : decode prog_1_method_8_code 27 = .ok (.getfield 35, 3) := by decide +kernel
theorem d_RP_run_30 : decode prog_1_method_8_code 30 = .ok (.getfield 120, 3) := by decide +kernel
theorem d_RP_run_33 : decode prog_1_method_8_code 33 = .ok (.invokevirtual 124, 3) := by decide +kernel
theorem d_RP_run_36 : decode prog_1_method_8_code 36 = .ok (.aload_n 0, 1) := by decide +kernel
theorem d_RP_run_37 : decode prog_1_method_8_code 37 = .ok (.getfield 51, 3) := by decide +kernel
theorem d_RP_run_40 : decode prog_1_method_8_code 40 = .ok (.aload_n 0, 1) := by decide +kernel
theorem d_RP_run_41 : decode prog_1_method_8_code 41 = .ok (.getfield 35, 3) := by decide +kernel
theorem d_RP_run_44 : decode prog_1_method_8_code 44 = .ok (.invokevirtual 127, 3) := by decide +kernel
theorem d_RP_run_47 : decode prog_1_method_8_code 47 = .ok (.aload_n 0, 1) := by decide +kernel
theorem d_RP_run_48 : decode prog_1_method_8_code 48 = .ok (.getfield 51, 3) := by decide +kernel
theorem d_RP_run_51 : decode prog_1_method_8_code 51 = .ok (.aload_n 0, 1) := by decide +kernel
theorem d_RP_run_52 : decode prog_1_method_8_code 52 = .ok (.getfield 44, 3) := by decide +kernel
theorem d_RP_run_55 : decode prog_1_method_8_code 55 = .ok (.aload_n 0, 1) := by decide +kernel
theorem d_RP_run_56 : decode prog_1_method_8_code 56 = .ok (.getfield 12, 3) := by decide +kernel
theorem d_RP_run_59 : decode prog_1_method_8_code 59 = .ok (.getfield 62, 3) := by decide +kernel
theorem d_RP_run_62 : decode prog_1_method_8_code 62 = .ok (.invokevirtual 131, 3) := by decide +kernel
theorem d_RP_run_65 : decode prog_1_method_8_code 65 = .ok (.aload_n 0, 1) := by decide +kernel
theorem d_RP_run_66 : decode prog_1_method_8_code 66 = .ok (.getfield 44, 3) := by decide +kernel
theorem d_RP_run_69 : decode prog_1_method_8_code 69 = .ok (.getfield 135, 3) := by decide +kernel
theorem d_RP_run_72 : decode prog_1_method_8_code 72 = .ok (.ifCond .eq 5, 3) := by decide +kernel
theorem d_RP_run_75 : decode prog_1_method_8_code 75 = .ok (.iconst 0, 1) := by decide +kernel
theorem d_RP_run_76 : decode prog_1_method_8_code 76 = .ok (.ireturn, 1) := by decide +kernel
theorem d_RP_run_77 : decode prog_1_method_8_code 77 = .ok (.aload_n 0, 1) := by decide +kernel
theorem d_RP_run_78 : decode prog_1_method_8_code 78 = .ok (.getfield 35, 3) := by decide +kernel
theorem d_RP_run_81 : decode prog_1_method_8_code 81 = .ok (.getfield 120, 3) := by decide +kernel
theorem d_RP_run_84 : decode prog_1_method_8_code 84 = .ok (.ifCond .eq 7, 3) := by decide +kernel
theorem d_RP_run_87 : decode prog_1_method_8_code 87 = .ok (.iconst 1, 1) := by decide +kernel
theorem d_RP_run_88 : decode prog_1_method_8_code 88 = .ok (.goto 4, 3) := by decide +kernel
theorem d_RP_run_91 : decode prog_1_method_8_code 91 = .ok (.iconst 2, 1) := by decide +kernel
theorem d_RP_run_92 : decode prog_1_method_8_code 92 = .ok (.ireturn, 1) := by decide +kernel
theorem d_RP_best_0 : decode prog_1_method_9_code 0 = .ok (.aload_n 0, 1) := by decide +kernel
theorem d_RP_best_1 : decode prog_1_method_9_code 1 = .ok (.getfield 51, 3) := by decide +kernel
theorem d_RP_best_4 : decode prog_1_method_9_code 4 = .ok (.getfield 136, 3) := by decide +kernel
theorem d_RP_best_7 : decode prog_1_method_9_code 7 = .ok (.ifCond .eq 34, 3) := by decide +kernel
theorem d_RP_best_10 : decode prog_1_method_9_code 10 = .ok (.iload_n 1, 1) := by decide +kernel
theorem d_RP_best_11 : decode prog_1_method_9_code 11 = .ok (.i2l, 1) := by decide +kernel
theorem d_RP_best_12 : decode prog_1_method_9_code 12 = .ok (.lconst 0, 1) := by decide +kernel
theorem d_RP_best_13 : decode prog_1_method_9_code 13 = .ok (.aload_n 0, 1) := by decide +kernel
theorem d_RP_best_14 : decode prog_1_method_9_code 14 = .ok (.getfield 51, 3) := by decide +kernel
theorem d_RP_best_17 : decode prog_1_method_9_code 17 = .ok (.getfield 139, 3) := by decide +kernel
theorem d_RP_best_20 : decode prog_1_method_9_code 20 = .ok (.iconst 1, 1) := by decide +kernel
theorem d_RP_best_21 : decode prog_1_method_9_code 21 = .ok (.isub, 1) := by decide +kernel
theorem d_RP_best_22 : decode prog_1_method_9_code 22 = .ok (.i2l, 1) := by decide +kernel
theorem d_RP_best_23 : decode prog_1_method_9_code 23 = .ok (.invokestatic 68, 3) := by decide +kernel
theorem d_RP_best_26 : decode prog_1_method_9_code 26 = .ok (.ifCond .eq 15, 3) := by decide +kernel
theorem d_RP_best_29 : decode prog_1_method_9_code 29 = .ok (.aload_n 0, 1) := by decide +kernel
theorem d_RP_best_30 : decode prog_1_method_9_code 30 = .ok (.getfield 51, 3) := by decide +kernel
theorem d_RP_best_33 : decode prog_1_method_9_code 33 = .ok (.getfield 141, 3) := by decide +kernel
theorem d_RP_best_36 : decode prog_1_method_9_code 36 = .ok (.iload_n 1, 1) := by decide +kernel
theorem d_RP_best_37 : decode prog_1_method_9_code 37 = .ok (.iaload, 1) := by decide +kernel
theorem d_RP_best_38 : decode prog_1_method_9_code 38 = .ok (.goto 4, 3) := by decide +kernel
theorem d_RP_best_41 : decode prog_1_method_9_code 41 = .ok (.iconst (-1), 1) := by decide +kernel
theorem d_RP_best_42 : decode prog_1_method_9_code 42 = .ok (.ireturn, 1) := by decide +kernel
theorem d_RP_cost_0 : decode prog_1_method_10_code 0 = .ok (.aload_n 0, 1) := by decide +kernel
theorem d_RP_cost_1 : decode prog_1_method_10_code 1 = .ok (.getfield 51, 3) := by decide +kernel
theorem d_RP_cost_4 : decode prog_1_method_10_code 4 = .ok (.getfield 136, 3) := by decide +kernel
theorem d_RP_cost_7 : decode prog_1_method_10_code 7 = .ok (.ifCond .eq 13, 3) := by decide +kernel
theorem d_RP_cost_10 : decode prog_1_method_10_code 10 = .ok (.aload_n 0, 1) := by decide +kernel
theorem d_RP_cost_11 : decode prog_1_method_10_code 11 = .ok (.getfield 51, 3) := by decide +kernel
theorem d_RP_cost_14 : decode prog_1_method_10_code 14 = .ok (.getfield 144, 3) := by decide +kernel
theorem d_RP_cost_17 : decode prog_1_method_10_code 17 = .ok (.goto 6, 3) := by decide +kernel
theorem d_RP_cost_20 : decode prog_1_method_10_code 20 = .ok (.ldc2_w 150, 3) := by decide +kernel
theorem d_RP_cost_23 : decode prog_1_method_10_code 23 = .ok (.lreturn, 1) := by decide +kernel
theorem d_RP_cut_0 : decode prog_1_method_11_code 0 = .ok (.aload_n 0, 1) := by decide +kernel
theorem d_RP_cut_1 : decode prog_1_method_11_code 1 = .ok (.getfield 51, 3) := by decide +kernel
theorem d_RP_cut_4 : decode prog_1_method_11_code 4 = .ok (.getfield 152, 3) := by decide +kernel
theorem d_RP_cut_7 : decode prog_1_method_11_code 7 = .ok (.ifCond .eq 13, 3) := by decide +kernel
theorem d_RP_cut_10 : decode prog_1_method_11_code 10 = .ok (.iload_n 1, 1) := by decide +kernel
theorem d_RP_cut_11 : decode prog_1_method_11_code 11 = .ok (.i2l, 1) := by decide +kernel
theorem d_RP_cut_12 : decode prog_1_method_11_code 12 = .ok (.lconst 0, 1) := by decide +kernel
theorem d_RP_cut_13 : decode prog_1_method_11_code 13 = .ok (.lconst 1, 1) := by decide +kernel
theorem d_RP_cut_14 : decode prog_1_method_11_code 14 = .ok (.invokestatic 68, 3) := by decide +kernel
theorem d_RP_cut_17 : decode prog_1_method_11_code 17 = .ok (.ifCond .ne 7, 3) := by decide +kernel
theorem d_RP_cut_20 : decode prog_1_method_11_code 20 = .ok (.ldc2_w 150, 3) := by decide +kernel
theorem d_RP_cut_23 : decode prog_1_method_11_code 23 = .ok (.lreturn, 1) := by decide +kernel
theorem d_RP_cut_24 : decode prog_1_method_11_code 24 = .ok (.iload_n 1, 1) := by decide +kernel
theorem d_RP_cut_25 : decode prog_1_method_11_code 25 = .ok (.ifCond .ne 13, 3) := by decide +kernel
theorem d_RP_cut_28 : decode prog_1_method_11_code 28 = .ok (.aload_n 0, 1) := by decide +kernel
theorem d_RP_cut_29 : decode prog_1_method_11_code 29 = .ok (.getfield 51, 3) := by decide +kernel
theorem d_RP_cut_32 : decode prog_1_method_11_code 32 = .ok (.getfield 155, 3) := by decide +kernel
theorem d_RP_cut_35 : decode prog_1_method_11_code 35 = .ok (.goto 10, 3) := by decide +kernel
theorem d_RP_cut_38 : decode prog_1_method_11_code 38 = .ok (.aload_n 0, 1) := by decide +kernel
theorem d_RP_cut_39 : decode prog_1_method_11_code 39 = .ok (.getfield 51, 3) := by decide +kernel
theorem d_RP_cut_42 : decode prog_1_method_11_code 42 = .ok (.getfield 158, 3) := by decide +kernel
theorem d_RP_cut_45 : decode prog_1_method_11_code 45 = .ok (.lreturn, 1) := by decide +kernel
theorem d_RP_clashes_0 : decode prog_1_method_12_code 0 = .ok (.aload_n 0, 1) := by decide +kernel
theorem d_RP_clashes_1 : decode prog_1_method_12_code 1 = .ok (.getfield 51, 3) := by decide +kernel
theorem d_RP_clashes_4 : decode prog_1_method_12_code 4 = .ok (.getfield 161, 3) := by decide +kernel
theorem d_RP_clashes_7 : decode prog_1_method_12_code 7 = .ok (.ifCond .ne 7, 3) := by decide +kernel
theorem d_RP_clashes_10 : decode prog_1_method_12_code 10 = .ok (.iconst (-1), 1) := by decide +kernel
theorem d_RP_clashes_11 : decode prog_1_method_12_code 11 = .ok (.goto 13, 3) := by decide +kernel
theorem d_RP_clashes_14 : decode prog_1_method_12_code 14 = .ok (.aload_n 0, 1) := by decide +kernel
theorem d_RP_clashes_15 : decode prog_1_method_12_code 15 = .ok (.getfield 51, 3) := by decide +kernel
theorem d_RP_clashes_18 : decode prog_1_method_12_code 18 = .ok (.getfield 161, 3) := by decide +kernel
theorem d_RP_clashes_21 : decode prog_1_method_12_code 21 = .ok (.invokestatic 164, 3) := by decide +kernel
theorem d_RP_clashes_24 : decode prog_1_method_12_code 24 = .ok (.ireturn, 1) := by decide +kernel
theorem d_RP_clash_0 : decode prog_1_method_13_code 0 = .ok (.iload_n 1, 1) := by decide +kernel
theorem d_RP_clash_1 : decode prog_1_method_13_code 1 = .ok (.i2l, 1) := by decide +kernel
theorem d_RP_clash_2 : decode prog_1_method_13_code 2 = .ok (.lconst 0, 1) := by decide +kernel
theorem d_RP_clash_3 : decode prog_1_method_13_code 3 = .ok (.ldc2_w 105, 3) := by decide +kernel
theorem d_RP_clash_6 : decode prog_1_method_13_code 6 = .ok (.invokestatic 68, 3) := by decide +kernel
theorem d_RP_clash_9 : decode prog_1_method_13_code 9 = .ok (.ifCond .eq 21, 3) := by decide +kernel
theorem d_RP_clash_12 : decode prog_1_method_13_code 12 = .ok (.aload_n 0, 1) := by decide +kernel
theorem d_RP_clash_13 : decode prog_1_method_13_code 13 = .ok (.getfield 51, 3) := by decide +kernel
theorem d_RP_clash_16 : decode prog_1_method_13_code 16 = .ok (.getfield 161, 3) := by decide +kernel
theorem d_RP_clash_19 : decode prog_1_method_13_code 19 = .ok (.iload_n 1, 1) := by decide +kernel
theorem d_RP_clash_20 : decode prog_1_method_13_code 20 = .ok (.invokestatic 170, 3) := by decide +kernel
theorem d_RP_clash_23 : decode prog_1_method_13_code 23 = .ok (.ifCond .eq 7, 3) := by decide +kernel
theorem d_RP_clash_26 : decode prog_1_method_13_code 26 = .ok (.iconst 1, 1) := by decide +kernel
theorem d_RP_clash_27 : decode prog_1_method_13_code 27 = .ok (.goto 4, 3) := by decide +kernel
theorem d_RP_clash_30 : decode prog_1_method_13_code 30 = .ok (.iconst 0, 1) := by decide +kernel
theorem d_RP_clash_31 : decode prog_1_method_13_code 31 = .ok (.ireturn, 1) := by decide +kernel
theorem d_RP_broken_0 : decode prog_1_method_14_code 0 = .ok (.aload_n 0, 1) := by decide +kernel
theorem d_RP_broken_1 : decode prog_1_method_14_code 1 = .ok (.getfield 55, 3) := by decide +kernel
theorem d_RP_broken_4 : decode prog_1_method_14_code 4 = .ok (.iconst 0, 1) := by decide +kernel
theorem d_RP_broken_5 : decode prog_1_method_14_code 5 = .ok (.iload_n 1, 1) := by decide +kernel
theorem d_RP_broken_6 : decode prog_1_method_14_code 6 = .ok (.i2l, 1) := by decide +kernel
theorem d_RP_broken_7 : decode prog_1_method_14_code 7 = .ok (.lastore, 1) := by decide +kernel
theorem d_RP_broken_8 : decode prog_1_method_14_code 8 = .ok (.aload_n 0, 1) := by decide +kernel
theorem d_RP_broken_9 : decode prog_1_method_14_code 9 = .ok (.getfield 55, 3) := by decide +kernel
theorem d_RP_broken_12 : decode prog_1_method_14_code 12 = .ok (.iconst 1, 1) := by decide +kernel
theorem d_RP_broken_13 : decode prog_1_method_14_code 13 = .ok (.iload_n 2, 1) := by decide +kernel
theorem d_RP_broken_14 : decode prog_1_method_14_code 14 = .ok (.i2l, 1) := by decide +kernel
theorem d_RP_broken_15 : decode prog_1_method_14_code 15 = .ok (.lastore, 1) := by decide +kernel
theorem d_RP_broken_16 : decode prog_1_method_14_code 16 = .ok (.aload_n 0, 1) := by decide +kernel
theorem d_RP_broken_17 : decode prog_1_method_14_code 17 = .ok (.getfield 55, 3) := by decide +kernel
theorem d_RP_broken_20 : decode prog_1_method_14_code 20 = .ok (.iconst 2, 1) := by decide +kernel
theorem d_RP_broken_21 : decode prog_1_method_14_code 21 = .ok (.iload_n 3, 1) := by decide +kernel
theorem d_RP_broken_22 : decode prog_1_method_14_code 22 = .ok (.i2l, 1) := by decide +kernel
theorem d_RP_broken_23 : decode prog_1_method_14_code 23 = .ok (.lastore, 1) := by decide +kernel
theorem d_RP_broken_24 : decode prog_1_method_14_code 24 = .ok (.aload_n 0, 1) := by decide +kernel
theorem d_RP_broken_25 : decode prog_1_method_14_code 25 = .ok (.getfield 55, 3) := by decide +kernel
theorem d_RP_broken_28 : decode prog_1_method_14_code 28 = .ok (.iconst 3, 1) := by decide +kernel
theorem d_RP_broken_29 : decode prog_1_method_14_code 29 = .ok (.iload 4, 2) := by decide +kernel
theorem d_RP_broken_31 : decode prog_1_method_14_code 31 = .ok (.i2l, 1) := by decide +kernel
theorem d_RP_broken_32 : decode prog_1_method_14_code 32 = .ok (.lastore, 1) := by decide +kernel
theorem d_RP_broken_33 : decode prog_1_method_14_code 33 = .ok (.aload_n 0, 1) := by decide +kernel
theorem d_RP_broken_34 : decode prog_1_method_14_code 34 = .ok (.getfield 55, 3) := by decide +kernel
theorem d_RP_broken_37 : decode prog_1_method_14_code 37 = .ok (.iconst 4, 1) := by decide +kernel
theorem d_RP_broken_38 : decode prog_1_method_14_code 38 = .ok (.lconst 1, 1) := by decide +kernel
theorem d_RP_broken_39 : decode prog_1_method_14_code 39 = .ok (.lastore, 1) := by decide +kernel
theorem d_RP_broken_40 : decode prog_1_method_14_code 40 = .ok (.iconst 0, 1) := by decide +kernel
theorem d_RP_broken_41 : decode prog_1_method_14_code 41 = .ok (.istore 5, 2) := by decide +kernel
theorem d_RP_broken_43 : decode prog_1_method_14_code 43 = .ok (.iload 5, 2) := by decide +kernel
theorem d_RP_broken_45 : decode prog_1_method_14_code 45 = .ok (.iconst 4, 1) := by decide +kernel
theorem d_RP_broken_46 : decode prog_1_method_14_code 46 = .ok (.if_icmp .ge 36, 3) := by decide +kernel
theorem d_RP_broken_49 : decode prog_1_method_14_code 49 = .ok (.aload_n 0, 1) := by decide +kernel
theorem d_RP_broken_50 : decode prog_1_method_14_code 50 = .ok (.getfield 55, 3) := by decide +kernel
theorem d_RP_broken_53 : decode prog_1_method_14_code 53 = .ok (.iload 5, 2) := by decide +kernel
theorem d_RP_broken_55 : decode prog_1_method_14_code 55 = .ok (.laload, 1) := by decide +kernel
theorem d_RP_broken_56 : decode prog_1_method_14_code 56 = .ok (.lconst 0, 1) := by decide +kernel
theorem d_RP_broken_57 : decode prog_1_method_14_code 57 = .ok (.aload_n 0, 1) := by decide +kernel
theorem d_RP_broken_58 : decode prog_1_method_14_code 58 = .ok (.getfield 12, 3) := by decide +kernel
theorem d_RP_broken_61 : decode prog_1_method_14_code 61 = .ok (.getfield 76, 3) := by decide +kernel
theorem d_RP_broken_64 : decode prog_1_method_14_code 64 = .ok (.iload 5, 2) := by decide +kernel
theorem d_RP_broken_66 : decode prog_1_method_14_code 66 = .ok (.iaload, 1) := by decide +kernel
theorem d_RP_broken_67 : decode prog_1_method_14_code 67 = .ok (.i2l, 1) := by decide +kernel
theorem d_RP_broken_68 : decode prog_1_method_14_code 68 = .ok (.invokestatic 68, 3) := by decide +kernel
theorem d_RP_broken_71 : decode prog_1_method_14_code 71 = .ok (.ifCond .ne 5, 3) := by decide +kernel
theorem d_RP_broken_74 : decode prog_1_method_14_code 74 = .ok (.iconst (-1), 1) := by decide +kernel
theorem d_RP_broken_75 : decode prog_1_method_14_code 75 = .ok (.ireturn, 1) := by decide +kernel
theorem d_RP_broken_76 : decode prog_1_method_14_code 76 = .ok (.iinc 5 1, 3) := by decide +kernel
theorem d_RP_broken_79 : decode prog_1_method_14_code 79 = .ok (.goto (-36), 3) := by decide +kernel
theorem d_RP_broken_82 : decode prog_1_method_14_code 82 = .ok (.aload_n 0, 1) := by decide +kernel
theorem d_RP_broken_83 : decode prog_1_method_14_code 83 = .ok (.getfield 12, 3) := by decide +kernel
theorem d_RP_broken_86 : decode prog_1_method_14_code 86 = .ok (.aload_n 0, 1) := by decide +kernel
theorem d_RP_broken_87 : decode prog_1_method_14_code 87 = .ok (.getfield 55, 3) := by decide +kernel
theorem d_RP_broken_90 : decode prog_1_method_14_code 90 = .ok (.aload_n 0, 1) := by decide +kernel
theorem d_RP_broken_91 : decode prog_1_method_14_code 91 = .ok (.getfield 59, 3) := by decide +kernel
theorem d_RP_broken_94 : decode prog_1_method_14_code 94 = .ok (.invokevirtual 174, 3) := by decide +kernel
theorem d_RP_broken_97 : decode prog_1_method_14_code 97 = .ok (.iconst 0, 1) := by decide +kernel
theorem d_RP_broken_98 : decode prog_1_method_14_code 98 = .ok (.istore 5, 2) := by decide +kernel
theorem d_RP_broken_100 : decode prog_1_method_14_code 100 = .ok (.iload 5, 2) := by decide +kernel
theorem d_RP_broken_102 : decode prog_1_method_14_code 102 = .ok (.bipush 8, 2) := by decide +kernel
theorem d_RP_broken_104 : decode prog_1_method_14_code 104 = .ok (.if_icmp .ge 40, 3) := by decide +kernel
theorem d_RP_broken_107 : decode prog_1_method_14_code 107 = .ok (.aload_n 0, 1) := by decide +kernel
theorem d_RP_broken_108 : decode prog_1_method_14_code 108 = .ok (.getfield 19, 3) := by decide +kernel
theorem d_RP_broken_111 : decode prog_1_method_14_code 111 = .ok (.iload 5, 2) := by decide +kernel
theorem d_RP_broken_113 : decode prog_1_method_14_code 113 = .ok (.invokevirtual 107, 3) := by decide +kernel
theorem d_RP_broken_116 : decode prog_1_method_14_code 116 = .ok (.ifCond .eq 22, 3) := by decide +kernel
theorem d_RP_broken_119 : decode prog_1_method_14_code 119 = .ok (.aload_n 0, 1) := by decide +kernel
theorem d_RP_broken_120 : decode prog_1_method_14_code 120 = .ok (.getfield 19, 3) := by decide +kernel
theorem d_RP_broken_123 : decode prog_1_method_14_code 123 = .ok (.iload 5, 2) := by decide +kernel
theorem d_RP_broken_125 : decode prog_1_method_14_code 125 = .ok (.aload_n 0, 1) := by decide +kernel
theorem d_RP_broken_126 : decode prog_1_method_14_code 126 = .ok (.getfield 59, 3) := by decide +kernel
theorem d_RP_broken_129 : decode prog_1_method_14_code 129 = .ok (.invokevirtual 178, 3) := by decide +kernel
theorem d_RP_broken_132 : decode prog_1_method_14_code 132 = .ok (.ifCond .ne 6, 3) := by decide +kernel
theorem d_RP_broken_135 : decode prog_1_method_14_code 135 = .ok (.iload 5, 2) := by decide +kernel
theorem d_RP_broken_137 : decode prog_1_method_14_code 137 = .ok (.ireturn, 1) := by decide +kernel
theorem d_RP_broken_138 : decode prog_1_method_14_code 138 = .ok (.iinc 5 1, 3) := by decide +kernel
theorem d_RP_broken_141 : decode prog_1_method_14_code 141 = .ok (.goto (-41), 3) := by decide +kernel
theorem d_RP_broken_144 : decode prog_1_method_14_code 144 = .ok (.bipush 8, 2) := by decide +kernel
theorem d_RP_broken_146 : decode prog_1_method_14_code 146 = .ok (.ireturn, 1) := by decide +kernel
theorem d_RP_within_0 : decode prog_1_method_15_code 0 = .ok (.lload_n 2, 1) := by decide +kernel
theorem d_RP_within_1 : decode prog_1_method_15_code 1 = .ok (.lload_n 0, 1) := by decide +kernel
theorem d_RP_within_2 : decode prog_1_method_15_code 2 = .ok (.lcmp, 1) := by decide +kernel
theorem d_RP_within_3 : decode prog_1_method_15_code 3 = .ok (.ifCond .gt 14, 3) := by decide +kernel
theorem d_RP_within_6 : decode prog_1_method_15_code 6 = .ok (.lload_n 0, 1) := by decide +kernel
theorem d_RP_within_7 : decode prog_1_method_15_code 7 = .ok (.lload 4, 2) := by decide +kernel
theorem d_RP_within_9 : decode prog_1_method_15_code 9 = .ok (.lcmp, 1) := by decide +kernel
theorem d_RP_within_10 : decode prog_1_method_15_code 10 = .ok (.ifCond .gt 7, 3) := by decide +kernel
theorem d_RP_within_13 : decode prog_1_method_15_code 13 = .ok (.iconst 1, 1) := by decide +kernel
theorem d_RP_within_14 : decode prog_1_method_15_code 14 = .ok (.goto 4, 3) := by decide +kernel
theorem d_RP_within_17 : decode prog_1_method_15_code 17 = .ok (.iconst 0, 1) := by decide +kernel
theorem d_RP_within_18 : decode prog_1_method_15_code 18 = .ok (.ireturn, 1) := by decide +kernel
theorem d_RP_isRange_0 : decode prog_1_method_16_code 0 = .ok (.iload_n 2, 1) := by decide +kernel
theorem d_RP_isRange_1 : decode prog_1_method_16_code 1 = .ok (.iload_n 0, 1) := by decide +kernel
theorem d_RP_isRange_2 : decode prog_1_method_16_code 2 = .ok (.if_icmp .gt 17, 3) := by decide +kernel
theorem d_RP_isRange_5 : decode prog_1_method_16_code 5 = .ok (.iload_n 0, 1) := by decide +kernel
theorem d_RP_isRange_6 : decode prog_1_method_16_code 6 = .ok (.iload_n 1, 1) := by decide +kernel
theorem d_RP_isRange_7 : decode prog_1_method_16_code 7 = .ok (.if_icmp .gt 12, 3) := by decide +kernel
theorem d_RP_isRange_10 : decode prog_1_method_16_code 10 = .ok (.iload_n 1, 1) := by decide +kernel
theorem d_RP_isRange_11 : decode prog_1_method_16_code 11 = .ok (.iload_n 3, 1) := by decide +kernel
theorem d_RP_isRange_12 : decode prog_1_method_16_code 12 = .ok (.if_icmp .gt 7, 3) := by decide +kernel
theorem d_RP_isRange_15 : decode prog_1_method_16_code 15 = .ok (.iconst 1, 1) := by decide +kernel
theorem d_RP_isRange_16 : decode prog_1_method_16_code 16 = .ok (.goto 4, 3) := by decide +kernel
theorem d_RP_isRange_19 : decode prog_1_method_16_code 19 = .ok (.iconst 0, 1) := by decide +kernel
theorem d_RP_isRange_20 : decode prog_1_method_16_code 20 = .ok (.ireturn, 1) := by decide +kernel
theorem d_RP_isWhat_0 : decode prog_1_method_17_code 0 = .ok (.iload_n 0, 1) := by decide +kernel
theorem d_RP_isWhat_1 : decode prog_1_method_17_code 1 = .ok (.i2l, 1) := by decide +kernel
theorem d_RP_isWhat_2 : decode prog_1_method_17_code 2 = .ok (.lconst 0, 1) := by decide +kernel
theorem d_RP_isWhat_3 : decode prog_1_method_17_code 3 = .ok (.ldc2_w 182, 3) := by decide +kernel
theorem d_RP_isWhat_6 : decode prog_1_method_17_code 6 = .ok (.invokestatic 68, 3) := by decide +kernel
theorem d_RP_isWhat_9 : decode prog_1_method_17_code 9 = .ok (.ireturn, 1) := by decide +kernel
theorem d_RP_hasBit_0 : decode prog_1_method_18_code 0 = .ok (.iload_n 0, 1) := by decide +kernel
theorem d_RP_hasBit_1 : decode prog_1_method_18_code 1 = .ok (.iload_n 1, 1) := by decide +kernel
theorem d_RP_hasBit_2 : decode prog_1_method_18_code 2 = .ok (.ishr, 1) := by decide +kernel
theorem d_RP_hasBit_3 : decode prog_1_method_18_code 3 = .ok (.iconst 1, 1) := by decide +kernel
theorem d_RP_hasBit_4 : decode prog_1_method_18_code 4 = .ok (.iand, 1) := by decide +kernel
theorem d_RP_hasBit_5 : decode prog_1_method_18_code 5 = .ok (.ifCond .eq 7, 3) := by decide +kernel
theorem d_RP_hasBit_8 : decode prog_1_method_18_code 8 = .ok (.iconst 1, 1) := by decide +kernel
theorem d_RP_hasBit_9 : decode prog_1_method_18_code 9 = .ok (.goto 4, 3) := by decide +kernel
theorem d_RP_hasBit_12 : decode prog_1_method_18_code 12 = .ok (.iconst 0, 1) := by decide +kernel
theorem d_RP_hasBit_13 : decode prog_1_method_18_code 13 = .ok (.ireturn, 1) := by decide +kernel
theorem d_Lo_init_0 : decode prog_4_method_1_code 0 = .ok (.aload_n 0, 1) := by decide +kernel
theorem d_Lo_init_1 : decode prog_4_method_1_code 1 = .ok (.invokespecial 3, 3) := by decide +kernel
theorem d_Lo_init_4 : decode prog_4_method_1_code 4 = .ok (.aload_n 0, 1) := by decide +kernel
theorem d_Lo_init_5 : decode prog_4_method_1_code 5 = .ok (.iconst 4, 1) := by decide +kernel
theorem d_Lo_init_6 : decode prog_4_method_1_code 6 = .ok (.newarray .int, 2) := by decide +kernel
theorem d_Lo_init_8 : decode prog_4_method_1_code 8 = .ok (.putfield 9, 3) := by decide +kernel
theorem d_Lo_init_11 : decode prog_4_method_1_code 11 = .ok (.aload_n 0, 1) := by decide +kernel
theorem d_Lo_init_12 : decode prog_4_method_1_code 12 = .ok (.iconst 4, 1) := by decide +kernel
theorem d_Lo_init_13 : decode prog_4_method_1_code 13 = .ok (.newarray .long, 2) := by decide +kernel
theorem d_Lo_init_15 : decode prog_4_method_1_code 15 = .ok (.putfield 15, 3) := by decide +kernel
theorem d_Lo_init_18 : decode prog_4_method_1_code 18 = .ok (.aload_n 0, 1) := by decide +kernel
theorem d_Lo_init_19 : decode prog_4_method_1_code 19 = .ok (.bipush 7, 2) := by decide +kernel
theorem d_Lo_init_21 : decode prog_4_method_1_code 21 = .ok (.iconst 5, 1) := by decide +kernel
theorem d_Lo_init_22 : decode prog_4_method_1_code 22 = .ok (.multianewarray 19 2, 4) := by decide +kernel
theorem d_Lo_init_26 : decode prog_4_method_1_code 26 = .ok (.putfield 21, 3) := by decide +kernel
theorem d_Lo_init_29 : decode prog_4_method_1_code 29 = .ok (.iconst 0, 1) := by decide +kernel
theorem d_Lo_init_30 : decode prog_4_method_1_code 30 = .ok (.istore_n 1, 1) := by decide +kernel
theorem d_Lo_init_31 : decode prog_4_method_1_code 31 = .ok (.iload_n 1, 1) := by decide +kernel
theorem d_Lo_init_32 : decode prog_4_method_1_code 32 = .ok (.iconst 4, 1) := by decide +kernel
theorem d_Lo_init_33 : decode prog_4_method_1_code 33 = .ok (.if_icmp .ge 18, 3) := by decide +kernel
theorem d_Lo_init_36 : decode prog_4_method_1_code 36 = .ok (.aload_n 0, 1) := by decide +kernel
theorem d_Lo_init_37 : decode prog_4_method_1_code 37 = .ok (.getfield 21, 3) := by decide +kernel
theorem d_Lo_init_40 : decode prog_4_method_1_code 40 = .ok (.iconst 5, 1) := by decide +kernel
theorem d_Lo_init_41 : decode prog_4_method_1_code 41 = .ok (.aaload, 1) := by decide +kernel
theorem d_Lo_init_42 : decode prog_4_method_1_code 42 = .ok (.iload_n 1, 1) := by decide +kernel
theorem d_Lo_init_43 : decode prog_4_method_1_code 43 = .ok (.lconst 1, 1) := by decide +kernel
theorem d_Lo_init_44 : decode prog_4_method_1_code 44 = .ok (.lastore, 1) := by decide +kernel
theorem d_Lo_init_45 : decode prog_4_method_1_code 45 = .ok (.iinc 1 1, 3) := by decide +kernel
theorem d_Lo_init_48 : decode prog_4_method_1_code 48 = .ok (.goto (-17), 3) := by decide +kernel
theorem d_Lo_init_51 : decode prog_4_method_1_code 51 = .ok (.aload_n 0, 1) := by decide +kernel
theorem d_Lo_init_52 : decode prog_4_method_1_code 52 = .ok (.getfield 21, 3) := by decide +kernel
theorem d_Lo_init_55 : decode prog_4_method_1_code 55 = .ok (.bipush 6, 2) := by decide +kernel
theorem d_Lo_init_57 : decode prog_4_method_1_code 57 = .ok (.aaload, 1) := by decide +kernel
theorem d_Lo_init_58 : decode prog_4_method_1_code 58 = .ok (.iconst 4, 1) := by decide +kernel
theorem d_Lo_init_59 : decode prog_4_method_1_code 59 = .ok (.lconst 1, 1) := by decide +kernel
theorem d_Lo_init_60 : decode prog_4_method_1_code 60 = .ok (.lastore, 1) := by decide +kernel
theorem d_Lo_init_61 : decode prog_4_method_1_code 61 = .ok (.return_, 1) := by decide +kernel
theorem d_Lo_hold_0 : decode prog_4_method_2_code 0 = .ok (.iconst 0, 1) := by decide +kernel
theorem d_Lo_hold_1 : decode prog_4_method_2_code 1 = .ok (.istore_n 3, 1) := by decide +kernel
theorem d_Lo_hold_2 : decode prog_4_method_2_code 2 = .ok (.iload_n 3, 1) := by decide +kernel
theorem d_Lo_hold_3 : decode prog_4_method_2_code 3 = .ok (.bipush 7, 2) := by decide +kernel
theorem d_Lo_hold_5 : decode prog_4_method_2_code 5 = .ok (.if_icmp .ge 55, 3) := by decide +kernel
theorem d_Lo_hold_8 : decode prog_4_method_2_code 8 = .ok (.aload_n 0, 1) := by decide +kernel
theorem d_Lo_hold_9 : decode prog_4_method_2_code 9 = .ok (.getfield 21, 3) := by decide +kernel
theorem d_Lo_hold_12 : decode prog_4_method_2_code 12 = .ok (.iload_n 3, 1) := by decide +kernel
theorem d_Lo_hold_13 : decode prog_4_method_2_code 13 = .ok (.aaload, 1) := by decide +kernel
theorem d_Lo_hold_14 : decode prog_4_method_2_code 14 = .ok (.astore 4, 2) := by decide +kernel
theorem d_Lo_hold_16 : decode prog_4_method_2_code 16 = .ok (.lconst 0, 1) := by decide +kernel
theorem d_Lo_hold_17 : decode prog_4_method_2_code 17 = .ok (.lstore 5, 2) := by decide +kernel
theorem d_Lo_hold_19 : decode prog_4_method_2_code 19 = .ok (.iconst 0, 1) := by decide +kernel
theorem d_Lo_hold_20 : decode prog_4_method_2_code 20 = .ok (.istore 7, 2) := by decide +kernel
theorem d_Lo_hold_22 : decode prog_4_method_2_code 22 = .ok (.iload 7, 2) := by decide +kernel
theorem d_Lo_hold_24 : decode prog_4_method_2_code 24 = .ok (.iconst 5, 1) := by decide +kernel
theorem d_Lo_hold_25 : decode prog_4_method_2_code 25 = .ok (.if_icmp .ge 24, 3) := by decide +kernel
theorem d_Lo_hold_28 : decode prog_4_method_2_code 28 = .ok (.lload 5, 2) := by decide +kernel
theorem d_Lo_hold_30 : decode prog_4_method_2_code 30 = .ok (.aload 4, 2) := by decide +kernel
theorem d_Lo_hold_32 : decode prog_4_method_2_code 32 = .ok (.iload 7, 2) := by decide +kernel
theorem d_Lo_hold_34 : decode prog_4_method_2_code 34 = .ok (.laload, 1) := by decide +kernel
theorem d_Lo_hold_35 : decode prog_4_method_2_code 35 = .ok (.aload_n 1, 1) := by decide +kernel
theorem d_Lo_hold_36 : decode prog_4_method_2_code 36 = .ok (.iload 7, 2) := by decide +kernel
theorem d_Lo_hold_38 : decode prog_4_method_2_code 38 = .ok (.laload, 1) := by decide +kernel
theorem d_Lo_hold_39 : decode prog_4_method_2_code 39 = .ok (.lmul, 1) := by decide +kernel
theorem d_Lo_hold_40 : decode prog_4_method_2_code 40 = .ok (.ladd, 1) := by decide +kernel
theorem d_Lo_hold_41 : decode prog_4_method_2_code 41 = .ok (.lstore 5, 2) := by decide +kernel
theorem d_Lo_hold_43 : decode prog_4_method_2_code 43 = .ok (.iinc 7 1, 3) := by decide +kernel
theorem d_Lo_hold_46 : decode prog_4_method_2_code 46 = .ok (.goto (-24), 3) := by decide +kernel
theorem d_Lo_hold_49 : decode prog_4_method_2_code 49 = .ok (.aload_n 2, 1) := by decide +kernel
theorem d_Lo_hold_50 : decode prog_4_method_2_code 50 = .ok (.iload_n 3, 1) := by decide +kernel
theorem d_Lo_hold_51 : decode prog_4_method_2_code 51 = .ok (.lload 5, 2) := by decide +kernel
theorem d_Lo_hold_53 : decode prog_4_method_2_code 53 = .ok (.lastore, 1) := by decide +kernel
theorem d_Lo_hold_54 : decode prog_4_method_2_code 54 = .ok (.iinc 3 1, 3) := by decide +kernel
theorem d_Lo_hold_57 : decode prog_4_method_2_code 57 = .ok (.goto (-55), 3) := by decide +kernel
theorem d_Lo_hold_60 : decode prog_4_method_2_code 60 = .ok (.return_, 1) := by decide +kernel
theorem d_Lo_price_0 : decode prog_4_method_3_code 0 = .ok (.lconst 0, 1) := by decide +kernel
theorem d_Lo_price_1 : decode prog_4_method_3_code 1 = .ok (.lstore_n 2, 1) := by decide +kernel
theorem d_Lo_price_2 : decode prog_4_method_3_code 2 = .ok (.iconst 0, 1) := by decide +kernel
theorem d_Lo_price_3 : decode prog_4_method_3_code 3 = .ok (.istore 4, 2) := by decide +kernel
theorem d_Lo_price_5 : decode prog_4_method_3_code 5 = .ok (.iload 4, 2) := by decide +kernel
theorem d_Lo_price_7 : decode prog_4_method_3_code 7 = .ok (.iconst 4, 1) := by decide +kernel
theorem d_Lo_price_8 : decode prog_4_method_3_code 8 = .ok (.if_icmp .ge 24, 3) := by decide +kernel
theorem d_Lo_price_11 : decode prog_4_method_3_code 11 = .ok (.lload_n 2, 1) := by decide +kernel
theorem d_Lo_price_12 : decode prog_4_method_3_code 12 = .ok (.aload_n 0, 1) := by decide +kernel
theorem d_Lo_price_13 : decode prog_4_method_3_code 13 = .ok (.getfield 15, 3) := by decide +kernel
theorem d_Lo_price_16 : decode prog_4_method_3_code 16 = .ok (.iload 4, 2) := by decide +kernel
theorem d_Lo_price_18 : decode prog_4_method_3_code 18 = .ok (.laload, 1) := by decide +kernel
theorem d_Lo_price_19 : decode prog_4_method_3_code 19 = .ok (.aload_n 1, 1) := by decide +kernel
theorem d_Lo_price_20 : decode prog_4_method_3_code 20 = .ok (.iload 4, 2) := by decide +kernel
theorem d_Lo_price_22 : decode prog_4_method_3_code 22 = .ok (.laload, 1) := by decide +kernel
theorem d_Lo_price_23 : decode prog_4_method_3_code 23 = .ok (.lmul, 1) := by decide +kernel
theorem d_Lo_price_24 : decode prog_4_method_3_code 24 = .ok (.ladd, 1) := by decide +kernel
theorem d_Lo_price_25 : decode prog_4_method_3_code 25 = .ok (.lstore_n 2, 1) := by decide +kernel
theorem d_Lo_price_26 : decode prog_4_method_3_code 26 = .ok (.iinc 4 1, 3) := by decide +kernel
theorem d_Lo_price_29 : decode prog_4_method_3_code 29 = .ok (.goto (-24), 3) := by decide +kernel
theorem d_Lo_price_32 : decode prog_4_method_3_code 32 = .ok (.lload_n 2, 1) := by decide +kernel
theorem d_Lo_price_33 : decode prog_4_method_3_code 33 = .ok (.lreturn, 1) := by decide +kernel
theorem d_Lo_inStock_0 : decode prog_4_method_4_code 0 = .ok (.iconst 0, 1) := by decide +kernel
theorem d_Lo_inStock_1 : decode prog_4_method_4_code 1 = .ok (.istore_n 1, 1) := by decide +kernel
theorem d_Lo_inStock_2 : decode prog_4_method_4_code 2 = .ok (.iconst 0, 1) := by decide +kernel
theorem d_Lo_inStock_3 : decode prog_4_method_4_code 3 = .ok (.istore_n 2, 1) := by decide +kernel
theorem d_Lo_inStock_4 : decode prog_4_method_4_code 4 = .ok (.iload_n 2, 1) := by decide +kernel
theorem d_Lo_inStock_5 : decode prog_4_method_4_code 5 = .ok (.iconst 4, 1) := by decide +kernel
theorem d_Lo_inStock_6 : decode prog_4_method_4_code 6 = .ok (.if_icmp .ge 24, 3) := by decide +kernel
theorem d_Lo_inStock_9 : decode prog_4_method_4_code 9 = .ok (.aload_n 0, 1) := by decide +kernel
theorem d_Lo_inStock_10 : decode prog_4_method_4_code 10 = .ok (.getfield 9, 3) := by decide +kernel
theorem d_Lo_inStock_13 : decode prog_4_method_4_code 13 = .ok (.iload_n 2, 1) := by decide +kernel
theorem d_Lo_inStock_14 : decode prog_4_method_4_code 14 = .ok (.iaload, 1) := by decide +kernel
theorem d_Lo_inStock_15 : decode prog_4_method_4_code 15 = .ok (.ifCond .le 9, 3) := by decide +kernel
theorem d_Lo_inStock_18 : decode prog_4_method_4_code 18 = .ok (.iload_n 1, 1) := by decide +kernel
theorem d_Lo_inStock_19 : decode prog_4_method_4_code 19 = .ok (.iconst 1, 1) := by decide +kernel
theorem d_Lo_inStock_20 : decode prog_4_method_4_code 20 = .ok (.iload_n 2, 1) := by decide +kernel
theorem d_Lo_inStock_21 : decode prog_4_method_4_code 21 = .ok (.ishl, 1) := by decide +kernel
theorem d_Lo_inStock_22 : decode prog_4_method_4_code 22 = .ok (.ior, 1) := by decide +kernel
theorem d_Lo_inStock_23 : decode prog_4_method_4_code 23 = .ok (.istore_n 1, 1) := by decide +kernel
theorem d_Lo_inStock_24 : decode prog_4_method_4_code 24 = .ok (.iinc 2 1, 3) := by decide +kernel
theorem d_Lo_inStock_27 : decode prog_4_method_4_code 27 = .ok (.goto (-23), 3) := by decide +kernel
theorem d_Lo_inStock_30 : decode prog_4_method_4_code 30 = .ok (.iload_n 1, 1) := by decide +kernel
theorem d_Lo_inStock_31 : decode prog_4_method_4_code 31 = .ok (.ireturn, 1) := by decide +kernel
theorem d_Ru_init_0 : decode prog_5_method_1_code 0 = .ok (.aload_n 0, 1) := by decide +kernel
theorem d_Ru_init_1 : decode prog_5_method_1_code 1 = .ok (.invokespecial 5, 3) := by decide +kernel
theorem d_Ru_init_4 : decode prog_5_method_1_code 4 = .ok (.aload_n 0, 1) := by decide +kernel
theorem d_Ru_init_5 : decode prog_5_method_1_code 5 = .ok (.bipush 8, 2) := by decide +kernel
theorem d_Ru_init_7 : decode prog_5_method_1_code 7 = .ok (.newarray .int, 2) := by decide +kernel
theorem d_Ru_init_9 : decode prog_5_method_1_code 9 = .ok (.putfield 11, 3) := by decide +kernel
theorem d_Ru_init_12 : decode prog_5_method_1_code 12 = .ok (.aload_n 0, 1) := by decide +kernel
theorem d_Ru_init_13 : decode prog_5_method_1_code 13 = .ok (.bipush 8, 2) := by decide +kernel
theorem d_Ru_init_15 : decode prog_5_method_1_code 15 = .ok (.newarray .int, 2) := by decide +kernel
theorem d_Ru_init_17 : decode prog_5_method_1_code 17 = .ok (.putfield 15, 3) := by decide +kernel
theorem d_Ru_init_20 : decode prog_5_method_1_code 20 = .ok (.aload_n 0, 1) := by decide +kernel
theorem d_Ru_init_21 : decode prog_5_method_1_code 21 = .ok (.bipush 8, 2) := by decide +kernel
theorem d_Ru_init_23 : decode prog_5_method_1_code 23 = .ok (.newarray .int, 2) := by decide +kernel
theorem d_Ru_init_25 : decode prog_5_method_1_code 25 = .ok (.putfield 18, 3) := by decide +kernel
theorem d_Ru_init_28 : decode prog_5_method_1_code 28 = .ok (.aload_n 0, 1) := by decide +kernel
theorem d_Ru_init_29 : decode prog_5_method_1_code 29 = .ok (.bipush 8, 2) := by decide +kernel
theorem d_Ru_init_31 : decode prog_5_method_1_code 31 = .ok (.newarray .int, 2) := by decide +kernel
theorem d_Ru_init_33 : decode prog_5_method_1_code 33 = .ok (.putfield 21, 3) := by decide +kernel
theorem d_Ru_init_36 : decode prog_5_method_1_code 36 = .ok (.aload_n 0, 1) := by decide +kernel
theorem d_Ru_init_37 : decode prog_5_method_1_code 37 = .ok (.bipush 8, 2) := by decide +kernel
theorem d_Ru_init_39 : decode prog_5_method_1_code 39 = .ok (.newarray .int, 2) := by decide +kernel
theorem d_Ru_init_41 : decode prog_5_method_1_code 41 = .ok (.putfield 24, 3) := by decide +kernel
theorem d_Ru_init_44 : decode prog_5_method_1_code 44 = .ok (.return_, 1) := by decide +kernel
theorem d_Ru_tell_0 : decode prog_5_method_2_code 0 = .ok (.aload_n 0, 1) := by decide +kernel
theorem d_Ru_tell_1 : decode prog_5_method_2_code 1 = .ok (.getfield 11, 3) := by decide +kernel
theorem d_Ru_tell_4 : decode prog_5_method_2_code 4 = .ok (.iload_n 1, 1) := by decide +kernel
theorem d_Ru_tell_5 : decode prog_5_method_2_code 5 = .ok (.iload_n 2, 1) := by decide +kernel
theorem d_Ru_tell_6 : decode prog_5_method_2_code 6 = .ok (.iastore, 1) := by decide +kernel
theorem d_Ru_tell_7 : decode prog_5_method_2_code 7 = .ok (.aload_n 0, 1) := by decide +kernel
theorem d_Ru_tell_8 : decode prog_5_method_2_code 8 = .ok (.getfield 15, 3) := by decide +kernel
theorem d_Ru_tell_11 : decode prog_5_method_2_code 11 = .ok (.iload_n 1, 1) := by decide +kernel
theorem d_Ru_tell_12 : decode prog_5_method_2_code 12 = .ok (.iload_n 3, 1) := by decide +kernel
theorem d_Ru_tell_13 : decode prog_5_method_2_code 13 = .ok (.iastore, 1) := by decide +kernel
theorem d_Ru_tell_14 : decode prog_5_method_2_code 14 = .ok (.aload_n 0, 1) := by decide +kernel
theorem d_Ru_tell_15 : decode prog_5_method_2_code 15 = .ok (.getfield 18, 3) := by decide +kernel
theorem d_Ru_tell_18 : decode prog_5_method_2_code 18 = .ok (.iload_n 1, 1) := by decide +kernel
theorem d_Ru_tell_19 : decode prog_5_method_2_code 19 = .ok (.iload 4, 2) := by decide +kernel
theorem d_Ru_tell_21 : decode prog_5_method_2_code 21 = .ok (.iastore, 1) := by decide +kernel
theorem d_Ru_tell_22 : decode prog_5_method_2_code 22 = .ok (.aload_n 0, 1) := by decide +kernel
theorem d_Ru_tell_23 : decode prog_5_method_2_code 23 = .ok (.getfield 21, 3) := by decide +kernel
theorem d_Ru_tell_26 : decode prog_5_method_2_code 26 = .ok (.iload_n 1, 1) := by decide +kernel
theorem d_Ru_tell_27 : decode prog_5_method_2_code 27 = .ok (.iload 5, 2) := by decide +kernel
theorem d_Ru_tell_29 : decode prog_5_method_2_code 29 = .ok (.iastore, 1) := by decide +kernel
theorem d_Ru_tell_30 : decode prog_5_method_2_code 30 = .ok (.aload_n 0, 1) := by decide +kernel
theorem d_Ru_tell_31 : decode prog_5_method_2_code 31 = .ok (.getfield 24, 3) := by decide +kernel
theorem d_Ru_tell_34 : decode prog_5_method_2_code 34 = .ok (.iload_n 1, 1) := by decide +kernel
theorem d_Ru_tell_35 : decode prog_5_method_2_code 35 = .ok (.iload 6, 2) := by decide +kernel
theorem d_Ru_tell_37 : decode prog_5_method_2_code 37 = .ok (.iastore, 1) := by decide +kernel
theorem d_Ru_tell_38 : decode prog_5_method_2_code 38 = .ok (.aload_n 0, 1) := by decide +kernel
theorem d_Ru_tell_39 : decode prog_5_method_2_code 39 = .ok (.dup, 1) := by decide +kernel
theorem d_Ru_tell_40 : decode prog_5_method_2_code 40 = .ok (.getfield 27, 3) := by decide +kernel
theorem d_Ru_tell_43 : decode prog_5_method_2_code 43 = .ok (.iconst 1, 1) := by decide +kernel
theorem d_Ru_tell_44 : decode prog_5_method_2_code 44 = .ok (.iload_n 1, 1) := by decide +kernel
theorem d_Ru_tell_45 : decode prog_5_method_2_code 45 = .ok (.ishl, 1) := by decide +kernel
theorem d_Ru_tell_46 : decode prog_5_method_2_code 46 = .ok (.ior, 1) := by decide +kernel
theorem d_Ru_tell_47 : decode prog_5_method_2_code 47 = .ok (.putfield 27, 3) := by decide +kernel
theorem d_Ru_tell_50 : decode prog_5_method_2_code 50 = .ok (.return_, 1) := by decide +kernel
theorem d_Ru_isTold_0 : decode prog_5_method_3_code 0 = .ok (.aload_n 0, 1) := by decide +kernel
theorem d_Ru_isTold_1 : decode prog_5_method_3_code 1 = .ok (.getfield 27, 3) := by decide +kernel
theorem d_Ru_isTold_4 : decode prog_5_method_3_code 4 = .ok (.iload_n 1, 1) := by decide +kernel
theorem d_Ru_isTold_5 : decode prog_5_method_3_code 5 = .ok (.invokestatic 31, 3) := by decide +kernel
theorem d_Ru_isTold_8 : decode prog_5_method_3_code 8 = .ok (.ireturn, 1) := by decide +kernel
theorem d_Ru_keeps_0 : decode prog_5_method_4_code 0 = .ok (.aload_n 2, 1) := by decide +kernel
theorem d_Ru_keeps_1 : decode prog_5_method_4_code 1 = .ok (.aload_n 0, 1) := by decide +kernel
theorem d_Ru_keeps_2 : decode prog_5_method_4_code 2 = .ok (.getfield 11, 3) := by decide +kernel
theorem d_Ru_keeps_5 : decode prog_5_method_4_code 5 = .ok (.iload_n 1, 1) := by decide +kernel
theorem d_Ru_keeps_6 : decode prog_5_method_4_code 6 = .ok (.iaload, 1) := by decide +kernel
theorem d_Ru_keeps_7 : decode prog_5_method_4_code 7 = .ok (.laload, 1) := by decide +kernel
theorem d_Ru_keeps_8 : decode prog_5_method_4_code 8 = .ok (.lstore_n 3, 1) := by decide +kernel
theorem d_Ru_keeps_9 : decode prog_5_method_4_code 9 = .ok (.aload_n 2, 1) := by decide +kernel
theorem d_Ru_keeps_10 : decode prog_5_method_4_code 10 = .ok (.aload_n 0, 1) := by decide +kernel
theorem d_Ru_keeps_11 : decode prog_5_method_4_code 11 = .ok (.getfield 15, 3) := by decide +kernel
theorem d_Ru_keeps_14 : decode prog_5_method_4_code 14 = .ok (.iload_n 1, 1) := by decide +kernel
theorem d_Ru_keeps_15 : decode prog_5_method_4_code 15 = .ok (.iaload, 1) := by decide +kernel
theorem d_Ru_keeps_16 : decode prog_5_method_4_code 16 = .ok (.laload, 1) := by decide +kernel
theorem d_Ru_keeps_17 : decode prog_5_method_4_code 17 = .ok (.lstore 5, 2) := by decide +kernel
theorem d_Ru_keeps_19 : decode prog_5_method_4_code 19 = .ok (.aload_n 0, 1) := by decide +kernel
theorem d_Ru_keeps_20 : decode prog_5_method_4_code 20 = .ok (.getfield 24, 3) := by decide +kernel
theorem d_Ru_keeps_23 : decode prog_5_method_4_code 23 = .ok (.iload_n 1, 1) := by decide +kernel
theorem d_Ru_keeps_24 : decode prog_5_method_4_code 24 = .ok (.iaload, 1) := by decide +kernel
theorem d_Ru_keeps_25 : decode prog_5_method_4_code 25 = .ok (.i2l, 1) := by decide +kernel
theorem d_Ru_keeps_26 : decode prog_5_method_4_code 26 = .ok (.lload_n 3, 1) := by decide +kernel
theorem d_Ru_keeps_27 : decode prog_5_method_4_code 27 = .ok (.aload_n 0, 1) := by decide +kernel
theorem d_Ru_keeps_28 : decode prog_5_method_4_code 28 = .ok (.getfield 18, 3) := by decide +kernel
theorem d_Ru_keeps_31 : decode prog_5_method_4_code 31 = .ok (.iload_n 1, 1) := by decide +kernel
theorem d_Ru_keeps_32 : decode prog_5_method_4_code 32 = .ok (.iaload, 1) := by decide +kernel
theorem d_Ru_keeps_33 : decode prog_5_method_4_code 33 = .ok (.i2l, 1) := by decide +kernel
theorem d_Ru_keeps_34 : decode prog_5_method_4_code 34 = .ok (.lload 5, 2) := by decide +kernel
theorem d_Ru_keeps_36 : decode prog_5_method_4_code 36 = .ok (.invokestatic 35, 3) := by decide +kernel
theorem d_Ru_keeps_39 : decode prog_5_method_4_code 39 = .ok (.ifCond .eq 30, 3) := by decide +kernel
theorem d_Ru_keeps_42 : decode prog_5_method_4_code 42 = .ok (.aload_n 0, 1) := by decide +kernel
theorem d_Ru_keeps_43 : decode prog_5_method_4_code 43 = .ok (.getfield 21, 3) := by decide +kernel
theorem d_Ru_keeps_46 : decode prog_5_method_4_code 46 = .ok (.iload_n 1, 1) := by decide +kernel
theorem d_Ru_keeps_47 : decode prog_5_method_4_code 47 = .ok (.iaload, 1) := by decide +kernel
theorem d_Ru_keeps_48 : decode prog_5_method_4_code 48 = .ok (.i2l, 1) := by decide +kernel
theorem d_Ru_keeps_49 : decode prog_5_method_4_code 49 = .ok (.lload 5, 2) := by decide +kernel
theorem d_Ru_keeps_51 : decode prog_5_method_4_code 51 = .ok (.aload_n 0, 1) := by decide +kernel
theorem d_Ru_keeps_52 : decode prog_5_method_4_code 52 = .ok (.getfield 24, 3) := by decide +kernel
theorem d_Ru_keeps_55 : decode prog_5_method_4_code 55 = .ok (.iload_n 1, 1) := by decide +kernel
theorem d_Ru_keeps_56 : decode prog_5_method_4_code 56 = .ok (.iaload, 1) := by decide +kernel
theorem d_Ru_keeps_57 : decode prog_5_method_4_code 57 = .ok (.i2l, 1) := by decide +kernel
theorem d_Ru_keeps_58 : decode prog_5_method_4_code 58 = .ok (.lload_n 3, 1) := by decide +kernel
theorem d_Ru_keeps_59 : decode prog_5_method_4_code 59 = .ok (.invokestatic 35, 3) := by decide +kernel
theorem d_Ru_keeps_62 : decode prog_5_method_4_code 62 = .ok (.ifCond .eq 7, 3) := by decide +kernel
theorem d_Ru_keeps_65 : decode prog_5_method_4_code 65 = .ok (.iconst 1, 1) := by decide +kernel
theorem d_Ru_keeps_66 : decode prog_5_method_4_code 66 = .ok (.goto 4, 3) := by decide +kernel
theorem d_Ru_keeps_69 : decode prog_5_method_4_code 69 = .ok (.iconst 0, 1) := by decide +kernel
theorem d_Ru_keeps_70 : decode prog_5_method_4_code 70 = .ok (.ireturn, 1) := by decide +kernel
theorem d_Ru_atLeast_0 : decode prog_5_method_5_code 0 = .ok (.lload_n 0, 1) := by decide +kernel
theorem d_Ru_atLeast_1 : decode prog_5_method_5_code 1 = .ok (.lload_n 2, 1) := by decide +kernel
theorem d_Ru_atLeast_2 : decode prog_5_method_5_code 2 = .ok (.bipush 20, 2) := by decide +kernel
theorem d_Ru_atLeast_4 : decode prog_5_method_5_code 4 = .ok (.lshr, 1) := by decide +kernel
theorem d_Ru_atLeast_5 : decode prog_5_method_5_code 5 = .ok (.lmul, 1) := by decide +kernel
theorem d_Ru_atLeast_6 : decode prog_5_method_5_code 6 = .ok (.lload 4, 2) := by decide +kernel
theorem d_Ru_atLeast_8 : decode prog_5_method_5_code 8 = .ok (.lload 6, 2) := by decide +kernel
theorem d_Ru_atLeast_10 : decode prog_5_method_5_code 10 = .ok (.bipush 20, 2) := by decide +kernel
theorem d_Ru_atLeast_12 : decode prog_5_method_5_code 12 = .ok (.lshr, 1) := by decide +kernel
theorem d_Ru_atLeast_13 : decode prog_5_method_5_code 13 = .ok (.lmul, 1) := by decide +kernel
theorem d_Ru_atLeast_14 : decode prog_5_method_5_code 14 = .ok (.lsub, 1) := by decide +kernel
theorem d_Ru_atLeast_15 : decode prog_5_method_5_code 15 = .ok (.lstore 8, 2) := by decide +kernel
theorem d_Ru_atLeast_17 : decode prog_5_method_5_code 17 = .ok (.lload_n 0, 1) := by decide +kernel
theorem d_Ru_atLeast_18 : decode prog_5_method_5_code 18 = .ok (.lload_n 2, 1) := by decide +kernel
theorem d_Ru_atLeast_19 : decode prog_5_method_5_code 19 = .ok (.ldc2_w 39, 3) := by decide +kernel
theorem d_Ru_atLeast_22 : decode prog_5_method_5_code 22 = .ok (.land, 1) := by decide +kernel
theorem d_Ru_atLeast_23 : decode prog_5_method_5_code 23 = .ok (.lmul, 1) := by decide +kernel
theorem d_Ru_atLeast_24 : decode prog_5_method_5_code 24 = .ok (.lload 4, 2) := by decide +kernel
theorem d_Ru_atLeast_26 : decode prog_5_method_5_code 26 = .ok (.lload 6, 2) := by decide +kernel
theorem d_Ru_atLeast_28 : decode prog_5_method_5_code 28 = .ok (.ldc2_w 39, 3) := by decide +kernel
theorem d_Ru_atLeast_31 : decode prog_5_method_5_code 31 = .ok (.land, 1) := by decide +kernel
theorem d_Ru_atLeast_32 : decode prog_5_method_5_code 32 = .ok (.lmul, 1) := by decide +kernel
theorem d_Ru_atLeast_33 : decode prog_5_method_5_code 33 = .ok (.lsub, 1) := by decide +kernel
theorem d_Ru_atLeast_34 : decode prog_5_method_5_code 34 = .ok (.lstore 10, 2) := by decide +kernel
theorem d_Ru_atLeast_36 : decode prog_5_method_5_code 36 = .ok (.lload 8, 2) := by decide +kernel
theorem d_Ru_atLeast_38 : decode prog_5_method_5_code 38 = .ok (.lload 10, 2) := by decide +kernel
theorem d_Ru_atLeast_40 : decode prog_5_method_5_code 40 = .ok (.bipush 20, 2) := by decide +kernel
theorem d_Ru_atLeast_42 : decode prog_5_method_5_code 42 = .ok (.lshr, 1) := by decide +kernel
theorem d_Ru_atLeast_43 : decode prog_5_method_5_code 43 = .ok (.ladd, 1) := by decide +kernel
theorem d_Ru_atLeast_44 : decode prog_5_method_5_code 44 = .ok (.lconst 0, 1) := by decide +kernel
theorem d_Ru_atLeast_45 : decode prog_5_method_5_code 45 = .ok (.lcmp, 1) := by decide +kernel
theorem d_Ru_atLeast_46 : decode prog_5_method_5_code 46 = .ok (.ifCond .lt 7, 3) := by decide +kernel
theorem d_Ru_atLeast_49 : decode prog_5_method_5_code 49 = .ok (.iconst 1, 1) := by decide +kernel
theorem d_Ru_atLeast_50 : decode prog_5_method_5_code 50 = .ok (.goto 4, 3) := by decide +kernel
theorem d_Ru_atLeast_53 : decode prog_5_method_5_code 53 = .ok (.iconst 0, 1) := by decide +kernel
theorem d_Ru_atLeast_54 : decode prog_5_method_5_code 54 = .ok (.ireturn, 1) := by decide +kernel
theorem d_Si_init_0 : decode prog_6_method_1_code 0 = .ok (.aload_n 0, 1) := by decide +kernel
theorem d_Si_init_1 : decode prog_6_method_1_code 1 = .ok (.invokespecial 3, 3) := by decide +kernel
theorem d_Si_init_4 : decode prog_6_method_1_code 4 = .ok (.aload_n 0, 1) := by decide +kernel
theorem d_Si_init_5 : decode prog_6_method_1_code 5 = .ok (.bipush 8, 2) := by decide +kernel
theorem d_Si_init_7 : decode prog_6_method_1_code 7 = .ok (.newarray .int, 2) := by decide +kernel
theorem d_Si_init_9 : decode prog_6_method_1_code 9 = .ok (.putfield 9, 3) := by decide +kernel
theorem d_Si_init_12 : decode prog_6_method_1_code 12 = .ok (.aload_n 0, 1) := by decide +kernel
theorem d_Si_init_13 : decode prog_6_method_1_code 13 = .ok (.bipush 16, 2) := by decide +kernel
theorem d_Si_init_15 : decode prog_6_method_1_code 15 = .ok (.iconst 5, 1) := by decide +kernel
theorem d_Si_init_16 : decode prog_6_method_1_code 16 = .ok (.multianewarray 15 2, 4) := by decide +kernel
theorem d_Si_init_20 : decode prog_6_method_1_code 20 = .ok (.putfield 17, 3) := by decide +kernel
theorem d_Si_init_23 : decode prog_6_method_1_code 23 = .ok (.return_, 1) := by decide +kernel
theorem d_Si_build_0 : decode prog_6_method_2_code 0 = .ok (.aload_n 0, 1) := by decide +kernel
theorem d_Si_build_1 : decode prog_6_method_2_code 1 = .ok (.iconst 0, 1) := by decide +kernel
theorem d_Si_build_2 : decode prog_6_method_2_code 2 = .ok (.putfield 20, 3) := by decide +kernel
theorem d_Si_build_5 : decode prog_6_method_2_code 5 = .ok (.iconst 0, 1) := by decide +kernel
theorem d_Si_build_6 : decode prog_6_method_2_code 6 = .ok (.istore_n 3, 1) := by decide +kernel
theorem d_Si_build_7 : decode prog_6_method_2_code 7 = .ok (.iload_n 3, 1) := by decide +kernel
theorem d_Si_build_8 : decode prog_6_method_2_code 8 = .ok (.bipush 8, 2) := by decide +kernel
theorem d_Si_build_10 : decode prog_6_method_2_code 10 = .ok (.if_icmp .ge 65, 3) := by decide +kernel
theorem d_Si_build_13 : decode prog_6_method_2_code 13 = .ok (.aload_n 2, 1) := by decide +kernel
theorem d_Si_build_14 : decode prog_6_method_2_code 14 = .ok (.iload_n 3, 1) := by decide +kernel
theorem d_Si_build_15 : decode prog_6_method_2_code 15 = .ok (.invokevirtual 24, 3) := by decide +kernel
theorem d_Si_build_18 : decode prog_6_method_2_code 18 = .ok (.ifCond .eq 51, 3) := by decide +kernel
theorem d_Si_build_21 : decode prog_6_method_2_code 21 = .ok (.aload_n 0, 1) := by decide +kernel
theorem d_Si_build_22 : decode prog_6_method_2_code 22 = .ok (.getfield 9, 3) := by decide +kernel
theorem d_Si_build_25 : decode prog_6_method_2_code 25 = .ok (.aload_n 0, 1) := by decide +kernel
theorem d_Si_build_26 : decode prog_6_method_2_code 26 = .ok (.getfield 20, 3) := by decide +kernel
theorem d_Si_build_29 : decode prog_6_method_2_code 29 = .ok (.iload_n 3, 1) := by decide +kernel
theorem d_Si_build_30 : decode prog_6_method_2_code 30 = .ok (.iastore, 1) := by decide +kernel
theorem d_Si_build_31 : decode prog_6_method_2_code 31 = .ok (.aload_n 0, 1) := by decide +kernel
theorem d_Si_build_32 : decode prog_6_method_2_code 32 = .ok (.aload_n 1, 1) := by decide +kernel
theorem d_Si_build_33 : decode prog_6_method_2_code 33 = .ok (.getfield 30, 3) := by decide +kernel
theorem d_Si_build_36 : decode prog_6_method_2_code 36 = .ok (.aload_n 2, 1) := by decide +kernel
theorem d_Si_build_37 : decode prog_6_method_2_code 37 = .ok (.getfield 35, 3) := by decide +kernel
theorem d_Si_build_40 : decode prog_6_method_2_code 40 = .ok (.iload_n 3, 1) := by decide +kernel
theorem d_Si_build_41 : decode prog_6_method_2_code 41 = .ok (.iaload, 1) := by decide +kernel
theorem d_Si_build_42 : decode prog_6_method_2_code 42 = .ok (.aaload, 1) := by decide +kernel
theorem d_Si_build_43 : decode prog_6_method_2_code 43 = .ok (.aload_n 1, 1) := by decide +kernel
theorem d_Si_build_44 : decode prog_6_method_2_code 44 = .ok (.getfield 30, 3) := by decide +kernel
theorem d_Si_build_47 : decode prog_6_method_2_code 47 = .ok (.aload_n 2, 1) := by decide +kernel
theorem d_Si_build_48 : decode prog_6_method_2_code 48 = .ok (.getfield 38, 3) := by decide +kernel
theorem d_Si_build_51 : decode prog_6_method_2_code 51 = .ok (.iload_n 3, 1) := by decide +kernel
theorem d_Si_build_52 : decode prog_6_method_2_code 52 = .ok (.iaload, 1) := by decide +kernel
theorem d_Si_build_53 : decode prog_6_method_2_code 53 = .ok (.aaload, 1) := by decide +kernel
theorem d_Si_build_54 : decode prog_6_method_2_code 54 = .ok (.aload_n 2, 1) := by decide +kernel
theorem d_Si_build_55 : decode prog_6_method_2_code 55 = .ok (.iload_n 3, 1) := by decide +kernel
theorem d_Si_build_56 : decode prog_6_method_2_code 56 = .ok (.invokevirtual 41, 3) := by decide +kernel
theorem d_Si_build_59 : decode prog_6_method_2_code 59 = .ok (.aload_n 0, 1) := by decide +kernel
theorem d_Si_build_60 : decode prog_6_method_2_code 60 = .ok (.dup, 1) := by decide +kernel
theorem d_Si_build_61 : decode prog_6_method_2_code 61 = .ok (.getfield 20, 3) := by decide +kernel
theorem d_Si_build_64 : decode prog_6_method_2_code 64 = .ok (.iconst 1, 1) := by decide +kernel
theorem d_Si_build_65 : decode prog_6_method_2_code 65 = .ok (.iadd, 1) := by decide +kernel
theorem d_Si_build_66 : decode prog_6_method_2_code 66 = .ok (.putfield 20, 3) := by decide +kernel
theorem d_Si_build_69 : decode prog_6_method_2_code 69 = .ok (.iinc 3 1, 3) := by decide +kernel
theorem d_Si_build_72 : decode prog_6_method_2_code 72 = .ok (.goto (-65), 3) := by decide +kernel
theorem d_Si_build_75 : decode prog_6_method_2_code 75 = .ok (.return_, 1) := by decide +kernel
theorem d_Si_fill_0 : decode prog_6_method_3_code 0 = .ok (.aload_n 0, 1) := by decide +kernel
theorem d_Si_fill_1 : decode prog_6_method_3_code 1 = .ok (.getfield 17, 3) := by decide +kernel
theorem d_Si_fill_4 : decode prog_6_method_3_code 4 = .ok (.iconst 2, 1) := by decide +kernel
theorem d_Si_fill_5 : decode prog_6_method_3_code 5 = .ok (.aload_n 0, 1) := by decide +kernel
theorem d_Si_fill_6 : decode prog_6_method_3_code 6 = .ok (.getfield 20, 3) := by decide +kernel
theorem d_Si_fill_9 : decode prog_6_method_3_code 9 = .ok (.imul, 1) := by decide +kernel
theorem d_Si_fill_10 : decode prog_6_method_3_code 10 = .ok (.aaload, 1) := by decide +kernel
theorem d_Si_fill_11 : decode prog_6_method_3_code 11 = .ok (.astore 5, 2) := by decide +kernel
theorem d_Si_fill_13 : decode prog_6_method_3_code 13 = .ok (.aload_n 0, 1) := by decide +kernel
theorem d_Si_fill_14 : decode prog_6_method_3_code 14 = .ok (.getfield 17, 3) := by decide +kernel
theorem d_Si_fill_17 : decode prog_6_method_3_code 17 = .ok (.iconst 2, 1) := by decide +kernel
theorem d_Si_fill_18 : decode prog_6_method_3_code 18 = .ok (.aload_n 0, 1) := by decide +kernel
theorem d_Si_fill_19 : decode prog_6_method_3_code 19 = .ok (.getfield 20, 3) := by decide +kernel
theorem d_Si_fill_22 : decode prog_6_method_3_code 22 = .ok (.imul, 1) := by decide +kernel
theorem d_Si_fill_23 : decode prog_6_method_3_code 23 = .ok (.iconst 1, 1) := by decide +kernel
theorem d_Si_fill_24 : decode prog_6_method_3_code 24 = .ok (.iadd, 1) := by decide +kernel
theorem d_Si_fill_25 : decode prog_6_method_3_code 25 = .ok (.aaload, 1) := by decide +kernel
theorem d_Si_fill_26 : decode prog_6_method_3_code 26 = .ok (.astore 6, 2) := by decide +kernel
theorem d_Si_fill_28 : decode prog_6_method_3_code 28 = .ok (.iconst 0, 1) := by decide +kernel
theorem d_Si_fill_29 : decode prog_6_method_3_code 29 = .ok (.istore 7, 2) := by decide +kernel
theorem d_Si_fill_31 : decode prog_6_method_3_code 31 = .ok (.iload 7, 2) := by decide +kernel
theorem d_Si_fill_33 : decode prog_6_method_3_code 33 = .ok (.iconst 5, 1) := by decide +kernel
theorem d_Si_fill_34 : decode prog_6_method_3_code 34 = .ok (.if_icmp .ge 66, 3) := by decide +kernel
theorem d_Si_fill_37 : decode prog_6_method_3_code 37 = .ok (.aload_n 3, 1) := by decide +kernel
theorem d_Si_fill_38 : decode prog_6_method_3_code 38 = .ok (.getfield 45, 3) := by decide +kernel
theorem d_Si_fill_41 : decode prog_6_method_3_code 41 = .ok (.iload 4, 2) := by decide +kernel
theorem d_Si_fill_43 : decode prog_6_method_3_code 43 = .ok (.iaload, 1) := by decide +kernel
theorem d_Si_fill_44 : decode prog_6_method_3_code 44 = .ok (.i2l, 1) := by decide +kernel
theorem d_Si_fill_45 : decode prog_6_method_3_code 45 = .ok (.aload_n 1, 1) := by decide +kernel
theorem d_Si_fill_46 : decode prog_6_method_3_code 46 = .ok (.iload 7, 2) := by decide +kernel
theorem d_Si_fill_48 : decode prog_6_method_3_code 48 = .ok (.laload, 1) := by decide +kernel
theorem d_Si_fill_49 : decode prog_6_method_3_code 49 = .ok (.lmul, 1) := by decide +kernel
theorem d_Si_fill_50 : decode prog_6_method_3_code 50 = .ok (.lstore 8, 2) := by decide +kernel
theorem d_Si_fill_52 : decode prog_6_method_3_code 52 = .ok (.aload 5, 2) := by decide +kernel
theorem d_Si_fill_54 : decode prog_6_method_3_code 54 = .ok (.iload 7, 2) := by decide +kernel
theorem d_Si_fill_56 : decode prog_6_method_3_code 56 = .ok (.lload 8, 2) := by decide +kernel
theorem d_Si_fill_58 : decode prog_6_method_3_code 58 = .ok (.aload_n 3, 1) := by decide +kernel
theorem d_Si_fill_59 : decode prog_6_method_3_code 59 = .ok (.getfield 48, 3) := by decide +kernel
theorem d_Si_fill_62 : decode prog_6_method_3_code 62 = .ok (.iload 4, 2) := by decide +kernel
theorem d_Si_fill_64 : decode prog_6_method_3_code 64 = .ok (.iaload, 1) := by decide +kernel
theorem d_Si_fill_65 : decode prog_6_method_3_code 65 = .ok (.i2l, 1) := by decide +kernel
theorem d_Si_fill_66 : decode prog_6_method_3_code 66 = .ok (.aload_n 2, 1) := by decide +kernel
theorem d_Si_fill_67 : decode prog_6_method_3_code 67 = .ok (.iload 7, 2) := by decide +kernel
theorem d_Si_fill_69 : decode prog_6_method_3_code 69 = .ok (.laload, 1) := by decide +kernel
theorem d_Si_fill_70 : decode prog_6_method_3_code 70 = .ok (.lmul, 1) := by decide +kernel
theorem d_Si_fill_71 : decode prog_6_method_3_code 71 = .ok (.lsub, 1) := by decide +kernel
theorem d_Si_fill_72 : decode prog_6_method_3_code 72 = .ok (.lastore, 1) := by decide +kernel
theorem d_Si_fill_73 : decode prog_6_method_3_code 73 = .ok (.aload 6, 2) := by decide +kernel
theorem d_Si_fill_75 : decode prog_6_method_3_code 75 = .ok (.iload 7, 2) := by decide +kernel
theorem d_Si_fill_77 : decode prog_6_method_3_code 77 = .ok (.aload_n 3, 1) := by decide +kernel
theorem d_Si_fill_78 : decode prog_6_method_3_code 78 = .ok (.getfield 51, 3) := by decide +kernel
theorem d_Si_fill_81 : decode prog_6_method_3_code 81 = .ok (.iload 4, 2) := by decide +kernel
theorem d_Si_fill_83 : decode prog_6_method_3_code 83 = .ok (.iaload, 1) := by decide +kernel
theorem d_Si_fill_84 : decode prog_6_method_3_code 84 = .ok (.i2l, 1) := by decide +kernel
theorem d_Si_fill_85 : decode prog_6_method_3_code 85 = .ok (.aload_n 2, 1) := by decide +kernel
theorem d_Si_fill_86 : decode prog_6_method_3_code 86 = .ok (.iload 7, 2) := by decide +kernel
theorem d_Si_fill_88 : decode prog_6_method_3_code 88 = .ok (.laload, 1) := by decide +kernel
theorem d_Si_fill_89 : decode prog_6_method_3_code 89 = .ok (.lmul, 1) := by decide +kernel
theorem d_Si_fill_90 : decode prog_6_method_3_code 90 = .ok (.lload 8, 2) := by decide +kernel
theorem d_Si_fill_92 : decode prog_6_method_3_code 92 = .ok (.lsub, 1) := by decide +kernel
theorem d_Si_fill_93 : decode prog_6_method_3_code 93 = .ok (.lastore, 1) := by decide +kernel
theorem d_Si_fill_94 : decode prog_6_method_3_code 94 = .ok (.iinc 7 1, 3) := by decide +kernel
theorem d_Si_fill_97 : decode prog_6_method_3_code 97 = .ok (.goto (-66), 3) := by decide +kernel
theorem d_Si_fill_100 : decode prog_6_method_3_code 100 = .ok (.return_, 1) := by decide +kernel
theorem d_Fo_init_0 : decode prog_3_method_1_code 0 = .ok (.aload_n 0, 1) := by decide +kernel
theorem d_Fo_init_1 : decode prog_3_method_1_code 1 = .ok (.invokespecial 3, 3) := by decide +kernel
theorem d_Fo_init_4 : decode prog_3_method_1_code 4 = .ok (.aload_n 0, 1) := by decide +kernel
theorem d_Fo_init_5 : decode prog_3_method_1_code 5 = .ok (.iconst 4, 1) := by decide +kernel
theorem d_Fo_init_6 : decode prog_3_method_1_code 6 = .ok (.newarray .int, 2) := by decide +kernel
theorem d_Fo_init_8 : decode prog_3_method_1_code 8 = .ok (.putfield 9, 3) := by decide +kernel
theorem d_Fo_init_11 : decode prog_3_method_1_code 11 = .ok (.return_, 1) := by decide +kernel
theorem d_Fo_takeCut_0 : decode prog_3_method_2_code 0 = .ok (.aload_n 1, 1) := by decide +kernel
theorem d_Fo_takeCut_1 : decode prog_3_method_2_code 1 = .ok (.invokevirtual 15, 3) := by decide +kernel
theorem d_Fo_takeCut_4 : decode prog_3_method_2_code 4 = .ok (.lstore_n 2, 1) := by decide +kernel
theorem d_Fo_takeCut_5 : decode prog_3_method_2_code 5 = .ok (.aload_n 0, 1) := by decide +kernel
theorem d_Fo_takeCut_6 : decode prog_3_method_2_code 6 = .ok (.aload_n 1, 1) := by decide +kernel
theorem d_Fo_takeCut_7 : decode prog_3_method_2_code 7 = .ok (.getfield 21, 3) := by decide +kernel
theorem d_Fo_takeCut_10 : decode prog_3_method_2_code 10 = .ok (.putfield 25, 3) := by decide +kernel
theorem d_Fo_takeCut_13 : decode prog_3_method_2_code 13 = .ok (.lload_n 2, 1) := by decide +kernel
theorem d_Fo_takeCut_14 : decode prog_3_method_2_code 14 = .ok (.lconst 0, 1) := by decide +kernel
theorem d_Fo_takeCut_15 : decode prog_3_method_2_code 15 = .ok (.lcmp, 1) := by decide +kernel
theorem d_Fo_takeCut_16 : decode prog_3_method_2_code 16 = .ok (.ifCond .le 23, 3) := by decide +kernel
theorem d_Fo_takeCut_19 : decode prog_3_method_2_code 19 = .ok (.aload_n 0, 1) := by decide +kernel
theorem d_Fo_takeCut_20 : decode prog_3_method_2_code 20 = .ok (.aload_n 1, 1) := by decide +kernel
theorem d_Fo_takeCut_21 : decode prog_3_method_2_code 21 = .ok (.getfield 28, 3) := by decide +kernel
theorem d_Fo_takeCut_24 : decode prog_3_method_2_code 24 = .ok (.lload_n 2, 1) := by decide +kernel
theorem d_Fo_takeCut_25 : decode prog_3_method_2_code 25 = .ok (.ldiv, 1) := by decide +kernel
theorem d_Fo_takeCut_26 : decode prog_3_method_2_code 26 = .ok (.putfield 32, 3) := by decide +kernel
theorem d_Fo_takeCut_29 : decode prog_3_method_2_code 29 = .ok (.aload_n 0, 1) := by decide +kernel
theorem d_Fo_takeCut_30 : decode prog_3_method_2_code 30 = .ok (.aload_n 1, 1) := by decide +kernel
theorem d_Fo_takeCut_31 : decode prog_3_method_2_code 31 = .ok (.getfield 33, 3) := by decide +kernel
theorem d_Fo_takeCut_34 : decode prog_3_method_2_code 34 = .ok (.lload_n 2, 1) := by decide +kernel
theorem d_Fo_takeCut_35 : decode prog_3_method_2_code 35 = .ok (.ldiv, 1) := by decide +kernel
theorem d_Fo_takeCut_36 : decode prog_3_method_2_code 36 = .ok (.putfield 36, 3) := by decide +kernel
theorem d_Fo_takeCut_39 : decode prog_3_method_2_code 39 = .ok (.aload_n 0, 1) := by decide +kernel
theorem d_Fo_takeCut_40 : decode prog_3_method_2_code 40 = .ok (.aload_n 1, 1) := by decide +kernel
theorem d_Fo_takeCut_41 : decode prog_3_method_2_code 41 = .ok (.getfield 21, 3) := by decide +kernel
theorem d_Fo_takeCut_44 : decode prog_3_method_2_code 44 = .ok (.ifCond .eq 7, 3) := by decide +kernel
theorem d_Fo_takeCut_47 : decode prog_3_method_2_code 47 = .ok (.iconst 0, 1) := by decide +kernel
theorem d_Fo_takeCut_48 : decode prog_3_method_2_code 48 = .ok (.goto 7, 3) := by decide +kernel
theorem d_Fo_takeCut_51 : decode prog_3_method_2_code 51 = .ok (.aload_n 1, 1) := by decide +kernel
theorem d_Fo_takeCut_52 : decode prog_3_method_2_code 52 = .ok (.invokevirtual 37, 3) := by decide +kernel
theorem d_Fo_takeCut_55 : decode prog_3_method_2_code 55 = .ok (.putfield 41, 3) := by decide +kernel
theorem d_Fo_takeCut_58 : decode prog_3_method_2_code 58 = .ok (.return_, 1) := by decide +kernel
theorem d_Fo_takeWhole_0 : decode prog_3_method_3_code 0 = .ok (.aload_n 0, 1) := by decide +kernel
theorem d_Fo_takeWhole_1 : decode prog_3_method_3_code 1 = .ok (.aload_n 1, 1) := by decide +kernel
theorem d_Fo_takeWhole_2 : decode prog_3_method_3_code 2 = .ok (.getfield 45, 3) := by decide +kernel
theorem d_Fo_takeWhole_5 : decode prog_3_method_3_code 5 = .ok (.putfield 48, 3) := by decide +kernel
theorem d_Fo_takeWhole_8 : decode prog_3_method_3_code 8 = .ok (.aload_n 0, 1) := by decide +kernel
theorem d_Fo_takeWhole_9 : decode prog_3_method_3_code 9 = .ok (.iload_n 2, 1) := by decide +kernel
theorem d_Fo_takeWhole_10 : decode prog_3_method_3_code 10 = .ok (.putfield 51, 3) := by decide +kernel
theorem d_Fo_takeWhole_13 : decode prog_3_method_3_code 13 = .ok (.aload_n 0, 1) := by decide +kernel
theorem d_Fo_takeWhole_14 : decode prog_3_method_3_code 14 = .ok (.aload_n 1, 1) := by decide +kernel
theorem d_Fo_takeWhole_15 : decode prog_3_method_3_code 15 = .ok (.getfield 54, 3) := by decide +kernel
theorem d_Fo_takeWhole_18 : decode prog_3_method_3_code 18 = .ok (.putfield 57, 3) := by decide +kernel
theorem d_Fo_takeWhole_21 : decode prog_3_method_3_code 21 = .ok (.iconst 0, 1) := by decide +kernel
theorem d_Fo_takeWhole_22 : decode prog_3_method_3_code 22 = .ok (.istore_n 3, 1) := by decide +kernel
theorem d_Fo_takeWhole_23 : decode prog_3_method_3_code 23 = .ok (.iload_n 3, 1) := by decide +kernel
theorem d_Fo_takeWhole_24 : decode prog_3_method_3_code 24 = .ok (.iconst 4, 1) := by decide +kernel
theorem d_Fo_takeWhole_25 : decode prog_3_method_3_code 25 = .ok (.if_icmp .ge 21, 3) := by decide +kernel
theorem d_Fo_takeWhole_28 : decode prog_3_method_3_code 28 = .ok (.aload_n 0, 1) := by decide +kernel
theorem d_Fo_takeWhole_29 : decode prog_3_method_3_code 29 = .ok (.getfield 9, 3) := by decide +kernel
theorem d_Fo_takeWhole_32 : decode prog_3_method_3_code 32 = .ok (.iload_n 3, 1) := by decide +kernel
theorem d_Fo_takeWhole_33 : decode prog_3_method_3_code 33 = .ok (.aload_n 1, 1) := by decide +kernel
theorem d_Fo_takeWhole_34 : decode prog_3_method_3_code 34 = .ok (.getfield 58, 3) := by decide +kernel
theorem d_Fo_takeWhole_37 : decode prog_3_method_3_code 37 = .ok (.iload_n 3, 1) := by decide +kernel
theorem d_Fo_takeWhole_38 : decode prog_3_method_3_code 38 = .ok (.iaload, 1) := by decide +kernel
theorem d_Fo_takeWhole_39 : decode prog_3_method_3_code 39 = .ok (.iastore, 1) := by decide +kernel
theorem d_Fo_takeWhole_40 : decode prog_3_method_3_code 40 = .ok (.iinc 3 1, 3) := by decide +kernel
theorem d_Fo_takeWhole_43 : decode prog_3_method_3_code 43 = .ok (.goto (-20), 3) := by decide +kernel
theorem d_Fo_takeWhole_46 : decode prog_3_method_3_code 46 = .ok (.return_, 1) := by decide +kernel
