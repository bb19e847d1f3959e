theorem d_Mo_init_0 : decode prog_9_method_1_code 0 = .ok (.aload_n 0, 1) := by decide +kernel
theorem d_Mo_init_1 : decode prog_9_method_1_code 1 = .ok (.invokespecial 1, 3) := by decide +kernel
theorem d_Mo_init_4 : decode prog_9_method_1_code 4 = .ok (.aload_n 0, 1) := by decide +kernel
theorem d_Mo_init_5 : decode prog_9_method_1_code 5 = .ok (.iconst 4, 1) := by decide +kernel
theorem d_Mo_init_6 : decode prog_9_method_1_code 6 = .ok (.newarray .int, 2) := by decide +kernel
theorem d_Mo_init_8 : decode prog_9_method_1_code 8 = .ok (.putfield 7, 3) := by decide +kernel
theorem d_Mo_init_11 : decode prog_9_method_1_code 11 = .ok (.aload_n 0, 1) := by decide +kernel
theorem d_Mo_init_12 : decode prog_9_method_1_code 12 = .ok (.iconst 4, 1) := by decide +kernel
theorem d_Mo_init_13 : decode prog_9_method_1_code 13 = .ok (.newarray .int, 2) := by decide +kernel
theorem d_Mo_init_15 : decode prog_9_method_1_code 15 = .ok (.putfield 13, 3) := by decide +kernel
theorem d_Mo_init_18 : decode prog_9_method_1_code 18 = .ok (.aload_n 0, 1) := by decide +kernel
theorem d_Mo_init_19 : decode prog_9_method_1_code 19 = .ok (.bipush 20, 2) := by decide +kernel
theorem d_Mo_init_21 : decode prog_9_method_1_code 21 = .ok (.newarray .int, 2) := by decide +kernel
theorem d_Mo_init_23 : decode prog_9_method_1_code 23 = .ok (.putfield 16, 3) := by decide +kernel
theorem d_Mo_init_26 : decode prog_9_method_1_code 26 = .ok (.aload_n 0, 1) := by decide +kernel
theorem d_Mo_init_27 : decode prog_9_method_1_code 27 = .ok (.bipush 8, 2) := by decide +kernel
theorem d_Mo_init_29 : decode prog_9_method_1_code 29 = .ok (.newarray .boolean, 2) := by decide +kernel
theorem d_Mo_init_31 : decode prog_9_method_1_code 31 = .ok (.putfield 19, 3) := by decide +kernel
theorem d_Mo_init_34 : decode prog_9_method_1_code 34 = .ok (.aload_n 0, 1) := by decide +kernel
theorem d_Mo_init_35 : decode prog_9_method_1_code 35 = .ok (.bipush 8, 2) := by decide +kernel
theorem d_Mo_init_37 : decode prog_9_method_1_code 37 = .ok (.newarray .int, 2) := by decide +kernel
theorem d_Mo_init_39 : decode prog_9_method_1_code 39 = .ok (.putfield 23, 3) := by decide +kernel
theorem d_Mo_init_42 : decode prog_9_method_1_code 42 = .ok (.aload_n 0, 1) := by decide +kernel
theorem d_Mo_init_43 : decode prog_9_method_1_code 43 = .ok (.bipush 8, 2) := by decide +kernel
theorem d_Mo_init_45 : decode prog_9_method_1_code 45 = .ok (.newarray .int, 2) := by decide +kernel
theorem d_Mo_init_47 : decode prog_9_method_1_code 47 = .ok (.putfield 26, 3) := by decide +kernel
theorem d_Mo_init_50 : decode prog_9_method_1_code 50 = .ok (.aload_n 0, 1) := by decide +kernel
theorem d_Mo_init_51 : decode prog_9_method_1_code 51 = .ok (.bipush 8, 2) := by decide +kernel
theorem d_Mo_init_53 : decode prog_9_method_1_code 53 = .ok (.newarray .int, 2) := by decide +kernel
theorem d_Mo_init_55 : decode prog_9_method_1_code 55 = .ok (.putfield 29, 3) := by decide +kernel
theorem d_Mo_init_58 : decode prog_9_method_1_code 58 = .ok (.aload_n 0, 1) := by decide +kernel
theorem d_Mo_init_59 : decode prog_9_method_1_code 59 = .ok (.bipush 8, 2) := by decide +kernel
theorem d_Mo_init_61 : decode prog_9_method_1_code 61 = .ok (.newarray .int, 2) := by decide +kernel
theorem d_Mo_init_63 : decode prog_9_method_1_code 63 = .ok (.putfield 32, 3) := by decide +kernel
theorem d_Mo_init_66 : decode prog_9_method_1_code 66 = .ok (.aload_n 0, 1) := by decide +kernel
theorem d_Mo_init_67 : decode prog_9_method_1_code 67 = .ok (.bipush 8, 2) := by decide +kernel
theorem d_Mo_init_69 : decode prog_9_method_1_code 69 = .ok (.newarray .int, 2) := by decide +kernel
theorem d_Mo_init_71 : decode prog_9_method_1_code 71 = .ok (.putfield 35, 3) := by decide +kernel
theorem d_Mo_init_74 : decode prog_9_method_1_code 74 = .ok (.aload_n 0, 1) := by decide +kernel
theorem d_Mo_init_75 : decode prog_9_method_1_code 75 = .ok (.iconst 3, 1) := by decide +kernel
theorem d_Mo_init_76 : decode prog_9_method_1_code 76 = .ok (.putfield 38, 3) := by decide +kernel
theorem d_Mo_init_79 : decode prog_9_method_1_code 79 = .ok (.aload_n 0, 1) := by decide +kernel
theorem d_Mo_init_80 : decode prog_9_method_1_code 80 = .ok (.iconst 4, 1) := by decide +kernel
theorem d_Mo_init_81 : decode prog_9_method_1_code 81 = .ok (.newarray .int, 2) := by decide +kernel
theorem d_Mo_init_83 : decode prog_9_method_1_code 83 = .ok (.putfield 42, 3) := by decide +kernel
theorem d_Mo_init_86 : decode prog_9_method_1_code 86 = .ok (.aload_n 0, 1) := by decide +kernel
theorem d_Mo_init_87 : decode prog_9_method_1_code 87 = .ok (.iconst 4, 1) := by decide +kernel
theorem d_Mo_init_88 : decode prog_9_method_1_code 88 = .ok (.newarray .int, 2) := by decide +kernel
theorem d_Mo_init_90 : decode prog_9_method_1_code 90 = .ok (.putfield 45, 3) := by decide +kernel
theorem d_Mo_init_93 : decode prog_9_method_1_code 93 = .ok (.aload_n 0, 1) := by decide +kernel
theorem d_Mo_init_94 : decode prog_9_method_1_code 94 = .ok (.bipush 120, 2) := by decide +kernel
theorem d_Mo_init_96 : decode prog_9_method_1_code 96 = .ok (.newarray .int, 2) := by decide +kernel
theorem d_Mo_init_98 : decode prog_9_method_1_code 98 = .ok (.putfield 48, 3) := by decide +kernel
theorem d_Mo_init_101 : decode prog_9_method_1_code 101 = .ok (.aload_n 0, 1) := by decide +kernel
theorem d_Mo_init_102 : decode prog_9_method_1_code 102 = .ok (.bipush 24, 2) := by decide +kernel
theorem d_Mo_init_104 : decode prog_9_method_1_code 104 = .ok (.newarray .boolean, 2) := by decide +kernel
theorem d_Mo_init_106 : decode prog_9_method_1_code 106 = .ok (.putfield 51, 3) := by decide +kernel
theorem d_Mo_init_109 : decode prog_9_method_1_code 109 = .ok (.aload_n 0, 1) := by decide +kernel
theorem d_Mo_init_110 : decode prog_9_method_1_code 110 = .ok (.iconst 4, 1) := by decide +kernel
theorem d_Mo_init_111 : decode prog_9_method_1_code 111 = .ok (.newarray .int, 2) := by decide +kernel
theorem d_Mo_init_113 : decode prog_9_method_1_code 113 = .ok (.putfield 54, 3) := by decide +kernel
theorem d_Mo_init_116 : decode prog_9_method_1_code 116 = .ok (.aload_n 0, 1) := by decide +kernel
theorem d_Mo_init_117 : decode prog_9_method_1_code 117 = .ok (.iconst 4, 1) := by decide +kernel
theorem d_Mo_init_118 : decode prog_9_method_1_code 118 = .ok (.newarray .long, 2) := by decide +kernel
theorem d_Mo_init_120 : decode prog_9_method_1_code 120 = .ok (.putfield 57, 3) := by decide +kernel
theorem d_Mo_init_123 : decode prog_9_method_1_code 123 = .ok (.aload_n 0, 1) := by decide +kernel
theorem d_Mo_init_124 : decode prog_9_method_1_code 124 = .ok (.sipush 256, 3) := by decide +kernel
theorem d_Mo_init_127 : decode prog_9_method_1_code 127 = .ok (.newarray .boolean, 2) := by decide +kernel
theorem d_Mo_init_129 : decode prog_9_method_1_code 129 = .ok (.putfield 61, 3) := by decide +kernel
theorem d_Mo_init_132 : decode prog_9_method_1_code 132 = .ok (.return_, 1) := by decide +kernel
theorem d_Mo_isIn_0 : decode prog_9_method_3_code 0 = .ok (.lload_n 0, 1) := by decide +kernel
theorem d_Mo_isIn_1 : decode prog_9_method_3_code 1 = .ok (.lload_n 2, 1) := by decide +kernel
theorem d_Mo_isIn_2 : decode prog_9_method_3_code 2 = .ok (.lcmp, 1) := by decide +kernel
theorem d_Mo_isIn_3 : decode prog_9_method_3_code 3 = .ok (.ifCond .lt 14, 3) := by decide +kernel
theorem d_Mo_isIn_6 : decode prog_9_method_3_code 6 = .ok (.lload_n 0, 1) := by decide +kernel
theorem d_Mo_isIn_7 : decode prog_9_method_3_code 7 = .ok (.lload 4, 2) := by decide +kernel
theorem d_Mo_isIn_9 : decode prog_9_method_3_code 9 = .ok (.lcmp, 1) := by decide +kernel
theorem d_Mo_isIn_10 : decode prog_9_method_3_code 10 = .ok (.ifCond .gt 7, 3) := by decide +kernel
theorem d_Mo_isIn_13 : decode prog_9_method_3_code 13 = .ok (.iconst 1, 1) := by decide +kernel
theorem d_Mo_isIn_14 : decode prog_9_method_3_code 14 = .ok (.goto 4, 3) := by decide +kernel
theorem d_Mo_isIn_17 : decode prog_9_method_3_code 17 = .ok (.iconst 0, 1) := by decide +kernel
theorem d_Mo_isIn_18 : decode prog_9_method_3_code 18 = .ok (.ireturn, 1) := by decide +kernel
theorem d_Mo_isWhat_0 : decode prog_9_method_4_code 0 = .ok (.iload_n 0, 1) := by decide +kernel
theorem d_Mo_isWhat_1 : decode prog_9_method_4_code 1 = .ok (.ifCond .lt 12, 3) := by decide +kernel
theorem d_Mo_isWhat_4 : decode prog_9_method_4_code 4 = .ok (.iload_n 0, 1) := by decide +kernel
theorem d_Mo_isWhat_5 : decode prog_9_method_4_code 5 = .ok (.iconst 5, 1) := by decide +kernel
theorem d_Mo_isWhat_6 : decode prog_9_method_4_code 6 = .ok (.if_icmp .ge 7, 3) := by decide +kernel
theorem d_Mo_isWhat_9 : decode prog_9_method_4_code 9 = .ok (.iconst 1, 1) := by decide +kernel
theorem d_Mo_isWhat_10 : decode prog_9_method_4_code 10 = .ok (.goto 4, 3) := by decide +kernel
theorem d_Mo_isWhat_13 : decode prog_9_method_4_code 13 = .ok (.iconst 0, 1) := by decide +kernel
theorem d_Mo_isWhat_14 : decode prog_9_method_4_code 14 = .ok (.ireturn, 1) := by decide +kernel
theorem d_Mo_lot_0 : decode prog_9_method_5_code 0 = .ok (.aload_n 0, 1) := by decide +kernel
theorem d_Mo_lot_1 : decode prog_9_method_5_code 1 = .ok (.getfield 64, 3) := by decide +kernel
theorem d_Mo_lot_4 : decode prog_9_method_5_code 4 = .ok (.iconst 4, 1) := by decide +kernel
theorem d_Mo_lot_5 : decode prog_9_method_5_code 5 = .ok (.if_icmp .eq 28, 3) := by decide +kernel
theorem d_Mo_lot_8 : decode prog_9_method_5_code 8 = .ok (.iload_n 1, 1) := by decide +kernel
theorem d_Mo_lot_9 : decode prog_9_method_5_code 9 = .ok (.i2l, 1) := by decide +kernel
theorem d_Mo_lot_10 : decode prog_9_method_5_code 10 = .ok (.lconst 0, 1) := by decide +kernel
theorem d_Mo_lot_11 : decode prog_9_method_5_code 11 = .ok (.ldc2_w 67, 3) := by decide +kernel
theorem d_Mo_lot_14 : decode prog_9_method_5_code 14 = .ok (.invokestatic 69, 3) := by decide +kernel
theorem d_Mo_lot_17 : decode prog_9_method_5_code 17 = .ok (.ifCond .eq 16, 3) := by decide +kernel
theorem d_Mo_lot_20 : decode prog_9_method_5_code 20 = .ok (.lload_n 2, 1) := by decide +kernel
theorem d_Mo_lot_21 : decode prog_9_method_5_code 21 = .ok (.ldc2_w 73, 3) := by decide +kernel
theorem d_Mo_lot_24 : decode prog_9_method_5_code 24 = .ok (.ldc2_w 75, 3) := by decide +kernel
theorem d_Mo_lot_27 : decode prog_9_method_5_code 27 = .ok (.invokestatic 69, 3) := by decide +kernel
theorem d_Mo_lot_30 : decode prog_9_method_5_code 30 = .ok (.ifCond .ne 5, 3) := by decide +kernel
theorem d_Mo_lot_33 : decode prog_9_method_5_code 33 = .ok (.iconst (-1), 1) := by decide +kernel
theorem d_Mo_lot_34 : decode prog_9_method_5_code 34 = .ok (.ireturn, 1) := by decide +kernel
theorem d_Mo_lot_35 : decode prog_9_method_5_code 35 = .ok (.aload_n 0, 1) := by decide +kernel
theorem d_Mo_lot_36 : decode prog_9_method_5_code 36 = .ok (.getfield 7, 3) := by decide +kernel
theorem d_Mo_lot_39 : decode prog_9_method_5_code 39 = .ok (.aload_n 0, 1) := by decide +kernel
theorem d_Mo_lot_40 : decode prog_9_method_5_code 40 = .ok (.getfield 64, 3) := by decide +kernel
theorem d_Mo_lot_43 : decode prog_9_method_5_code 43 = .ok (.iload_n 1, 1) := by decide +kernel
theorem d_Mo_lot_44 : decode prog_9_method_5_code 44 = .ok (.iastore, 1) := by decide +kernel
theorem d_Mo_lot_45 : decode prog_9_method_5_code 45 = .ok (.aload_n 0, 1) := by decide +kernel
theorem d_Mo_lot_46 : decode prog_9_method_5_code 46 = .ok (.getfield 13, 3) := by decide +kernel
theorem d_Mo_lot_49 : decode prog_9_method_5_code 49 = .ok (.aload_n 0, 1) := by decide +kernel
theorem d_Mo_lot_50 : decode prog_9_method_5_code 50 = .ok (.getfield 64, 3) := by decide +kernel
theorem d_Mo_lot_53 : decode prog_9_method_5_code 53 = .ok (.lload_n 2, 1) := by decide +kernel
theorem d_Mo_lot_54 : decode prog_9_method_5_code 54 = .ok (.l2i, 1) := by decide +kernel
theorem d_Mo_lot_55 : decode prog_9_method_5_code 55 = .ok (.iastore, 1) := by decide +kernel
theorem d_Mo_lot_56 : decode prog_9_method_5_code 56 = .ok (.aload_n 0, 1) := by decide +kernel
theorem d_Mo_lot_57 : decode prog_9_method_5_code 57 = .ok (.dup, 1) := by decide +kernel
theorem d_Mo_lot_58 : decode prog_9_method_5_code 58 = .ok (.getfield 64, 3) := by decide +kernel
theorem d_Mo_lot_61 : decode prog_9_method_5_code 61 = .ok (.iconst 1, 1) := by decide +kernel
theorem d_Mo_lot_62 : decode prog_9_method_5_code 62 = .ok (.iadd, 1) := by decide +kernel
theorem d_Mo_lot_63 : decode prog_9_method_5_code 63 = .ok (.putfield 64, 3) := by decide +kernel
theorem d_Mo_lot_66 : decode prog_9_method_5_code 66 = .ok (.aload_n 0, 1) := by decide +kernel
theorem d_Mo_lot_67 : decode prog_9_method_5_code 67 = .ok (.getfield 64, 3) := by decide +kernel
theorem d_Mo_lot_70 : decode prog_9_method_5_code 70 = .ok (.iconst 1, 1) := by decide +kernel
theorem d_Mo_lot_71 : decode prog_9_method_5_code 71 = .ok (.isub, 1) := by decide +kernel
theorem d_Mo_lot_72 : decode prog_9_method_5_code 72 = .ok (.ireturn, 1) := by decide +kernel
theorem d_Mo_amount_0 : decode prog_9_method_6_code 0 = .ok (.iload_n 1, 1) := by decide +kernel
theorem d_Mo_amount_1 : decode prog_9_method_6_code 1 = .ok (.ifCond .lt 32, 3) := by decide +kernel
theorem d_Mo_amount_4 : decode prog_9_method_6_code 4 = .ok (.iload_n 1, 1) := by decide +kernel
theorem d_Mo_amount_5 : decode prog_9_method_6_code 5 = .ok (.aload_n 0, 1) := by decide +kernel
theorem d_Mo_amount_6 : decode prog_9_method_6_code 6 = .ok (.getfield 64, 3) := by decide +kernel
theorem d_Mo_amount_9 : decode prog_9_method_6_code 9 = .ok (.if_icmp .ge 24, 3) := by decide +kernel
theorem d_Mo_amount_12 : decode prog_9_method_6_code 12 = .ok (.iload_n 2, 1) := by decide +kernel
theorem d_Mo_amount_13 : decode prog_9_method_6_code 13 = .ok (.invokestatic 77, 3) := by decide +kernel
theorem d_Mo_amount_16 : decode prog_9_method_6_code 16 = .ok (.ifCond .eq 17, 3) := by decide +kernel
theorem d_Mo_amount_19 : decode prog_9_method_6_code 19 = .ok (.iload_n 3, 1) := by decide +kernel
theorem d_Mo_amount_20 : decode prog_9_method_6_code 20 = .ok (.i2l, 1) := by decide +kernel
theorem d_Mo_amount_21 : decode prog_9_method_6_code 21 = .ok (.ldc2_w 81, 3) := by decide +kernel
theorem d_Mo_amount_24 : decode prog_9_method_6_code 24 = .ok (.ldc2_w 83, 3) := by decide +kernel
theorem d_Mo_amount_27 : decode prog_9_method_6_code 27 = .ok (.invokestatic 69, 3) := by decide +kernel
theorem d_Mo_amount_30 : decode prog_9_method_6_code 30 = .ok (.ifCond .ne 5, 3) := by decide +kernel
theorem d_Mo_amount_33 : decode prog_9_method_6_code 33 = .ok (.iconst 0, 1) := by decide +kernel
theorem d_Mo_amount_34 : decode prog_9_method_6_code 34 = .ok (.ireturn, 1) := by decide +kernel
theorem d_Mo_amount_35 : decode prog_9_method_6_code 35 = .ok (.aload_n 0, 1) := by decide +kernel
theorem d_Mo_amount_36 : decode prog_9_method_6_code 36 = .ok (.getfield 16, 3) := by decide +kernel
theorem d_Mo_amount_39 : decode prog_9_method_6_code 39 = .ok (.iconst 5, 1) := by decide +kernel
theorem d_Mo_amount_40 : decode prog_9_method_6_code 40 = .ok (.iload_n 1, 1) := by decide +kernel
theorem d_Mo_amount_41 : decode prog_9_method_6_code 41 = .ok (.imul, 1) := by decide +kernel
theorem d_Mo_amount_42 : decode prog_9_method_6_code 42 = .ok (.iload_n 2, 1) := by decide +kernel
theorem d_Mo_amount_43 : decode prog_9_method_6_code 43 = .ok (.iadd, 1) := by decide +kernel
theorem d_Mo_amount_44 : decode prog_9_method_6_code 44 = .ok (.iload_n 3, 1) := by decide +kernel
theorem d_Mo_amount_45 : decode prog_9_method_6_code 45 = .ok (.iastore, 1) := by decide +kernel
theorem d_Mo_amount_46 : decode prog_9_method_6_code 46 = .ok (.iconst 1, 1) := by decide +kernel
theorem d_Mo_amount_47 : decode prog_9_method_6_code 47 = .ok (.ireturn, 1) := by decide +kernel
theorem d_Mo_tell_0 : decode prog_9_method_7_code 0 = .ok (.aload_n 0, 1) := by decide +kernel
theorem d_Mo_tell_1 : decode prog_9_method_7_code 1 = .ok (.getfield 19, 3) := by decide +kernel
theorem d_Mo_tell_4 : decode prog_9_method_7_code 4 = .ok (.iload_n 1, 1) := by decide +kernel
theorem d_Mo_tell_5 : decode prog_9_method_7_code 5 = .ok (.iconst 1, 1) := by decide +kernel
theorem d_Mo_tell_6 : decode prog_9_method_7_code 6 = .ok (.bastore, 1) := by decide +kernel
theorem d_Mo_tell_7 : decode prog_9_method_7_code 7 = .ok (.aload_n 0, 1) := by decide +kernel
theorem d_Mo_tell_8 : decode prog_9_method_7_code 8 = .ok (.getfield 23, 3) := by decide +kernel
theorem d_Mo_tell_11 : decode prog_9_method_7_code 11 = .ok (.iload_n 1, 1) := by decide +kernel
theorem d_Mo_tell_12 : decode prog_9_method_7_code 12 = .ok (.iload_n 2, 1) := by decide +kernel
theorem d_Mo_tell_13 : decode prog_9_method_7_code 13 = .ok (.iastore, 1) := by decide +kernel
theorem d_Mo_tell_14 : decode prog_9_method_7_code 14 = .ok (.aload_n 0, 1) := by decide +kernel
theorem d_Mo_tell_15 : decode prog_9_method_7_code 15 = .ok (.getfield 26, 3) := by decide +kernel
theorem d_Mo_tell_18 : decode prog_9_method_7_code 18 = .ok (.iload_n 1, 1) := by decide +kernel
theorem d_Mo_tell_19 : decode prog_9_method_7_code 19 = .ok (.iload_n 3, 1) := by decide +kernel
theorem d_Mo_tell_20 : decode prog_9_method_7_code 20 = .ok (.iastore, 1) := by decide +kernel
theorem d_Mo_tell_21 : decode prog_9_method_7_code 21 = .ok (.iconst 1, 1) := by decide +kernel
theorem d_Mo_tell_22 : decode prog_9_method_7_code 22 = .ok (.ireturn, 1) := by decide +kernel
theorem d_Mo_span_0 : decode prog_9_method_8_code 0 = .ok (.iload_n 1, 1) := by decide +kernel
theorem d_Mo_span_1 : decode prog_9_method_8_code 1 = .ok (.invokestatic 77, 3) := by decide +kernel
theorem d_Mo_span_4 : decode prog_9_method_8_code 4 = .ok (.ifCond .eq 43, 3) := by decide +kernel
theorem d_Mo_span_7 : decode prog_9_method_8_code 7 = .ok (.iload_n 2, 1) := by decide +kernel
theorem d_Mo_span_8 : decode prog_9_method_8_code 8 = .ok (.i2l, 1) := by decide +kernel
theorem d_Mo_span_9 : decode prog_9_method_8_code 9 = .ok (.ldc2_w 85, 3) := by decide +kernel
theorem d_Mo_span_12 : decode prog_9_method_8_code 12 = .ok (.iload_n 3, 1) := by decide +kernel
theorem d_Mo_span_13 : decode prog_9_method_8_code 13 = .ok (.i2l, 1) := by decide +kernel
theorem d_Mo_span_14 : decode prog_9_method_8_code 14 = .ok (.invokestatic 69, 3) := by decide +kernel
theorem d_Mo_span_17 : decode prog_9_method_8_code 17 = .ok (.ifCond .eq 30, 3) := by decide +kernel
theorem d_Mo_span_20 : decode prog_9_method_8_code 20 = .ok (.iload_n 3, 1) := by decide +kernel
theorem d_Mo_span_21 : decode prog_9_method_8_code 21 = .ok (.i2l, 1) := by decide +kernel
theorem d_Mo_span_22 : decode prog_9_method_8_code 22 = .ok (.iload_n 2, 1) := by decide +kernel
theorem d_Mo_span_23 : decode prog_9_method_8_code 23 = .ok (.i2l, 1) := by decide +kernel
theorem d_Mo_span_24 : decode prog_9_method_8_code 24 = .ok (.ldc2_w 87, 3) := by decide +kernel
theorem d_Mo_span_27 : decode prog_9_method_8_code 27 = .ok (.invokestatic 69, 3) := by decide +kernel
theorem d_Mo_span_30 : decode prog_9_method_8_code 30 = .ok (.ifCond .eq 17, 3) := by decide +kernel
theorem d_Mo_span_33 : decode prog_9_method_8_code 33 = .ok (.aload_n 0, 1) := by decide +kernel
theorem d_Mo_span_34 : decode prog_9_method_8_code 34 = .ok (.iload_n 1, 1) := by decide +kernel
theorem d_Mo_span_35 : decode prog_9_method_8_code 35 = .ok (.iload_n 2, 1) := by decide +kernel
theorem d_Mo_span_36 : decode prog_9_method_8_code 36 = .ok (.iload_n 3, 1) := by decide +kernel
theorem d_Mo_span_37 : decode prog_9_method_8_code 37 = .ok (.invokevirtual 89, 3) := by decide +kernel
theorem d_Mo_span_40 : decode prog_9_method_8_code 40 = .ok (.ifCond .eq 7, 3) := by decide +kernel
theorem d_Mo_span_43 : decode prog_9_method_8_code 43 = .ok (.iconst 1, 1) := by decide +kernel
theorem d_Mo_span_44 : decode prog_9_method_8_code 44 = .ok (.goto 4, 3) := by decide +kernel
theorem d_Mo_span_47 : decode prog_9_method_8_code 47 = .ok (.iconst 0, 1) := by decide +kernel
theorem d_Mo_span_48 : decode prog_9_method_8_code 48 = .ok (.ireturn, 1) := by decide +kernel
theorem d_Mo_ratio_0 : decode prog_9_method_9_code 0 = .ok (.iload_n 1, 1) := by decide +kernel
theorem d_Mo_ratio_1 : decode prog_9_method_9_code 1 = .ok (.ifCond .lt 63, 3) := by decide +kernel
theorem d_Mo_ratio_4 : decode prog_9_method_9_code 4 = .ok (.iload_n 1, 1) := by decide +kernel
theorem d_Mo_ratio_5 : decode prog_9_method_9_code 5 = .ok (.iconst 1, 1) := by decide +kernel
theorem d_Mo_ratio_6 : decode prog_9_method_9_code 6 = .ok (.if_icmp .gt 58, 3) := by decide +kernel
theorem d_Mo_ratio_9 : decode prog_9_method_9_code 9 = .ok (.iload_n 2, 1) := by decide +kernel
theorem d_Mo_ratio_10 : decode prog_9_method_9_code 10 = .ok (.invokestatic 77, 3) := by decide +kernel
theorem d_Mo_ratio_13 : decode prog_9_method_9_code 13 = .ok (.ifCond .eq 51, 3) := by decide +kernel
theorem d_Mo_ratio_16 : decode prog_9_method_9_code 16 = .ok (.iload_n 3, 1) := by decide +kernel
theorem d_Mo_ratio_17 : decode prog_9_method_9_code 17 = .ok (.invokestatic 77, 3) := by decide +kernel
theorem d_Mo_ratio_20 : decode prog_9_method_9_code 20 = .ok (.ifCond .eq 44, 3) := by decide +kernel
theorem d_Mo_ratio_23 : decode prog_9_method_9_code 23 = .ok (.iload 4, 2) := by decide +kernel
theorem d_Mo_ratio_25 : decode prog_9_method_9_code 25 = .ok (.i2l, 1) := by decide +kernel
theorem d_Mo_ratio_26 : decode prog_9_method_9_code 26 = .ok (.lconst 0, 1) := by decide +kernel
theorem d_Mo_ratio_27 : decode prog_9_method_9_code 27 = .ok (.iload 5, 2) := by decide +kernel
theorem d_Mo_ratio_29 : decode prog_9_method_9_code 29 = .ok (.i2l, 1) := by decide +kernel
theorem d_Mo_ratio_30 : decode prog_9_method_9_code 30 = .ok (.invokestatic 69, 3) := by decide +kernel
theorem d_Mo_ratio_33 : decode prog_9_method_9_code 33 = .ok (.ifCond .eq 31, 3) := by decide +kernel
theorem d_Mo_ratio_36 : decode prog_9_method_9_code 36 = .ok (.iload 5, 2) := by decide +kernel
theorem d_Mo_ratio_38 : decode prog_9_method_9_code 38 = .ok (.i2l, 1) := by decide +kernel
theorem d_Mo_ratio_39 : decode prog_9_method_9_code 39 = .ok (.iload 4, 2) := by decide +kernel
theorem d_Mo_ratio_41 : decode prog_9_method_9_code 41 = .ok (.i2l, 1) := by decide +kernel
theorem d_Mo_ratio_42 : decode prog_9_method_9_code 42 = .ok (.ldc2_w 83, 3) := by decide +kernel
theorem d_Mo_ratio_45 : decode prog_9_method_9_code 45 = .ok (.invokestatic 69, 3) := by decide +kernel
theorem d_Mo_ratio_48 : decode prog_9_method_9_code 48 = .ok (.ifCond .eq 16, 3) := by decide +kernel
theorem d_Mo_ratio_51 : decode prog_9_method_9_code 51 = .ok (.iload 6, 2) := by decide +kernel
theorem d_Mo_ratio_53 : decode prog_9_method_9_code 53 = .ok (.i2l, 1) := by decide +kernel
theorem d_Mo_ratio_54 : decode prog_9_method_9_code 54 = .ok (.lconst 1, 1) := by decide +kernel
theorem d_Mo_ratio_55 : decode prog_9_method_9_code 55 = .ok (.ldc2_w 83, 3) := by decide +kernel
theorem d_Mo_ratio_58 : decode prog_9_method_9_code 58 = .ok (.invokestatic 69, 3) := by decide +kernel
theorem d_Mo_ratio_61 : decode prog_9_method_9_code 61 = .ok (.ifCond .ne 5, 3) := by decide +kernel
theorem d_Mo_ratio_64 : decode prog_9_method_9_code 64 = .ok (.iconst 0, 1) := by decide +kernel
theorem d_Mo_ratio_65 : decode prog_9_method_9_code 65 = .ok (.ireturn, 1) := by decide +kernel
theorem d_Mo_ratio_66 : decode prog_9_method_9_code 66 = .ok (.aload_n 0, 1) := by decide +kernel
theorem d_Mo_ratio_67 : decode prog_9_method_9_code 67 = .ok (.getfield 32, 3) := by decide +kernel
theorem d_Mo_ratio_70 : decode prog_9_method_9_code 70 = .ok (.iconst 5, 1) := by decide +kernel
theorem d_Mo_ratio_71 : decode prog_9_method_9_code 71 = .ok (.iload_n 1, 1) := by decide +kernel
theorem d_Mo_ratio_72 : decode prog_9_method_9_code 72 = .ok (.iadd, 1) := by decide +kernel
theorem d_Mo_ratio_73 : decode prog_9_method_9_code 73 = .ok (.iload_n 2, 1) := by decide +kernel
theorem d_Mo_ratio_74 : decode prog_9_method_9_code 74 = .ok (.iastore, 1) := by decide +kernel
theorem d_Mo_ratio_75 : decode prog_9_method_9_code 75 = .ok (.aload_n 0, 1) := by decide +kernel
theorem d_Mo_ratio_76 : decode prog_9_method_9_code 76 = .ok (.getfield 35, 3) := by decide +kernel
theorem d_Mo_ratio_79 : decode prog_9_method_9_code 79 = .ok (.iconst 5, 1) := by decide +kernel
theorem d_Mo_ratio_80 : decode prog_9_method_9_code 80 = .ok (.iload_n 1, 1) := by decide +kernel
theorem d_Mo_ratio_81 : decode prog_9_method_9_code 81 = .ok (.iadd, 1) := by decide +kernel
theorem d_Mo_ratio_82 : decode prog_9_method_9_code 82 = .ok (.iload_n 3, 1) := by decide +kernel
theorem d_Mo_ratio_83 : decode prog_9_method_9_code 83 = .ok (.iastore, 1) := by decide +kernel
theorem d_Mo_ratio_84 : decode prog_9_method_9_code 84 = .ok (.aload_n 0, 1) := by decide +kernel
theorem d_Mo_ratio_85 : decode prog_9_method_9_code 85 = .ok (.getfield 29, 3) := by decide +kernel
theorem d_Mo_ratio_88 : decode prog_9_method_9_code 88 = .ok (.iconst 5, 1) := by decide +kernel
theorem d_Mo_ratio_89 : decode prog_9_method_9_code 89 = .ok (.iload_n 1, 1) := by decide +kernel
theorem d_Mo_ratio_90 : decode prog_9_method_9_code 90 = .ok (.iadd, 1) := by decide +kernel
theorem d_Mo_ratio_91 : decode prog_9_method_9_code 91 = .ok (.iload 6, 2) := by decide +kernel
theorem d_Mo_ratio_93 : decode prog_9_method_9_code 93 = .ok (.iastore, 1) := by decide +kernel
theorem d_Mo_ratio_94 : decode prog_9_method_9_code 94 = .ok (.aload_n 0, 1) := by decide +kernel
theorem d_Mo_ratio_95 : decode prog_9_method_9_code 95 = .ok (.iconst 5, 1) := by decide +kernel
theorem d_Mo_ratio_96 : decode prog_9_method_9_code 96 = .ok (.iload_n 1, 1) := by decide +kernel
theorem d_Mo_ratio_97 : decode prog_9_method_9_code 97 = .ok (.iadd, 1) := by decide +kernel
theorem d_Mo_ratio_98 : decode prog_9_method_9_code 98 = .ok (.iload 4, 2) := by decide +kernel
theorem d_Mo_ratio_100 : decode prog_9_method_9_code 100 = .ok (.iload 5, 2) := by decide +kernel
theorem d_Mo_ratio_102 : decode prog_9_method_9_code 102 = .ok (.invokevirtual 89, 3) := by decide +kernel
theorem d_Mo_ratio_105 : decode prog_9_method_9_code 105 = .ok (.ireturn, 1) := by decide +kernel
theorem d_Mo_loads_0 : decode prog_9_method_10_code 0 = .ok (.iload_n 1, 1) := by decide +kernel
theorem d_Mo_loads_1 : decode prog_9_method_10_code 1 = .ok (.i2l, 1) := by decide +kernel
theorem d_Mo_loads_2 : decode prog_9_method_10_code 2 = .ok (.lconst 0, 1) := by decide +kernel
theorem d_Mo_loads_3 : decode prog_9_method_10_code 3 = .ok (.iload_n 2, 1) := by decide +kernel
theorem d_Mo_loads_4 : decode prog_9_method_10_code 4 = .ok (.i2l, 1) := by decide +kernel
theorem d_Mo_loads_5 : decode prog_9_method_10_code 5 = .ok (.invokestatic 69, 3) := by decide +kernel
theorem d_Mo_loads_8 : decode prog_9_method_10_code 8 = .ok (.ifCond .eq 31, 3) := by decide +kernel
theorem d_Mo_loads_11 : decode prog_9_method_10_code 11 = .ok (.iload_n 2, 1) := by decide +kernel
theorem d_Mo_loads_12 : decode prog_9_method_10_code 12 = .ok (.i2l, 1) := by decide +kernel
theorem d_Mo_loads_13 : decode prog_9_method_10_code 13 = .ok (.iload_n 1, 1) := by decide +kernel
theorem d_Mo_loads_14 : decode prog_9_method_10_code 14 = .ok (.i2l, 1) := by decide +kernel
theorem d_Mo_loads_15 : decode prog_9_method_10_code 15 = .ok (.ldc2_w 93, 3) := by decide +kernel
theorem d_Mo_loads_18 : decode prog_9_method_10_code 18 = .ok (.invokestatic 69, 3) := by decide +kernel
theorem d_Mo_loads_21 : decode prog_9_method_10_code 21 = .ok (.ifCond .eq 18, 3) := by decide +kernel
theorem d_Mo_loads_24 : decode prog_9_method_10_code 24 = .ok (.aload_n 0, 1) := by decide +kernel
theorem d_Mo_loads_25 : decode prog_9_method_10_code 25 = .ok (.bipush 7, 2) := by decide +kernel
theorem d_Mo_loads_27 : decode prog_9_method_10_code 27 = .ok (.iload_n 1, 1) := by decide +kernel
theorem d_Mo_loads_28 : decode prog_9_method_10_code 28 = .ok (.iload_n 2, 1) := by decide +kernel
theorem d_Mo_loads_29 : decode prog_9_method_10_code 29 = .ok (.invokevirtual 89, 3) := by decide +kernel
theorem d_Mo_loads_32 : decode prog_9_method_10_code 32 = .ok (.ifCond .eq 7, 3) := by decide +kernel
theorem d_Mo_loads_35 : decode prog_9_method_10_code 35 = .ok (.iconst 1, 1) := by decide +kernel
theorem d_Mo_loads_36 : decode prog_9_method_10_code 36 = .ok (.goto 4, 3) := by decide +kernel
theorem d_Mo_loads_39 : decode prog_9_method_10_code 39 = .ok (.iconst 0, 1) := by decide +kernel
theorem d_Mo_loads_40 : decode prog_9_method_10_code 40 = .ok (.ireturn, 1) := by decide +kernel
theorem d_Mo_untell_0 : decode prog_9_method_11_code 0 = .ok (.iload_n 1, 1) := by decide +kernel
theorem d_Mo_untell_1 : decode prog_9_method_11_code 1 = .ok (.ifCond .lt 18, 3) := by decide +kernel
theorem d_Mo_untell_4 : decode prog_9_method_11_code 4 = .ok (.iload_n 1, 1) := by decide +kernel
theorem d_Mo_untell_5 : decode prog_9_method_11_code 5 = .ok (.bipush 8, 2) := by decide +kernel
theorem d_Mo_untell_7 : decode prog_9_method_11_code 7 = .ok (.if_icmp .ge 12, 3) := by decide +kernel
theorem d_Mo_untell_10 : decode prog_9_method_11_code 10 = .ok (.aload_n 0, 1) := by decide +kernel
theorem d_Mo_untell_11 : decode prog_9_method_11_code 11 = .ok (.getfield 19, 3) := by decide +kernel
theorem d_Mo_untell_14 : decode prog_9_method_11_code 14 = .ok (.iload_n 1, 1) := by decide +kernel
theorem d_Mo_untell_15 : decode prog_9_method_11_code 15 = .ok (.baload, 1) := by decide +kernel
theorem d_Mo_untell_16 : decode prog_9_method_11_code 16 = .ok (.ifCond .ne 5, 3) := by decide +kernel
theorem d_Mo_untell_19 : decode prog_9_method_11_code 19 = .ok (.iconst 0, 1) := by decide +kernel
theorem d_Mo_untell_20 : decode prog_9_method_11_code 20 = .ok (.ireturn, 1) := by decide +kernel
theorem d_Mo_untell_21 : decode prog_9_method_11_code 21 = .ok (.aload_n 0, 1) := by decide +kernel
theorem d_Mo_untell_22 : decode prog_9_method_11_code 22 = .ok (.getfield 19, 3) := by decide +kernel
theorem d_Mo_untell_25 : decode prog_9_method_11_code 25 = .ok (.iload_n 1, 1) := by decide +kernel
theorem d_Mo_untell_26 : decode prog_9_method_11_code 26 = .ok (.iconst 0, 1) := by decide +kernel
theorem d_Mo_untell_27 : decode prog_9_method_11_code 27 = .ok (.bastore, 1) := by decide +kernel
theorem d_Mo_untell_28 : decode prog_9_method_11_code 28 = .ok (.iconst 1, 1) := by decide +kernel
theorem d_Mo_untell_29 : decode prog_9_method_11_code 29 = .ok (.ireturn, 1) := by decide +kernel
theorem d_Mo_holds_0 : decode prog_9_method_12_code 0 = .ok (.iconst 0, 1) := by decide +kernel
theorem d_Mo_holds_1 : decode prog_9_method_12_code 1 = .ok (.istore_n 2, 1) := by decide +kernel
theorem d_Mo_holds_2 : decode prog_9_method_12_code 2 = .ok (.iconst 0, 1) := by decide +kernel
theorem d_Mo_holds_3 : decode prog_9_method_12_code 3 = .ok (.istore_n 3, 1) := by decide +kernel
theorem d_Mo_holds_4 : decode prog_9_method_12_code 4 = .ok (.iload_n 3, 1) := by decide +kernel
theorem d_Mo_holds_5 : decode prog_9_method_12_code 5 = .ok (.aload_n 0, 1) := by decide +kernel
theorem d_Mo_holds_6 : decode prog_9_method_12_code 6 = .ok (.getfield 64, 3) := by decide +kernel
theorem d_Mo_holds_9 : decode prog_9_method_12_code 9 = .ok (.if_icmp .ge 29, 3) := by decide +kernel
theorem d_Mo_holds_12 : decode prog_9_method_12_code 12 = .ok (.iload_n 2, 1) := by decide +kernel
theorem d_Mo_holds_13 : decode prog_9_method_12_code 13 = .ok (.aload_n 0, 1) := by decide +kernel
theorem d_Mo_holds_14 : decode prog_9_method_12_code 14 = .ok (.getfield 45, 3) := by decide +kernel
theorem d_Mo_holds_17 : decode prog_9_method_12_code 17 = .ok (.iload_n 3, 1) := by decide +kernel
theorem d_Mo_holds_18 : decode prog_9_method_12_code 18 = .ok (.iaload, 1) := by decide +kernel
theorem d_Mo_holds_19 : decode prog_9_method_12_code 19 = .ok (.aload_n 0, 1) := by decide +kernel
theorem d_Mo_holds_20 : decode prog_9_method_12_code 20 = .ok (.getfield 16, 3) := by decide +kernel
theorem d_Mo_holds_23 : decode prog_9_method_12_code 23 = .ok (.iconst 5, 1) := by decide +kernel
theorem d_Mo_holds_24 : decode prog_9_method_12_code 24 = .ok (.iload_n 3, 1) := by decide +kernel
theorem d_Mo_holds_25 : decode prog_9_method_12_code 25 = .ok (.imul, 1) := by decide +kernel
theorem d_Mo_holds_26 : decode prog_9_method_12_code 26 = .ok (.iload_n 1, 1) := by decide +kernel
theorem d_Mo_holds_27 : decode prog_9_method_12_code 27 = .ok (.iadd, 1) := by decide +kernel
theorem d_Mo_holds_28 : decode prog_9_method_12_code 28 = .ok (.iaload, 1) := by decide +kernel
theorem d_Mo_holds_29 : decode prog_9_method_12_code 29 = .ok (.imul, 1) := by decide +kernel
theorem d_Mo_holds_30 : decode prog_9_method_12_code 30 = .ok (.iadd, 1) := by decide +kernel
theorem d_Mo_holds_31 : decode prog_9_method_12_code 31 = .ok (.istore_n 2, 1) := by decide +kernel
theorem d_Mo_holds_32 : decode prog_9_method_12_code 32 = .ok (.iinc 3 1, 3) := by decide +kernel
theorem d_Mo_holds_35 : decode prog_9_method_12_code 35 = .ok (.goto (-31), 3) := by decide +kernel
theorem d_Mo_holds_38 : decode prog_9_method_12_code 38 = .ok (.iload_n 2, 1) := by decide +kernel
theorem d_Mo_holds_39 : decode prog_9_method_12_code 39 = .ok (.ireturn, 1) := by decide +kernel
theorem d_Mo_keeps_0 : decode prog_9_method_13_code 0 = .ok (.iload_n 1, 1) := by decide +kernel
theorem d_Mo_keeps_1 : decode prog_9_method_13_code 1 = .ok (.iconst 5, 1) := by decide +kernel
theorem d_Mo_keeps_2 : decode prog_9_method_13_code 2 = .ok (.if_icmp .ge 27, 3) := by decide +kernel
theorem d_Mo_keeps_5 : decode prog_9_method_13_code 5 = .ok (.aload_n 0, 1) := by decide +kernel
theorem d_Mo_keeps_6 : decode prog_9_method_13_code 6 = .ok (.iload_n 1, 1) := by decide +kernel
theorem d_Mo_keeps_7 : decode prog_9_method_13_code 7 = .ok (.invokevirtual 95, 3) := by decide +kernel
theorem d_Mo_keeps_10 : decode prog_9_method_13_code 10 = .ok (.i2l, 1) := by decide +kernel
theorem d_Mo_keeps_11 : decode prog_9_method_13_code 11 = .ok (.aload_n 0, 1) := by decide +kernel
theorem d_Mo_keeps_12 : decode prog_9_method_13_code 12 = .ok (.getfield 23, 3) := by decide +kernel
theorem d_Mo_keeps_15 : decode prog_9_method_13_code 15 = .ok (.iload_n 1, 1) := by decide +kernel
theorem d_Mo_keeps_16 : decode prog_9_method_13_code 16 = .ok (.iaload, 1) := by decide +kernel
theorem d_Mo_keeps_17 : decode prog_9_method_13_code 17 = .ok (.i2l, 1) := by decide +kernel
theorem d_Mo_keeps_18 : decode prog_9_method_13_code 18 = .ok (.aload_n 0, 1) := by decide +kernel
theorem d_Mo_keeps_19 : decode prog_9_method_13_code 19 = .ok (.getfield 26, 3) := by decide +kernel
theorem d_Mo_keeps_22 : decode prog_9_method_13_code 22 = .ok (.iload_n 1, 1) := by decide +kernel
theorem d_Mo_keeps_23 : decode prog_9_method_13_code 23 = .ok (.iaload, 1) := by decide +kernel
theorem d_Mo_keeps_24 : decode prog_9_method_13_code 24 = .ok (.i2l, 1) := by decide +kernel
theorem d_Mo_keeps_25 : decode prog_9_method_13_code 25 = .ok (.invokestatic 69, 3) := by decide +kernel
theorem d_Mo_keeps_28 : decode prog_9_method_13_code 28 = .ok (.ireturn, 1) := by decide +kernel
theorem d_Mo_keeps_29 : decode prog_9_method_13_code 29 = .ok (.iload_n 1, 1) := by decide +kernel
theorem d_Mo_keeps_30 : decode prog_9_method_13_code 30 = .ok (.bipush 7, 2) := by decide +kernel
theorem d_Mo_keeps_32 : decode prog_9_method_13_code 32 = .ok (.if_icmp .ge 72, 3) := by decide +kernel
theorem d_Mo_keeps_35 : decode prog_9_method_13_code 35 = .ok (.aload_n 0, 1) := by decide +kernel
theorem d_Mo_keeps_36 : decode prog_9_method_13_code 36 = .ok (.getfield 29, 3) := by decide +kernel
theorem d_Mo_keeps_39 : decode prog_9_method_13_code 39 = .ok (.iload_n 1, 1) := by decide +kernel
theorem d_Mo_keeps_40 : decode prog_9_method_13_code 40 = .ok (.iaload, 1) := by decide +kernel
theorem d_Mo_keeps_41 : decode prog_9_method_13_code 41 = .ok (.i2l, 1) := by decide +kernel
theorem d_Mo_keeps_42 : decode prog_9_method_13_code 42 = .ok (.aload_n 0, 1) := by decide +kernel
theorem d_Mo_keeps_43 : decode prog_9_method_13_code 43 = .ok (.aload_n 0, 1) := by decide +kernel
theorem d_Mo_keeps_44 : decode prog_9_method_13_code 44 = .ok (.getfield 32, 3) := by decide +kernel
theorem d_Mo_keeps_47 : decode prog_9_method_13_code 47 = .ok (.iload_n 1, 1) := by decide +kernel
theorem d_Mo_keeps_48 : decode prog_9_method_13_code 48 = .ok (.iaload, 1) := by decide +kernel
theorem d_Mo_keeps_49 : decode prog_9_method_13_code 49 = .ok (.invokevirtual 95, 3) := by decide +kernel
theorem d_Mo_keeps_52 : decode prog_9_method_13_code 52 = .ok (.i2l, 1) := by decide +kernel
theorem d_Mo_keeps_53 : decode prog_9_method_13_code 53 = .ok (.lmul, 1) := by decide +kernel
theorem d_Mo_keeps_54 : decode prog_9_method_13_code 54 = .ok (.lstore_n 2, 1) := by decide +kernel
theorem d_Mo_keeps_55 : decode prog_9_method_13_code 55 = .ok (.aload_n 0, 1) := by decide +kernel
theorem d_Mo_keeps_56 : decode prog_9_method_13_code 56 = .ok (.aload_n 0, 1) := by decide +kernel
theorem d_Mo_keeps_57 : decode prog_9_method_13_code 57 = .ok (.getfield 35, 3) := by decide +kernel
theorem d_Mo_keeps_60 : decode prog_9_method_13_code 60 = .ok (.iload_n 1, 1) := by decide +kernel
theorem d_Mo_keeps_61 : decode prog_9_method_13_code 61 = .ok (.iaload, 1) := by decide +kernel
theorem d_Mo_keeps_62 : decode prog_9_method_13_code 62 = .ok (.invokevirtual 95, 3) := by decide +kernel
theorem d_Mo_keeps_65 : decode prog_9_method_13_code 65 = .ok (.i2l, 1) := by decide +kernel
theorem d_Mo_keeps_66 : decode prog_9_method_13_code 66 = .ok (.lstore 4, 2) := by decide +kernel
theorem d_Mo_keeps_68 : decode prog_9_method_13_code 68 = .ok (.lload_n 2, 1) := by decide +kernel
theorem d_Mo_keeps_69 : decode prog_9_method_13_code 69 = .ok (.aload_n 0, 1) := by decide +kernel
theorem d_Mo_keeps_70 : decode prog_9_method_13_code 70 = .ok (.getfield 23, 3) := by decide +kernel
theorem d_Mo_keeps_73 : decode prog_9_method_13_code 73 = .ok (.iload_n 1, 1) := by decide +kernel
theorem d_Mo_keeps_74 : decode prog_9_method_13_code 74 = .ok (.iaload, 1) := by decide +kernel
theorem d_Mo_keeps_75 : decode prog_9_method_13_code 75 = .ok (.i2l, 1) := by decide +kernel
theorem d_Mo_keeps_76 : decode prog_9_method_13_code 76 = .ok (.lload 4, 2) := by decide +kernel
theorem d_Mo_keeps_78 : decode prog_9_method_13_code 78 = .ok (.lmul, 1) := by decide +kernel
theorem d_Mo_keeps_79 : decode prog_9_method_13_code 79 = .ok (.lcmp, 1) := by decide +kernel
theorem d_Mo_keeps_80 : decode prog_9_method_13_code 80 = .ok (.ifCond .lt 22, 3) := by decide +kernel
theorem d_Mo_keeps_83 : decode prog_9_method_13_code 83 = .ok (.lload_n 2, 1) := by decide +kernel
theorem d_Mo_keeps_84 : decode prog_9_method_13_code 84 = .ok (.aload_n 0, 1) := by decide +kernel
theorem d_Mo_keeps_85 : decode prog_9_method_13_code 85 = .ok (.getfield 26, 3) := by decide +kernel
theorem d_Mo_keeps_88 : decode prog_9_method_13_code 88 = .ok (.iload_n 1, 1) := by decide +kernel
theorem d_Mo_keeps_89 : decode prog_9_method_13_code 89 = .ok (.iaload, 1) := by decide +kernel
theorem d_Mo_keeps_90 : decode prog_9_method_13_code 90 = .ok (.i2l, 1) := by decide +kernel
theorem d_Mo_keeps_91 : decode prog_9_method_13_code 91 = .ok (.lload 4, 2) := by decide +kernel
theorem d_Mo_keeps_93 : decode prog_9_method_13_code 93 = .ok (.lmul, 1) := by decide +kernel
theorem d_Mo_keeps_94 : decode prog_9_method_13_code 94 = .ok (.lcmp, 1) := by decide +kernel
theorem d_Mo_keeps_95 : decode prog_9_method_13_code 95 = .ok (.ifCond .gt 7, 3) := by decide +kernel
theorem d_Mo_keeps_98 : decode prog_9_method_13_code 98 = .ok (.iconst 1, 1) := by decide +kernel
theorem d_Mo_keeps_99 : decode prog_9_method_13_code 99 = .ok (.goto 4, 3) := by decide +kernel
theorem d_Mo_keeps_102 : decode prog_9_method_13_code 102 = .ok (.iconst 0, 1) := by decide +kernel
theorem d_Mo_keeps_103 : decode prog_9_method_13_code 103 = .ok (.ireturn, 1) := by decide +kernel
theorem d_Mo_keeps_104 : decode prog_9_method_13_code 104 = .ok (.aload_n 0, 1) := by decide +kernel
theorem d_Mo_keeps_105 : decode prog_9_method_13_code 105 = .ok (.getfield 45, 3) := by decide +kernel
theorem d_Mo_keeps_108 : decode prog_9_method_13_code 108 = .ok (.iconst 0, 1) := by decide +kernel
theorem d_Mo_keeps_109 : decode prog_9_method_13_code 109 = .ok (.iaload, 1) := by decide +kernel
theorem d_Mo_keeps_110 : decode prog_9_method_13_code 110 = .ok (.aload_n 0, 1) := by decide +kernel
theorem d_Mo_keeps_111 : decode prog_9_method_13_code 111 = .ok (.getfield 45, 3) := by decide +kernel
theorem d_Mo_keeps_114 : decode prog_9_method_13_code 114 = .ok (.iconst 1, 1) := by decide +kernel
theorem d_Mo_keeps_115 : decode prog_9_method_13_code 115 = .ok (.iaload, 1) := by decide +kernel
theorem d_Mo_keeps_116 : decode prog_9_method_13_code 116 = .ok (.iadd, 1) := by decide +kernel
theorem d_Mo_keeps_117 : decode prog_9_method_13_code 117 = .ok (.aload_n 0, 1) := by decide +kernel
theorem d_Mo_keeps_118 : decode prog_9_method_13_code 118 = .ok (.getfield 45, 3) := by decide +kernel
theorem d_Mo_keeps_121 : decode prog_9_method_13_code 121 = .ok (.iconst 2, 1) := by decide +kernel
theorem d_Mo_keeps_122 : decode prog_9_method_13_code 122 = .ok (.iaload, 1) := by decide +kernel
theorem d_Mo_keeps_123 : decode prog_9_method_13_code 123 = .ok (.iadd, 1) := by decide +kernel
theorem d_Mo_keeps_124 : decode prog_9_method_13_code 124 = .ok (.aload_n 0, 1) := by decide +kernel
theorem d_Mo_keeps_125 : decode prog_9_method_13_code 125 = .ok (.getfield 45, 3) := by decide +kernel
theorem d_Mo_keeps_128 : decode prog_9_method_13_code 128 = .ok (.iconst 3, 1) := by decide +kernel
theorem d_Mo_keeps_129 : decode prog_9_method_13_code 129 = .ok (.iaload, 1) := by decide +kernel
theorem d_Mo_keeps_130 : decode prog_9_method_13_code 130 = .ok (.iadd, 1) := by decide +kernel
theorem d_Mo_keeps_131 : decode prog_9_method_13_code 131 = .ok (.i2l, 1) := by decide +kernel
theorem d_Mo_keeps_132 : decode prog_9_method_13_code 132 = .ok (.aload_n 0, 1) := by decide +kernel
theorem d_Mo_keeps_133 : decode prog_9_method_13_code 133 = .ok (.getfield 23, 3) := by decide +kernel
theorem d_Mo_keeps_136 : decode prog_9_method_13_code 136 = .ok (.iload_n 1, 1) := by decide +kernel
theorem d_Mo_keeps_137 : decode prog_9_method_13_code 137 = .ok (.iaload, 1) := by decide +kernel
theorem d_Mo_keeps_138 : decode prog_9_method_13_code 138 = .ok (.i2l, 1) := by decide +kernel
theorem d_Mo_keeps_139 : decode prog_9_method_13_code 139 = .ok (.aload_n 0, 1) := by decide +kernel
theorem d_Mo_keeps_140 : decode prog_9_method_13_code 140 = .ok (.getfield 26, 3) := by decide +kernel
theorem d_Mo_keeps_143 : decode prog_9_method_13_code 143 = .ok (.iload_n 1, 1) := by decide +kernel
theorem d_Mo_keeps_144 : decode prog_9_method_13_code 144 = .ok (.iaload, 1) := by decide +kernel
theorem d_Mo_keeps_145 : decode prog_9_method_13_code 145 = .ok (.i2l, 1) := by decide +kernel
theorem d_Mo_keeps_146 : decode prog_9_method_13_code 146 = .ok (.invokestatic 69, 3) := by decide +kernel
theorem d_Mo_keeps_149 : decode prog_9_method_13_code 149 = .ok (.ireturn, 1) := by decide +kernel
theorem d_Mo_firstBroken_0 : decode prog_9_method_14_code 0 = .ok (.iconst 0, 1) := by decide +kernel
theorem d_Mo_firstBroken_1 : decode prog_9_method_14_code 1 = .ok (.istore_n 1, 1) := by decide +kernel
theorem d_Mo_firstBroken_2 : decode prog_9_method_14_code 2 = .ok (.iload_n 1, 1) := by decide +kernel
theorem d_Mo_firstBroken_3 : decode prog_9_method_14_code 3 = .ok (.bipush 8, 2) := by decide +kernel
theorem d_Mo_firstBroken_5 : decode prog_9_method_14_code 5 = .ok (.if_icmp .ge 28, 3) := by decide +kernel
theorem d_Mo_firstBroken_8 : decode prog_9_method_14_code 8 = .ok (.aload_n 0, 1) := by decide +kernel
theorem d_Mo_firstBroken_9 : decode prog_9_method_14_code 9 = .ok (.getfield 19, 3) := by decide +kernel
theorem d_Mo_firstBroken_12 : decode prog_9_method_14_code 12 = .ok (.iload_n 1, 1) := by decide +kernel
theorem d_Mo_firstBroken_13 : decode prog_9_method_14_code 13 = .ok (.baload, 1) := by decide +kernel
theorem d_Mo_firstBroken_14 : decode prog_9_method_14_code 14 = .ok (.ifCond .eq 13, 3) := by decide +kernel
theorem d_Mo_firstBroken_17 : decode prog_9_method_14_code 17 = .ok (.aload_n 0, 1) := by decide +kernel
theorem d_Mo_firstBroken_18 : decode prog_9_method_14_code 18 = .ok (.iload_n 1, 1) := by decide +kernel
theorem d_Mo_firstBroken_19 : decode prog_9_method_14_code 19 = .ok (.invokevirtual 99, 3) := by decide +kernel
theorem d_Mo_firstBroken_22 : decode prog_9_method_14_code 22 = .ok (.ifCond .ne 5, 3) := by decide +kernel
theorem d_Mo_firstBroken_25 : decode prog_9_method_14_code 25 = .ok (.iload_n 1, 1) := by decide +kernel
theorem d_Mo_firstBroken_26 : decode prog_9_method_14_code 26 = .ok (.ireturn, 1) := by decide +kernel
theorem d_Mo_firstBroken_27 : decode prog_9_method_14_code 27 = .ok (.iinc 1 1, 3) := by decide +kernel
theorem d_Mo_firstBroken_30 : decode prog_9_method_14_code 30 = .ok (.goto (-28), 3) := by decide +kernel
theorem d_Mo_firstBroken_33 : decode prog_9_method_14_code 33 = .ok (.bipush 8, 2) := by decide +kernel
theorem d_Mo_firstBroken_35 : decode prog_9_method_14_code 35 = .ok (.ireturn, 1) := by decide +kernel
theorem d_Mo_broken_0 : decode prog_9_method_15_code 0 = .ok (.aload_n 0, 1) := by decide +kernel
theorem d_Mo_broken_1 : decode prog_9_method_15_code 1 = .ok (.getfield 45, 3) := by decide +kernel
theorem d_Mo_broken_4 : decode prog_9_method_15_code 4 = .ok (.iconst 0, 1) := by decide +kernel
theorem d_Mo_broken_5 : decode prog_9_method_15_code 5 = .ok (.iload_n 1, 1) := by decide +kernel
theorem d_Mo_broken_6 : decode prog_9_method_15_code 6 = .ok (.iastore, 1) := by decide +kernel
theorem d_Mo_broken_7 : decode prog_9_method_15_code 7 = .ok (.aload_n 0, 1) := by decide +kernel
theorem d_Mo_broken_8 : decode prog_9_method_15_code 8 = .ok (.getfield 45, 3) := by decide +kernel
theorem d_Mo_broken_11 : decode prog_9_method_15_code 11 = .ok (.iconst 1, 1) := by decide +kernel
theorem d_Mo_broken_12 : decode prog_9_method_15_code 12 = .ok (.iload_n 2, 1) := by decide +kernel
theorem d_Mo_broken_13 : decode prog_9_method_15_code 13 = .ok (.iastore, 1) := by decide +kernel
theorem d_Mo_broken_14 : decode prog_9_method_15_code 14 = .ok (.aload_n 0, 1) := by decide +kernel
theorem d_Mo_broken_15 : decode prog_9_method_15_code 15 = .ok (.getfield 45, 3) := by decide +kernel
theorem d_Mo_broken_18 : decode prog_9_method_15_code 18 = .ok (.iconst 2, 1) := by decide +kernel
theorem d_Mo_broken_19 : decode prog_9_method_15_code 19 = .ok (.iload_n 3, 1) := by decide +kernel
theorem d_Mo_broken_20 : decode prog_9_method_15_code 20 = .ok (.iastore, 1) := by decide +kernel
theorem d_Mo_broken_21 : decode prog_9_method_15_code 21 = .ok (.aload_n 0, 1) := by decide +kernel
theorem d_Mo_broken_22 : decode prog_9_method_15_code 22 = .ok (.getfield 45, 3) := by decide +kernel
theorem d_Mo_broken_25 : decode prog_9_method_15_code 25 = .ok (.iconst 3, 1) := by decide +kernel
theorem d_Mo_broken_26 : decode prog_9_method_15_code 26 = .ok (.iload 4, 2) := by decide +kernel
theorem d_Mo_broken_28 : decode prog_9_method_15_code 28 = .ok (.iastore, 1) := by decide +kernel
theorem d_Mo_broken_29 : decode prog_9_method_15_code 29 = .ok (.iconst 0, 1) := by decide +kernel
theorem d_Mo_broken_30 : decode prog_9_method_15_code 30 = .ok (.istore 5, 2) := by decide +kernel
theorem d_Mo_broken_32 : decode prog_9_method_15_code 32 = .ok (.iload 5, 2) := by decide +kernel
theorem d_Mo_broken_34 : decode prog_9_method_15_code 34 = .ok (.iconst 4, 1) := by decide +kernel
theorem d_Mo_broken_35 : decode prog_9_method_15_code 35 = .ok (.if_icmp .ge 47, 3) := by decide +kernel
theorem d_Mo_broken_38 : decode prog_9_method_15_code 38 = .ok (.aload_n 0, 1) := by decide +kernel
theorem d_Mo_broken_39 : decode prog_9_method_15_code 39 = .ok (.getfield 45, 3) := by decide +kernel
theorem d_Mo_broken_42 : decode prog_9_method_15_code 42 = .ok (.iload 5, 2) := by decide +kernel
theorem d_Mo_broken_44 : decode prog_9_method_15_code 44 = .ok (.iaload, 1) := by decide +kernel
theorem d_Mo_broken_45 : decode prog_9_method_15_code 45 = .ok (.i2l, 1) := by decide +kernel
theorem d_Mo_broken_46 : decode prog_9_method_15_code 46 = .ok (.lconst 0, 1) := by decide +kernel
theorem d_Mo_broken_47 : decode prog_9_method_15_code 47 = .ok (.iload 5, 2) := by decide +kernel
theorem d_Mo_broken_49 : decode prog_9_method_15_code 49 = .ok (.aload_n 0, 1) := by decide +kernel
theorem d_Mo_broken_50 : decode prog_9_method_15_code 50 = .ok (.getfield 64, 3) := by decide +kernel
theorem d_Mo_broken_53 : decode prog_9_method_15_code 53 = .ok (.if_icmp .ge 14, 3) := by decide +kernel
theorem d_Mo_broken_56 : decode prog_9_method_15_code 56 = .ok (.aload_n 0, 1) := by decide +kernel
theorem d_Mo_broken_57 : decode prog_9_method_15_code 57 = .ok (.getfield 7, 3) := by decide +kernel
theorem d_Mo_broken_60 : decode prog_9_method_15_code 60 = .ok (.iload 5, 2) := by decide +kernel
theorem d_Mo_broken_62 : decode prog_9_method_15_code 62 = .ok (.iaload, 1) := by decide +kernel
theorem d_Mo_broken_63 : decode prog_9_method_15_code 63 = .ok (.i2l, 1) := by decide +kernel
theorem d_Mo_broken_64 : decode prog_9_method_15_code 64 = .ok (.goto 4, 3) := by decide +kernel
theorem d_Mo_broken_67 : decode prog_9_method_15_code 67 = .ok (.lconst 0, 1) := by decide +kernel
theorem d_Mo_broken_68 : decode prog_9_method_15_code 68 = .ok (.invokestatic 69, 3) := by decide +kernel
theorem d_Mo_broken_71 : decode prog_9_method_15_code 71 = .ok (.ifCond .ne 5, 3) := by decide +kernel
theorem d_Mo_broken_74 : decode prog_9_method_15_code 74 = .ok (.iconst (-1), 1) := by decide +kernel
theorem d_Mo_broken_75 : decode prog_9_method_15_code 75 = .ok (.ireturn, 1) := by decide +kernel
theorem d_Mo_broken_76 : decode prog_9_method_15_code 76 = .ok (.iinc 5 1, 3) := by decide +kernel
theorem d_Mo_broken_79 : decode prog_9_method_15_code 79 = .ok (.goto (-47), 3) := by decide +kernel
theorem d_Mo_broken_82 : decode prog_9_method_15_code 82 = .ok (.aload_n 0, 1) := by decide +kernel
theorem d_Mo_broken_83 : decode prog_9_method_15_code 83 = .ok (.invokevirtual 102, 3) := by decide +kernel
theorem d_Mo_broken_86 : decode prog_9_method_15_code 86 = .ok (.ireturn, 1) := by decide +kernel
theorem d_Mo_findWhole_0 : decode prog_9_method_16_code 0 = .ok (.iconst 0, 1) := by decide +kernel
theorem d_Mo_findWhole_1 : decode prog_9_method_16_code 1 = .ok (.istore_n 1, 1) := by decide +kernel
theorem d_Mo_findWhole_2 : decode prog_9_method_16_code 2 = .ok (.iconst 0, 1) := by decide +kernel
theorem d_Mo_findWhole_3 : decode prog_9_method_16_code 3 = .ok (.istore_n 2, 1) := by decide +kernel
theorem d_Mo_findWhole_4 : decode prog_9_method_16_code 4 = .ok (.iload_n 2, 1) := by decide +kernel
theorem d_Mo_findWhole_5 : decode prog_9_method_16_code 5 = .ok (.sipush 10000, 3) := by decide +kernel
theorem d_Mo_findWhole_8 : decode prog_9_method_16_code 8 = .ok (.if_icmp .ge 191, 3) := by decide +kernel
theorem d_Mo_findWhole_11 : decode prog_9_method_16_code 11 = .ok (.iload_n 2, 1) := by decide +kernel
theorem d_Mo_findWhole_12 : decode prog_9_method_16_code 12 = .ok (.istore_n 3, 1) := by decide +kernel
theorem d_Mo_findWhole_13 : decode prog_9_method_16_code 13 = .ok (.iconst 1, 1) := by decide +kernel
theorem d_Mo_findWhole_14 : decode prog_9_method_16_code 14 = .ok (.istore 4, 2) := by decide +kernel
theorem d_Mo_findWhole_16 : decode prog_9_method_16_code 16 = .ok (.iconst 3, 1) := by decide +kernel
theorem d_Mo_findWhole_17 : decode prog_9_method_16_code 17 = .ok (.istore 5, 2) := by decide +kernel
theorem d_Mo_findWhole_19 : decode prog_9_method_16_code 19 = .ok (.iload 5, 2) := by decide +kernel
theorem d_Mo_findWhole_21 : decode prog_9_method_16_code 21 = .ok (.ifCond .lt 67, 3) := by decide +kernel
theorem d_Mo_findWhole_24 : decode prog_9_method_16_code 24 = .ok (.aload_n 0, 1) := by decide +kernel
theorem d_Mo_findWhole_25 : decode prog_9_method_16_code 25 = .ok (.getfield 45, 3) := by decide +kernel
theorem d_Mo_findWhole_28 : decode prog_9_method_16_code 28 = .ok (.iload 5, 2) := by decide +kernel
theorem d_Mo_findWhole_30 : decode prog_9_method_16_code 30 = .ok (.iload_n 3, 1) := by decide +kernel
theorem d_Mo_findWhole_31 : decode prog_9_method_16_code 31 = .ok (.bipush 10, 2) := by decide +kernel
theorem d_Mo_findWhole_33 : decode prog_9_method_16_code 33 = .ok (.irem, 1) := by decide +kernel
theorem d_Mo_findWhole_34 : decode prog_9_method_16_code 34 = .ok (.iastore, 1) := by decide +kernel
theorem d_Mo_findWhole_35 : decode prog_9_method_16_code 35 = .ok (.iload_n 3, 1) := by decide +kernel
theorem d_Mo_findWhole_36 : decode prog_9_method_16_code 36 = .ok (.bipush 10, 2) := by decide +kernel
theorem d_Mo_findWhole_38 : decode prog_9_method_16_code 38 = .ok (.idiv, 1) := by decide +kernel
theorem d_Mo_findWhole_39 : decode prog_9_method_16_code 39 = .ok (.istore_n 3, 1) := by decide +kernel
theorem d_Mo_findWhole_40 : decode prog_9_method_16_code 40 = .ok (.iload 4, 2) := by decide +kernel
theorem d_Mo_findWhole_42 : decode prog_9_method_16_code 42 = .ok (.ifCond .eq 37, 3) := by decide +kernel
theorem d_Mo_findWhole_45 : decode prog_9_method_16_code 45 = .ok (.aload_n 0, 1) := by decide +kernel
theorem d_Mo_findWhole_46 : decode prog_9_method_16_code 46 = .ok (.getfield 45, 3) := by decide +kernel
theorem d_Mo_findWhole_49 : decode prog_9_method_16_code 49 = .ok (.iload 5, 2) := by decide +kernel
theorem d_Mo_findWhole_51 : decode prog_9_method_16_code 51 = .ok (.iaload, 1) := by decide +kernel
theorem d_Mo_findWhole_52 : decode prog_9_method_16_code 52 = .ok (.iload 5, 2) := by decide +kernel
theorem d_Mo_findWhole_54 : decode prog_9_method_16_code 54 = .ok (.aload_n 0, 1) := by decide +kernel
theorem d_Mo_findWhole_55 : decode prog_9_method_16_code 55 = .ok (.getfield 64, 3) := by decide +kernel
theorem d_Mo_findWhole_58 : decode prog_9_method_16_code 58 = .ok (.if_icmp .ge 13, 3) := by decide +kernel
theorem d_Mo_findWhole_61 : decode prog_9_method_16_code 61 = .ok (.aload_n 0, 1) := by decide +kernel
theorem d_Mo_findWhole_62 : decode prog_9_method_16_code 62 = .ok (.getfield 7, 3) := by decide +kernel
theorem d_Mo_findWhole_65 : decode prog_9_method_16_code 65 = .ok (.iload 5, 2) := by decide +kernel
theorem d_Mo_findWhole_67 : decode prog_9_method_16_code 67 = .ok (.iaload, 1) := by decide +kernel
theorem d_Mo_findWhole_68 : decode prog_9_method_16_code 68 = .ok (.goto 4, 3) := by decide +kernel
theorem d_Mo_findWhole_71 : decode prog_9_method_16_code 71 = .ok (.iconst 0, 1) := by decide +kernel
theorem d_Mo_findWhole_72 : decode prog_9_method_16_code 72 = .ok (.if_icmp .gt 7, 3) := by decide +kernel
theorem d_Mo_findWhole_75 : decode prog_9_method_16_code 75 = .ok (.iconst 1, 1) := by decide +kernel
theorem d_Mo_findWhole_76 : decode prog_9_method_16_code 76 = .ok (.goto 4, 3) := by decide +kernel
theorem d_Mo_findWhole_79 : decode prog_9_method_16_code 79 = .ok (.iconst 0, 1) := by decide +kernel
theorem d_Mo_findWhole_80 : decode prog_9_method_16_code 80 = .ok (.istore 4, 2) := by decide +kernel
theorem d_Mo_findWhole_82 : decode prog_9_method_16_code 82 = .ok (.iinc 5 (-1), 3) := by decide +kernel
theorem d_Mo_findWhole_85 : decode prog_9_method_16_code 85 = .ok (.goto (-66), 3) := by decide +kernel
theorem d_Mo_findWhole_88 : decode prog_9_method_16_code 88 = .ok (.iload 4, 2) := by decide +kernel
theorem d_Mo_findWhole_90 : decode prog_9_method_16_code 90 = .ok (.ifCond .eq 103, 3) := by decide +kernel
theorem d_Mo_findWhole_93 : decode prog_9_method_16_code 93 = .ok (.aload_n 0, 1) := by decide +kernel
theorem d_Mo_findWhole_94 : decode prog_9_method_16_code 94 = .ok (.invokevirtual 102, 3) := by decide +kernel
theorem d_Mo_findWhole_97 : decode prog_9_method_16_code 97 = .ok (.bipush 8, 2) := by decide +kernel
theorem d_Mo_findWhole_99 : decode prog_9_method_16_code 99 = .ok (.if_icmp .ne 94, 3) := by decide +kernel
theorem d_Mo_findWhole_102 : decode prog_9_method_16_code 102 = .ok (.lconst 0, 1) := by decide +kernel
theorem d_Mo_findWhole_103 : decode prog_9_method_16_code 103 = .ok (.lstore 5, 2) := by decide +kernel
theorem d_Mo_findWhole_105 : decode prog_9_method_16_code 105 = .ok (.iconst 0, 1) := by decide +kernel
theorem d_Mo_findWhole_106 : decode prog_9_method_16_code 106 = .ok (.istore 7, 2) := by decide +kernel
theorem d_Mo_findWhole_108 : decode prog_9_method_16_code 108 = .ok (.iload 7, 2) := by decide +kernel
theorem d_Mo_findWhole_110 : decode prog_9_method_16_code 110 = .ok (.iconst 4, 1) := by decide +kernel
theorem d_Mo_findWhole_111 : decode prog_9_method_16_code 111 = .ok (.if_icmp .ge 31, 3) := by decide +kernel
theorem d_Mo_findWhole_114 : decode prog_9_method_16_code 114 = .ok (.lload 5, 2) := by decide +kernel
theorem d_Mo_findWhole_116 : decode prog_9_method_16_code 116 = .ok (.aload_n 0, 1) := by decide +kernel
theorem d_Mo_findWhole_117 : decode prog_9_method_16_code 117 = .ok (.getfield 45, 3) := by decide +kernel
theorem d_Mo_findWhole_120 : decode prog_9_method_16_code 120 = .ok (.iload 7, 2) := by decide +kernel
theorem d_Mo_findWhole_122 : decode prog_9_method_16_code 122 = .ok (.iaload, 1) := by decide +kernel
theorem d_Mo_findWhole_123 : decode prog_9_method_16_code 123 = .ok (.i2l, 1) := by decide +kernel
theorem d_Mo_findWhole_124 : decode prog_9_method_16_code 124 = .ok (.aload_n 0, 1) := by decide +kernel
theorem d_Mo_findWhole_125 : decode prog_9_method_16_code 125 = .ok (.getfield 13, 3) := by decide +kernel
theorem d_Mo_findWhole_128 : decode prog_9_method_16_code 128 = .ok (.iload 7, 2) := by decide +kernel
theorem d_Mo_findWhole_130 : decode prog_9_method_16_code 130 = .ok (.iaload, 1) := by decide +kernel
theorem d_Mo_findWhole_131 : decode prog_9_method_16_code 131 = .ok (.i2l, 1) := by decide +kernel
theorem d_Mo_findWhole_132 : decode prog_9_method_16_code 132 = .ok (.lmul, 1) := by decide +kernel
theorem d_Mo_findWhole_133 : decode prog_9_method_16_code 133 = .ok (.ladd, 1) := by decide +kernel
theorem d_Mo_findWhole_134 : decode prog_9_method_16_code 134 = .ok (.lstore 5, 2) := by decide +kernel
theorem d_Mo_findWhole_136 : decode prog_9_method_16_code 136 = .ok (.iinc 7 1, 3) := by decide +kernel
theorem d_Mo_findWhole_139 : decode prog_9_method_16_code 139 = .ok (.goto (-31), 3) := by decide +kernel
theorem d_Mo_findWhole_142 : decode prog_9_method_16_code 142 = .ok (.iload_n 1, 1) := by decide +kernel
theorem d_Mo_findWhole_143 : decode prog_9_method_16_code 143 = .ok (.ifCond .eq 13, 3) := by decide +kernel
theorem d_Mo_findWhole_146 : decode prog_9_method_16_code 146 = .ok (.lload 5, 2) := by decide +kernel
theorem d_Mo_findWhole_148 : decode prog_9_method_16_code 148 = .ok (.aload_n 0, 1) := by decide +kernel
theorem d_Mo_findWhole_149 : decode prog_9_method_16_code 149 = .ok (.getfield 106, 3) := by decide +kernel
theorem d_Mo_findWhole_152 : decode prog_9_method_16_code 152 = .ok (.lcmp, 1) := by decide +kernel
theorem d_Mo_findWhole_153 : decode prog_9_method_16_code 153 = .ok (.ifCond .ge 40, 3) := by decide +kernel
theorem d_Mo_findWhole_156 : decode prog_9_method_16_code 156 = .ok (.iconst 1, 1) := by decide +kernel
theorem d_Mo_findWhole_157 : decode prog_9_method_16_code 157 = .ok (.istore_n 1, 1) := by decide +kernel
theorem d_Mo_findWhole_158 : decode prog_9_method_16_code 158 = .ok (.aload_n 0, 1) := by decide +kernel
theorem d_Mo_findWhole_159 : decode prog_9_method_16_code 159 = .ok (.lload 5, 2) := by decide +kernel
theorem d_Mo_findWhole_161 : decode prog_9_method_16_code 161 = .ok (.putfield 106, 3) := by decide +kernel
theorem d_Mo_findWhole_164 : decode prog_9_method_16_code 164 = .ok (.iconst 0, 1) := by decide +kernel
theorem d_Mo_findWhole_165 : decode prog_9_method_16_code 165 = .ok (.istore 7, 2) := by decide +kernel
theorem d_Mo_findWhole_167 : decode prog_9_method_16_code 167 = .ok (.iload 7, 2) := by decide +kernel
theorem d_Mo_findWhole_169 : decode prog_9_method_16_code 169 = .ok (.iconst 4, 1) := by decide +kernel
theorem d_Mo_findWhole_170 : decode prog_9_method_16_code 170 = .ok (.if_icmp .ge 23, 3) := by decide +kernel
theorem d_Mo_findWhole_173 : decode prog_9_method_16_code 173 = .ok (.aload_n 0, 1) := by decide +kernel
theorem d_Mo_findWhole_174 : decode prog_9_method_16_code 174 = .ok (.getfield 42, 3) := by decide +kernel
theorem d_Mo_findWhole_177 : decode prog_9_method_16_code 177 = .ok (.iload 7, 2) := by decide +kernel
theorem d_Mo_findWhole_179 : decode prog_9_method_16_code 179 = .ok (.aload_n 0, 1) := by decide +kernel
theorem d_Mo_findWhole_180 : decode prog_9_method_16_code 180 = .ok (.getfield 45, 3) := by decide +kernel
theorem d_Mo_findWhole_183 : decode prog_9_method_16_code 183 = .ok (.iload 7, 2) := by decide +kernel
theorem d_Mo_findWhole_185 : decode prog_9_method_16_code 185 = .ok (.iaload, 1) := by decide +kernel
theorem d_Mo_findWhole_186 : decode prog_9_method_16_code 186 = .ok (.iastore, 1) := by decide +kernel
theorem d_Mo_findWhole_187 : decode prog_9_method_16_code 187 = .ok (.iinc 7 1, 3) := by decide +kernel
theorem d_Mo_findWhole_190 : decode prog_9_method_16_code 190 = .ok (.goto (-23), 3) := by decide +kernel
theorem d_Mo_findWhole_193 : decode prog_9_method_16_code 193 = .ok (.iinc 2 1, 3) := by decide +kernel
theorem d_Mo_findWhole_196 : decode prog_9_method_16_code 196 = .ok (.goto (-192), 3) := by decide +kernel
theorem d_Mo_findWhole_199 : decode prog_9_method_16_code 199 = .ok (.iload_n 1, 1) := by decide +kernel
theorem d_Mo_findWhole_200 : decode prog_9_method_16_code 200 = .ok (.ireturn, 1) := by decide +kernel
theorem d_Mo_setLimit_0 : decode prog_9_method_17_code 0 = .ok (.iload_n 3, 1) := by decide +kernel
theorem d_Mo_setLimit_1 : decode prog_9_method_17_code 1 = .ok (.ifCond .eq 7, 3) := by decide +kernel
theorem d_Mo_setLimit_4 : decode prog_9_method_17_code 4 = .ok (.iconst (-1), 1) := by decide +kernel
theorem d_Mo_setLimit_5 : decode prog_9_method_17_code 5 = .ok (.goto 4, 3) := by decide +kernel
theorem d_Mo_setLimit_8 : decode prog_9_method_17_code 8 = .ok (.iconst 1, 1) := by decide +kernel
theorem d_Mo_setLimit_9 : decode prog_9_method_17_code 9 = .ok (.istore 4, 2) := by decide +kernel
theorem d_Mo_setLimit_11 : decode prog_9_method_17_code 11 = .ok (.iload_n 3, 1) := by decide +kernel
theorem d_Mo_setLimit_12 : decode prog_9_method_17_code 12 = .ok (.ifCond .eq 12, 3) := by decide +kernel
theorem d_Mo_setLimit_15 : decode prog_9_method_17_code 15 = .ok (.aload_n 0, 1) := by decide +kernel
theorem d_Mo_setLimit_16 : decode prog_9_method_17_code 16 = .ok (.getfield 26, 3) := by decide +kernel
theorem d_Mo_setLimit_19 : decode prog_9_method_17_code 19 = .ok (.iload_n 2, 1) := by decide +kernel
theorem d_Mo_setLimit_20 : decode prog_9_method_17_code 20 = .ok (.iaload, 1) := by decide +kernel
theorem d_Mo_setLimit_21 : decode prog_9_method_17_code 21 = .ok (.goto 9, 3) := by decide +kernel
theorem d_Mo_setLimit_24 : decode prog_9_method_17_code 24 = .ok (.aload_n 0, 1) := by decide +kernel
theorem d_Mo_setLimit_25 : decode prog_9_method_17_code 25 = .ok (.getfield 23, 3) := by decide +kernel
theorem d_Mo_setLimit_28 : decode prog_9_method_17_code 28 = .ok (.iload_n 2, 1) := by decide +kernel
theorem d_Mo_setLimit_29 : decode prog_9_method_17_code 29 = .ok (.iaload, 1) := by decide +kernel
theorem d_Mo_setLimit_30 : decode prog_9_method_17_code 30 = .ok (.istore 5, 2) := by decide +kernel
theorem d_Mo_setLimit_32 : decode prog_9_method_17_code 32 = .ok (.aload_n 0, 1) := by decide +kernel
theorem d_Mo_setLimit_33 : decode prog_9_method_17_code 33 = .ok (.getfield 51, 3) := by decide +kernel
theorem d_Mo_setLimit_36 : decode prog_9_method_17_code 36 = .ok (.iload_n 1, 1) := by decide +kernel
theorem d_Mo_setLimit_37 : decode prog_9_method_17_code 37 = .ok (.aload_n 0, 1) := by decide +kernel
theorem d_Mo_setLimit_38 : decode prog_9_method_17_code 38 = .ok (.getfield 19, 3) := by decide +kernel
theorem d_Mo_setLimit_41 : decode prog_9_method_17_code 41 = .ok (.iload_n 2, 1) := by decide +kernel
theorem d_Mo_setLimit_42 : decode prog_9_method_17_code 42 = .ok (.baload, 1) := by decide +kernel
theorem d_Mo_setLimit_43 : decode prog_9_method_17_code 43 = .ok (.bastore, 1) := by decide +kernel
theorem d_Mo_setLimit_44 : decode prog_9_method_17_code 44 = .ok (.iconst 0, 1) := by decide +kernel
theorem d_Mo_setLimit_45 : decode prog_9_method_17_code 45 = .ok (.istore 6, 2) := by decide +kernel
theorem d_Mo_setLimit_47 : decode prog_9_method_17_code 47 = .ok (.iload 6, 2) := by decide +kernel
theorem d_Mo_setLimit_49 : decode prog_9_method_17_code 49 = .ok (.iconst 4, 1) := by decide +kernel
theorem d_Mo_setLimit_50 : decode prog_9_method_17_code 50 = .ok (.if_icmp .ge 116, 3) := by decide +kernel
theorem d_Mo_setLimit_53 : decode prog_9_method_17_code 53 = .ok (.iload_n 2, 1) := by decide +kernel
theorem d_Mo_setLimit_54 : decode prog_9_method_17_code 54 = .ok (.iconst 5, 1) := by decide +kernel
theorem d_Mo_setLimit_55 : decode prog_9_method_17_code 55 = .ok (.if_icmp .ge 19, 3) := by decide +kernel
theorem d_Mo_setLimit_58 : decode prog_9_method_17_code 58 = .ok (.aload_n 0, 1) := by decide +kernel
theorem d_Mo_setLimit_59 : decode prog_9_method_17_code 59 = .ok (.getfield 16, 3) := by decide +kernel
theorem d_Mo_setLimit_62 : decode prog_9_method_17_code 62 = .ok (.iconst 5, 1) := by decide +kernel
theorem d_Mo_setLimit_63 : decode prog_9_method_17_code 63 = .ok (.iload 6, 2) := by decide +kernel
theorem d_Mo_setLimit_65 : decode prog_9_method_17_code 65 = .ok (.imul, 1) := by decide +kernel
theorem d_Mo_setLimit_66 : decode prog_9_method_17_code 66 = .ok (.iload_n 2, 1) := by decide +kernel
theorem d_Mo_setLimit_67 : decode prog_9_method_17_code 67 = .ok (.iadd, 1) := by decide +kernel
theorem d_Mo_setLimit_68 : decode prog_9_method_17_code 68 = .ok (.iaload, 1) := by decide +kernel
theorem d_Mo_setLimit_69 : decode prog_9_method_17_code 69 = .ok (.istore 7, 2) := by decide +kernel
theorem d_Mo_setLimit_71 : decode prog_9_method_17_code 71 = .ok (.goto 60, 3) := by decide +kernel
theorem d_Mo_setLimit_74 : decode prog_9_method_17_code 74 = .ok (.iload_n 2, 1) := by decide +kernel
theorem d_Mo_setLimit_75 : decode prog_9_method_17_code 75 = .ok (.bipush 7, 2) := by decide +kernel
theorem d_Mo_setLimit_77 : decode prog_9_method_17_code 77 = .ok (.if_icmp .ge 51, 3) := by decide +kernel
theorem d_Mo_setLimit_80 : decode prog_9_method_17_code 80 = .ok (.aload_n 0, 1) := by decide +kernel
theorem d_Mo_setLimit_81 : decode prog_9_method_17_code 81 = .ok (.getfield 29, 3) := by decide +kernel
theorem d_Mo_setLimit_84 : decode prog_9_method_17_code 84 = .ok (.iload_n 2, 1) := by decide +kernel
theorem d_Mo_setLimit_85 : decode prog_9_method_17_code 85 = .ok (.iaload, 1) := by decide +kernel
theorem d_Mo_setLimit_86 : decode prog_9_method_17_code 86 = .ok (.aload_n 0, 1) := by decide +kernel
theorem d_Mo_setLimit_87 : decode prog_9_method_17_code 87 = .ok (.getfield 16, 3) := by decide +kernel
theorem d_Mo_setLimit_90 : decode prog_9_method_17_code 90 = .ok (.iconst 5, 1) := by decide +kernel
theorem d_Mo_setLimit_91 : decode prog_9_method_17_code 91 = .ok (.iload 6, 2) := by decide +kernel
theorem d_Mo_setLimit_93 : decode prog_9_method_17_code 93 = .ok (.imul, 1) := by decide +kernel
theorem d_Mo_setLimit_94 : decode prog_9_method_17_code 94 = .ok (.aload_n 0, 1) := by decide +kernel
theorem d_Mo_setLimit_95 : decode prog_9_method_17_code 95 = .ok (.getfield 32, 3) := by decide +kernel
theorem d_Mo_setLimit_98 : decode prog_9_method_17_code 98 = .ok (.iload_n 2, 1) := by decide +kernel
theorem d_Mo_setLimit_99 : decode prog_9_method_17_code 99 = .ok (.iaload, 1) := by decide +kernel
theorem d_Mo_setLimit_100 : decode prog_9_method_17_code 100 = .ok (.iadd, 1) := by decide +kernel
theorem d_Mo_setLimit_101 : decode prog_9_method_17_code 101 = .ok (.iaload, 1) := by decide +kernel
theorem d_Mo_setLimit_102 : decode prog_9_method_17_code 102 = .ok (.imul, 1) := by decide +kernel
theorem d_Mo_setLimit_103 : decode prog_9_method_17_code 103 = .ok (.iload 5, 2) := by decide +kernel
theorem d_Mo_setLimit_105 : decode prog_9_method_17_code 105 = .ok (.aload_n 0, 1) := by decide +kernel
theorem d_Mo_setLimit_106 : decode prog_9_method_17_code 106 = .ok (.getfield 16, 3) := by decide +kernel
theorem d_Mo_setLimit_109 : decode prog_9_method_17_code 109 = .ok (.iconst 5, 1) := by decide +kernel
theorem d_Mo_setLimit_110 : decode prog_9_method_17_code 110 = .ok (.iload 6, 2) := by decide +kernel
theorem d_Mo_setLimit_112 : decode prog_9_method_17_code 112 = .ok (.imul, 1) := by decide +kernel
theorem d_Mo_setLimit_113 : decode prog_9_method_17_code 113 = .ok (.aload_n 0, 1) := by decide +kernel
theorem d_Mo_setLimit_114 : decode prog_9_method_17_code 114 = .ok (.getfield 35, 3) := by decide +kernel
theorem d_Mo_setLimit_117 : decode prog_9_method_17_code 117 = .ok (.iload_n 2, 1) := by decide +kernel
theorem d_Mo_setLimit_118 : decode prog_9_method_17_code 118 = .ok (.iaload, 1) := by decide +kernel
theorem d_Mo_setLimit_119 : decode prog_9_method_17_code 119 = .ok (.iadd, 1) := by decide +kernel
theorem d_Mo_setLimit_120 : decode prog_9_method_17_code 120 = .ok (.iaload, 1) := by decide +kernel
theorem d_Mo_setLimit_121 : decode prog_9_method_17_code 121 = .ok (.imul, 1) := by decide +kernel
theorem d_Mo_setLimit_122 : decode prog_9_method_17_code 122 = .ok (.isub, 1) := by decide +kernel
theorem d_Mo_setLimit_123 : decode prog_9_method_17_code 123 = .ok (.istore 7, 2) := by decide +kernel
theorem d_Mo_setLimit_125 : decode prog_9_method_17_code 125 = .ok (.goto 6, 3) := by decide +kernel
theorem d_Mo_setLimit_128 : decode prog_9_method_17_code 128 = .ok (.iconst 1, 1) := by decide +kernel
theorem d_Mo_setLimit_129 : decode prog_9_method_17_code 129 = .ok (.istore 7, 2) := by decide +kernel
theorem d_Mo_setLimit_131 : decode prog_9_method_17_code 131 = .ok (.aload_n 0, 1) := by decide +kernel
theorem d_Mo_setLimit_132 : decode prog_9_method_17_code 132 = .ok (.getfield 48, 3) := by decide +kernel
theorem d_Mo_setLimit_135 : decode prog_9_method_17_code 135 = .ok (.iconst 5, 1) := by decide +kernel
theorem d_Mo_setLimit_136 : decode prog_9_method_17_code 136 = .ok (.iload_n 1, 1) := by decide +kernel
theorem d_Mo_setLimit_137 : decode prog_9_method_17_code 137 = .ok (.imul, 1) := by decide +kernel
theorem d_Mo_setLimit_138 : decode prog_9_method_17_code 138 = .ok (.iload 6, 2) := by decide +kernel
theorem d_Mo_setLimit_140 : decode prog_9_method_17_code 140 = .ok (.iadd, 1) := by decide +kernel
theorem d_Mo_setLimit_141 : decode prog_9_method_17_code 141 = .ok (.iload 6, 2) := by decide +kernel
theorem d_Mo_setLimit_143 : decode prog_9_method_17_code 143 = .ok (.aload_n 0, 1) := by decide +kernel
theorem d_Mo_setLimit_144 : decode prog_9_method_17_code 144 = .ok (.getfield 64, 3) := by decide +kernel
theorem d_Mo_setLimit_147 : decode prog_9_method_17_code 147 = .ok (.if_icmp .ge 11, 3) := by decide +kernel
theorem d_Mo_setLimit_150 : decode prog_9_method_17_code 150 = .ok (.iload 4, 2) := by decide +kernel
theorem d_Mo_setLimit_152 : decode prog_9_method_17_code 152 = .ok (.iload 7, 2) := by decide +kernel
theorem d_Mo_setLimit_154 : decode prog_9_method_17_code 154 = .ok (.imul, 1) := by decide +kernel
theorem d_Mo_setLimit_155 : decode prog_9_method_17_code 155 = .ok (.goto 4, 3) := by decide +kernel
theorem d_Mo_setLimit_158 : decode prog_9_method_17_code 158 = .ok (.iconst 0, 1) := by decide +kernel
theorem d_Mo_setLimit_159 : decode prog_9_method_17_code 159 = .ok (.iastore, 1) := by decide +kernel
theorem d_Mo_setLimit_160 : decode prog_9_method_17_code 160 = .ok (.iinc 6 1, 3) := by decide +kernel
theorem d_Mo_setLimit_163 : decode prog_9_method_17_code 163 = .ok (.goto (-116), 3) := by decide +kernel
theorem d_Mo_setLimit_166 : decode prog_9_method_17_code 166 = .ok (.aload_n 0, 1) := by decide +kernel
theorem d_Mo_setLimit_167 : decode prog_9_method_17_code 167 = .ok (.getfield 48, 3) := by decide +kernel
theorem d_Mo_setLimit_170 : decode prog_9_method_17_code 170 = .ok (.iconst 5, 1) := by decide +kernel
theorem d_Mo_setLimit_171 : decode prog_9_method_17_code 171 = .ok (.iload_n 1, 1) := by decide +kernel
theorem d_Mo_setLimit_172 : decode prog_9_method_17_code 172 = .ok (.imul, 1) := by decide +kernel
theorem d_Mo_setLimit_173 : decode prog_9_method_17_code 173 = .ok (.iconst 4, 1) := by decide +kernel
theorem d_Mo_setLimit_174 : decode prog_9_method_17_code 174 = .ok (.iadd, 1) := by decide +kernel
theorem d_Mo_setLimit_175 : decode prog_9_method_17_code 175 = .ok (.iload_n 2, 1) := by decide +kernel
theorem d_Mo_setLimit_176 : decode prog_9_method_17_code 176 = .ok (.iconst 5, 1) := by decide +kernel
theorem d_Mo_setLimit_177 : decode prog_9_method_17_code 177 = .ok (.if_icmp .lt 13, 3) := by decide +kernel
theorem d_Mo_setLimit_180 : decode prog_9_method_17_code 180 = .ok (.iload_n 2, 1) := by decide +kernel
theorem d_Mo_setLimit_181 : decode prog_9_method_17_code 181 = .ok (.bipush 7, 2) := by decide +kernel
theorem d_Mo_setLimit_183 : decode prog_9_method_17_code 183 = .ok (.if_icmp .ge 7, 3) := by decide +kernel
theorem d_Mo_setLimit_186 : decode prog_9_method_17_code 186 = .ok (.iconst 0, 1) := by decide +kernel
theorem d_Mo_setLimit_187 : decode prog_9_method_17_code 187 = .ok (.goto 8, 3) := by decide +kernel
theorem d_Mo_setLimit_190 : decode prog_9_method_17_code 190 = .ok (.iload 4, 2) := by decide +kernel
theorem d_Mo_setLimit_192 : decode prog_9_method_17_code 192 = .ok (.iload 5, 2) := by decide +kernel
theorem d_Mo_setLimit_194 : decode prog_9_method_17_code 194 = .ok (.imul, 1) := by decide +kernel
theorem d_Mo_setLimit_195 : decode prog_9_method_17_code 195 = .ok (.iastore, 1) := by decide +kernel
theorem d_Mo_setLimit_196 : decode prog_9_method_17_code 196 = .ok (.return_, 1) := by decide +kernel
theorem d_Mo_setLimits_0 : decode prog_9_method_18_code 0 = .ok (.iconst 0, 1) := by decide +kernel
theorem d_Mo_setLimits_1 : decode prog_9_method_18_code 1 = .ok (.istore_n 1, 1) := by decide +kernel
theorem d_Mo_setLimits_2 : decode prog_9_method_18_code 2 = .ok (.iload_n 1, 1) := by decide +kernel
theorem d_Mo_setLimits_3 : decode prog_9_method_18_code 3 = .ok (.bipush 8, 2) := by decide +kernel
theorem d_Mo_setLimits_5 : decode prog_9_method_18_code 5 = .ok (.if_icmp .ge 29, 3) := by decide +kernel
theorem d_Mo_setLimits_8 : decode prog_9_method_18_code 8 = .ok (.aload_n 0, 1) := by decide +kernel
theorem d_Mo_setLimits_9 : decode prog_9_method_18_code 9 = .ok (.iconst 2, 1) := by decide +kernel
theorem d_Mo_setLimits_10 : decode prog_9_method_18_code 10 = .ok (.iload_n 1, 1) := by decide +kernel
theorem d_Mo_setLimits_11 : decode prog_9_method_18_code 11 = .ok (.imul, 1) := by decide +kernel
theorem d_Mo_setLimits_12 : decode prog_9_method_18_code 12 = .ok (.iload_n 1, 1) := by decide +kernel
theorem d_Mo_setLimits_13 : decode prog_9_method_18_code 13 = .ok (.iconst 0, 1) := by decide +kernel
theorem d_Mo_setLimits_14 : decode prog_9_method_18_code 14 = .ok (.invokevirtual 110, 3) := by decide +kernel
theorem d_Mo_setLimits_17 : decode prog_9_method_18_code 17 = .ok (.aload_n 0, 1) := by decide +kernel
theorem d_Mo_setLimits_18 : decode prog_9_method_18_code 18 = .ok (.iconst 2, 1) := by decide +kernel
theorem d_Mo_setLimits_19 : decode prog_9_method_18_code 19 = .ok (.iload_n 1, 1) := by decide +kernel
theorem d_Mo_setLimits_20 : decode prog_9_method_18_code 20 = .ok (.imul, 1) := by decide +kernel
theorem d_Mo_setLimits_21 : decode prog_9_method_18_code 21 = .ok (.iconst 1, 1) := by decide +kernel
theorem d_Mo_setLimits_22 : decode prog_9_method_18_code 22 = .ok (.iadd, 1) := by decide +kernel
theorem d_Mo_setLimits_23 : decode prog_9_method_18_code 23 = .ok (.iload_n 1, 1) := by decide +kernel
theorem d_Mo_setLimits_24 : decode prog_9_method_18_code 24 = .ok (.iconst 1, 1) := by decide +kernel
theorem d_Mo_setLimits_25 : decode prog_9_method_18_code 25 = .ok (.invokevirtual 110, 3) := by decide +kernel
theorem d_Mo_setLimits_28 : decode prog_9_method_18_code 28 = .ok (.iinc 1 1, 3) := by decide +kernel
theorem d_Mo_setLimits_31 : decode prog_9_method_18_code 31 = .ok (.goto (-29), 3) := by decide +kernel
theorem d_Mo_setLimits_34 : decode prog_9_method_18_code 34 = .ok (.iconst 0, 1) := by decide +kernel
theorem d_Mo_setLimits_35 : decode prog_9_method_18_code 35 = .ok (.istore_n 1, 1) := by decide +kernel
theorem d_Mo_setLimits_36 : decode prog_9_method_18_code 36 = .ok (.iload_n 1, 1) := by decide +kernel
theorem d_Mo_setLimits_37 : decode prog_9_method_18_code 37 = .ok (.iconst 4, 1) := by decide +kernel
theorem d_Mo_setLimits_38 : decode prog_9_method_18_code 38 = .ok (.if_icmp .ge 128, 3) := by decide +kernel
theorem d_Mo_setLimits_41 : decode prog_9_method_18_code 41 = .ok (.iconst 0, 1) := by decide +kernel
theorem d_Mo_setLimits_42 : decode prog_9_method_18_code 42 = .ok (.istore_n 2, 1) := by decide +kernel
theorem d_Mo_setLimits_43 : decode prog_9_method_18_code 43 = .ok (.iload_n 2, 1) := by decide +kernel
theorem d_Mo_setLimits_44 : decode prog_9_method_18_code 44 = .ok (.iconst 2, 1) := by decide +kernel
theorem d_Mo_setLimits_45 : decode prog_9_method_18_code 45 = .ok (.if_icmp .ge 115, 3) := by decide +kernel
theorem d_Mo_setLimits_48 : decode prog_9_method_18_code 48 = .ok (.bipush 16, 2) := by decide +kernel
theorem d_Mo_setLimits_50 : decode prog_9_method_18_code 50 = .ok (.iconst 2, 1) := by decide +kernel
theorem d_Mo_setLimits_51 : decode prog_9_method_18_code 51 = .ok (.iload_n 1, 1) := by decide +kernel
theorem d_Mo_setLimits_52 : decode prog_9_method_18_code 52 = .ok (.imul, 1) := by decide +kernel
theorem d_Mo_setLimits_53 : decode prog_9_method_18_code 53 = .ok (.iadd, 1) := by decide +kernel
theorem d_Mo_setLimits_54 : decode prog_9_method_18_code 54 = .ok (.iload_n 2, 1) := by decide +kernel
theorem d_Mo_setLimits_55 : decode prog_9_method_18_code 55 = .ok (.iadd, 1) := by decide +kernel
theorem d_Mo_setLimits_56 : decode prog_9_method_18_code 56 = .ok (.istore_n 3, 1) := by decide +kernel
theorem d_Mo_setLimits_57 : decode prog_9_method_18_code 57 = .ok (.aload_n 0, 1) := by decide +kernel
theorem d_Mo_setLimits_58 : decode prog_9_method_18_code 58 = .ok (.getfield 51, 3) := by decide +kernel
theorem d_Mo_setLimits_61 : decode prog_9_method_18_code 61 = .ok (.iload_n 3, 1) := by decide +kernel
theorem d_Mo_setLimits_62 : decode prog_9_method_18_code 62 = .ok (.iload_n 1, 1) := by decide +kernel
theorem d_Mo_setLimits_63 : decode prog_9_method_18_code 63 = .ok (.aload_n 0, 1) := by decide +kernel
theorem d_Mo_setLimits_64 : decode prog_9_method_18_code 64 = .ok (.getfield 64, 3) := by decide +kernel
theorem d_Mo_setLimits_67 : decode prog_9_method_18_code 67 = .ok (.if_icmp .lt 7, 3) := by decide +kernel
theorem d_Mo_setLimits_70 : decode prog_9_method_18_code 70 = .ok (.iload_n 2, 1) := by decide +kernel
theorem d_Mo_setLimits_71 : decode prog_9_method_18_code 71 = .ok (.ifCond .ne 7, 3) := by decide +kernel
theorem d_Mo_setLimits_74 : decode prog_9_method_18_code 74 = .ok (.iconst 1, 1) := by decide +kernel
theorem d_Mo_setLimits_75 : decode prog_9_method_18_code 75 = .ok (.goto 4, 3) := by decide +kernel
theorem d_Mo_setLimits_78 : decode prog_9_method_18_code 78 = .ok (.iconst 0, 1) := by decide +kernel
theorem d_Mo_setLimits_79 : decode prog_9_method_18_code 79 = .ok (.bastore, 1) := by decide +kernel
theorem d_Mo_setLimits_80 : decode prog_9_method_18_code 80 = .ok (.iconst 0, 1) := by decide +kernel
theorem d_Mo_setLimits_81 : decode prog_9_method_18_code 81 = .ok (.istore 4, 2) := by decide +kernel
theorem d_Mo_setLimits_83 : decode prog_9_method_18_code 83 = .ok (.iload 4, 2) := by decide +kernel
theorem d_Mo_setLimits_85 : decode prog_9_method_18_code 85 = .ok (.iconst 4, 1) := by decide +kernel
theorem d_Mo_setLimits_86 : decode prog_9_method_18_code 86 = .ok (.if_icmp .ge 35, 3) := by decide +kernel
theorem d_Mo_setLimits_89 : decode prog_9_method_18_code 89 = .ok (.aload_n 0, 1) := by decide +kernel
theorem d_Mo_setLimits_90 : decode prog_9_method_18_code 90 = .ok (.getfield 48, 3) := by decide +kernel
theorem d_Mo_setLimits_93 : decode prog_9_method_18_code 93 = .ok (.iconst 5, 1) := by decide +kernel
theorem d_Mo_setLimits_94 : decode prog_9_method_18_code 94 = .ok (.iload_n 3, 1) := by decide +kernel
theorem d_Mo_setLimits_95 : decode prog_9_method_18_code 95 = .ok (.imul, 1) := by decide +kernel
theorem d_Mo_setLimits_96 : decode prog_9_method_18_code 96 = .ok (.iload 4, 2) := by decide +kernel
theorem d_Mo_setLimits_98 : decode prog_9_method_18_code 98 = .ok (.iadd, 1) := by decide +kernel
theorem d_Mo_setLimits_99 : decode prog_9_method_18_code 99 = .ok (.iload 4, 2) := by decide +kernel
theorem d_Mo_setLimits_101 : decode prog_9_method_18_code 101 = .ok (.iload_n 1, 1) := by decide +kernel
theorem d_Mo_setLimits_102 : decode prog_9_method_18_code 102 = .ok (.if_icmp .ne 11, 3) := by decide +kernel
theorem d_Mo_setLimits_105 : decode prog_9_method_18_code 105 = .ok (.iconst 1, 1) := by decide +kernel
theorem d_Mo_setLimits_106 : decode prog_9_method_18_code 106 = .ok (.iconst 2, 1) := by decide +kernel
theorem d_Mo_setLimits_107 : decode prog_9_method_18_code 107 = .ok (.iload_n 2, 1) := by decide +kernel
theorem d_Mo_setLimits_108 : decode prog_9_method_18_code 108 = .ok (.imul, 1) := by decide +kernel
theorem d_Mo_setLimits_109 : decode prog_9_method_18_code 109 = .ok (.isub, 1) := by decide +kernel
theorem d_Mo_setLimits_110 : decode prog_9_method_18_code 110 = .ok (.goto 4, 3) := by decide +kernel
theorem d_Mo_setLimits_113 : decode prog_9_method_18_code 113 = .ok (.iconst 0, 1) := by decide +kernel
theorem d_Mo_setLimits_114 : decode prog_9_method_18_code 114 = .ok (.iastore, 1) := by decide +kernel
theorem d_Mo_setLimits_115 : decode prog_9_method_18_code 115 = .ok (.iinc 4 1, 3) := by decide +kernel
theorem d_Mo_setLimits_118 : decode prog_9_method_18_code 118 = .ok (.goto (-35), 3) := by decide +kernel
theorem d_Mo_setLimits_121 : decode prog_9_method_18_code 121 = .ok (.aload_n 0, 1) := by decide +kernel
theorem d_Mo_setLimits_122 : decode prog_9_method_18_code 122 = .ok (.getfield 48, 3) := by decide +kernel
theorem d_Mo_setLimits_125 : decode prog_9_method_18_code 125 = .ok (.iconst 5, 1) := by decide +kernel
theorem d_Mo_setLimits_126 : decode prog_9_method_18_code 126 = .ok (.iload_n 3, 1) := by decide +kernel
theorem d_Mo_setLimits_127 : decode prog_9_method_18_code 127 = .ok (.imul, 1) := by decide +kernel
theorem d_Mo_setLimits_128 : decode prog_9_method_18_code 128 = .ok (.iconst 4, 1) := by decide +kernel
theorem d_Mo_setLimits_129 : decode prog_9_method_18_code 129 = .ok (.iadd, 1) := by decide +kernel
theorem d_Mo_setLimits_130 : decode prog_9_method_18_code 130 = .ok (.iload_n 2, 1) := by decide +kernel
theorem d_Mo_setLimits_131 : decode prog_9_method_18_code 131 = .ok (.ifCond .eq 11, 3) := by decide +kernel
theorem d_Mo_setLimits_134 : decode prog_9_method_18_code 134 = .ok (.iload_n 1, 1) := by decide +kernel
theorem d_Mo_setLimits_135 : decode prog_9_method_18_code 135 = .ok (.aload_n 0, 1) := by decide +kernel
theorem d_Mo_setLimits_136 : decode prog_9_method_18_code 136 = .ok (.getfield 64, 3) := by decide +kernel
theorem d_Mo_setLimits_139 : decode prog_9_method_18_code 139 = .ok (.if_icmp .lt 7, 3) := by decide +kernel
theorem d_Mo_setLimits_142 : decode prog_9_method_18_code 142 = .ok (.iconst 0, 1) := by decide +kernel
theorem d_Mo_setLimits_143 : decode prog_9_method_18_code 143 = .ok (.goto 10, 3) := by decide +kernel
theorem d_Mo_setLimits_146 : decode prog_9_method_18_code 146 = .ok (.aload_n 0, 1) := by decide +kernel
theorem d_Mo_setLimits_147 : decode prog_9_method_18_code 147 = .ok (.getfield 7, 3) := by decide +kernel
theorem d_Mo_setLimits_150 : decode prog_9_method_18_code 150 = .ok (.iload_n 1, 1) := by decide +kernel
theorem d_Mo_setLimits_151 : decode prog_9_method_18_code 151 = .ok (.iaload, 1) := by decide +kernel
theorem d_Mo_setLimits_152 : decode prog_9_method_18_code 152 = .ok (.ineg, 1) := by decide +kernel
theorem d_Mo_setLimits_153 : decode prog_9_method_18_code 153 = .ok (.iastore, 1) := by decide +kernel
theorem d_Mo_setLimits_154 : decode prog_9_method_18_code 154 = .ok (.iinc 2 1, 3) := by decide +kernel
theorem d_Mo_setLimits_157 : decode prog_9_method_18_code 157 = .ok (.goto (-114), 3) := by decide +kernel
theorem d_Mo_setLimits_160 : decode prog_9_method_18_code 160 = .ok (.iinc 1 1, 3) := by decide +kernel
theorem d_Mo_setLimits_163 : decode prog_9_method_18_code 163 = .ok (.goto (-127), 3) := by decide +kernel
theorem d_Mo_setLimits_166 : decode prog_9_method_18_code 166 = .ok (.return_, 1) := by decide +kernel
theorem d_Mo_at_0 : decode prog_9_method_19_code 0 = .ok (.aload_n 0, 1) := by decide +kernel
theorem d_Mo_at_1 : decode prog_9_method_19_code 1 = .ok (.getfield 48, 3) := by decide +kernel
theorem d_Mo_at_4 : decode prog_9_method_19_code 4 = .ok (.iconst 5, 1) := by decide +kernel
theorem d_Mo_at_5 : decode prog_9_method_19_code 5 = .ok (.aload_n 0, 1) := by decide +kernel
theorem d_Mo_at_6 : decode prog_9_method_19_code 6 = .ok (.getfield 54, 3) := by decide +kernel
theorem d_Mo_at_9 : decode prog_9_method_19_code 9 = .ok (.iload_n 1, 1) := by decide +kernel
theorem d_Mo_at_10 : decode prog_9_method_19_code 10 = .ok (.iaload, 1) := by decide +kernel
theorem d_Mo_at_11 : decode prog_9_method_19_code 11 = .ok (.imul, 1) := by decide +kernel
theorem d_Mo_at_12 : decode prog_9_method_19_code 12 = .ok (.iload_n 2, 1) := by decide +kernel
theorem d_Mo_at_13 : decode prog_9_method_19_code 13 = .ok (.iload_n 3, 1) := by decide +kernel
theorem d_Mo_at_14 : decode prog_9_method_19_code 14 = .ok (.if_icmp .ne 7, 3) := by decide +kernel
theorem d_Mo_at_17 : decode prog_9_method_19_code 17 = .ok (.iconst 4, 1) := by decide +kernel
theorem d_Mo_at_18 : decode prog_9_method_19_code 18 = .ok (.goto 4, 3) := by decide +kernel
theorem d_Mo_at_21 : decode prog_9_method_19_code 21 = .ok (.iload_n 2, 1) := by decide +kernel
theorem d_Mo_at_22 : decode prog_9_method_19_code 22 = .ok (.iadd, 1) := by decide +kernel
theorem d_Mo_at_23 : decode prog_9_method_19_code 23 = .ok (.iaload, 1) := by decide +kernel
theorem d_Mo_at_24 : decode prog_9_method_19_code 24 = .ok (.i2l, 1) := by decide +kernel
theorem d_Mo_at_25 : decode prog_9_method_19_code 25 = .ok (.lreturn, 1) := by decide +kernel
theorem d_Mo_minor_0 : decode prog_9_method_20_code 0 = .ok (.aload_n 0, 1) := by decide +kernel
theorem d_Mo_minor_1 : decode prog_9_method_20_code 1 = .ok (.iload_n 1, 1) := by decide +kernel
theorem d_Mo_minor_2 : decode prog_9_method_20_code 2 = .ok (.iload_n 3, 1) := by decide +kernel
theorem d_Mo_minor_3 : decode prog_9_method_20_code 3 = .ok (.iload 5, 2) := by decide +kernel
theorem d_Mo_minor_5 : decode prog_9_method_20_code 5 = .ok (.invokevirtual 114, 3) := by decide +kernel
theorem d_Mo_minor_8 : decode prog_9_method_20_code 8 = .ok (.aload_n 0, 1) := by decide +kernel
theorem d_Mo_minor_9 : decode prog_9_method_20_code 9 = .ok (.iload_n 2, 1) := by decide +kernel
theorem d_Mo_minor_10 : decode prog_9_method_20_code 10 = .ok (.iload 4, 2) := by decide +kernel
theorem d_Mo_minor_12 : decode prog_9_method_20_code 12 = .ok (.iload 5, 2) := by decide +kernel
theorem d_Mo_minor_14 : decode prog_9_method_20_code 14 = .ok (.invokevirtual 114, 3) := by decide +kernel
theorem d_Mo_minor_17 : decode prog_9_method_20_code 17 = .ok (.lmul, 1) := by decide +kernel
theorem d_Mo_minor_18 : decode prog_9_method_20_code 18 = .ok (.aload_n 0, 1) := by decide +kernel
theorem d_Mo_minor_19 : decode prog_9_method_20_code 19 = .ok (.iload_n 1, 1) := by decide +kernel
theorem d_Mo_minor_20 : decode prog_9_method_20_code 20 = .ok (.iload 4, 2) := by decide +kernel
theorem d_Mo_minor_22 : decode prog_9_method_20_code 22 = .ok (.iload 5, 2) := by decide +kernel
theorem d_Mo_minor_24 : decode prog_9_method_20_code 24 = .ok (.invokevirtual 114, 3) := by decide +kernel
theorem d_Mo_minor_27 : decode prog_9_method_20_code 27 = .ok (.aload_n 0, 1) := by decide +kernel
theorem d_Mo_minor_28 : decode prog_9_method_20_code 28 = .ok (.iload_n 2, 1) := by decide +kernel
theorem d_Mo_minor_29 : decode prog_9_method_20_code 29 = .ok (.iload_n 3, 1) := by decide +kernel
theorem d_Mo_minor_30 : decode prog_9_method_20_code 30 = .ok (.iload 5, 2) := by decide +kernel
theorem d_Mo_minor_32 : decode prog_9_method_20_code 32 = .ok (.invokevirtual 114, 3) := by decide +kernel
theorem d_Mo_minor_35 : decode prog_9_method_20_code 35 = .ok (.lmul, 1) := by decide +kernel
theorem d_Mo_minor_36 : decode prog_9_method_20_code 36 = .ok (.lsub, 1) := by decide +kernel
theorem d_Mo_minor_37 : decode prog_9_method_20_code 37 = .ok (.lreturn, 1) := by decide +kernel
theorem d_Mo_determinant_0 : decode prog_9_method_21_code 0 = .ok (.aload_n 0, 1) := by decide +kernel
theorem d_Mo_determinant_1 : decode prog_9_method_21_code 1 = .ok (.iconst 0, 1) := by decide +kernel
theorem d_Mo_determinant_2 : decode prog_9_method_21_code 2 = .ok (.iconst 1, 1) := by decide +kernel
theorem d_Mo_determinant_3 : decode prog_9_method_21_code 3 = .ok (.iconst 0, 1) := by decide +kernel
theorem d_Mo_determinant_4 : decode prog_9_method_21_code 4 = .ok (.iconst 1, 1) := by decide +kernel
theorem d_Mo_determinant_5 : decode prog_9_method_21_code 5 = .ok (.iload_n 1, 1) := by decide +kernel
theorem d_Mo_determinant_6 : decode prog_9_method_21_code 6 = .ok (.invokevirtual 118, 3) := by decide +kernel
theorem d_Mo_determinant_9 : decode prog_9_method_21_code 9 = .ok (.aload_n 0, 1) := by decide +kernel
theorem d_Mo_determinant_10 : decode prog_9_method_21_code 10 = .ok (.iconst 2, 1) := by decide +kernel
theorem d_Mo_determinant_11 : decode prog_9_method_21_code 11 = .ok (.iconst 3, 1) := by decide +kernel
theorem d_Mo_determinant_12 : decode prog_9_method_21_code 12 = .ok (.iconst 2, 1) := by decide +kernel
theorem d_Mo_determinant_13 : decode prog_9_method_21_code 13 = .ok (.iconst 3, 1) := by decide +kernel
theorem d_Mo_determinant_14 : decode prog_9_method_21_code 14 = .ok (.iload_n 1, 1) := by decide +kernel
theorem d_Mo_determinant_15 : decode prog_9_method_21_code 15 = .ok (.invokevirtual 118, 3) := by decide +kernel
theorem d_Mo_determinant_18 : decode prog_9_method_21_code 18 = .ok (.lmul, 1) := by decide +kernel
theorem d_Mo_determinant_19 : decode prog_9_method_21_code 19 = .ok (.aload_n 0, 1) := by decide +kernel
theorem d_Mo_determinant_20 : decode prog_9_method_21_code 20 = .ok (.iconst 0, 1) := by decide +kernel
theorem d_Mo_determinant_21 : decode prog_9_method_21_code 21 = .ok (.iconst 1, 1) := by decide +kernel
theorem d_Mo_determinant_22 : decode prog_9_method_21_code 22 = .ok (.iconst 0, 1) := by decide +kernel
theorem d_Mo_determinant_23 : decode prog_9_method_21_code 23 = .ok (.iconst 2, 1) := by decide +kernel
theorem d_Mo_determinant_24 : decode prog_9_method_21_code 24 = .ok (.iload_n 1, 1) := by decide +kernel
theorem d_Mo_determinant_25 : decode prog_9_method_21_code 25 = .ok (.invokevirtual 118, 3) := by decide +kernel
theorem d_Mo_determinant_28 : decode prog_9_method_21_code 28 = .ok (.aload_n 0, 1) := by decide +kernel
theorem d_Mo_determinant_29 : decode prog_9_method_21_code 29 = .ok (.iconst 2, 1) := by decide +kernel
theorem d_Mo_determinant_30 : decode prog_9_method_21_code 30 = .ok (.iconst 3, 1) := by decide +kernel
theorem d_Mo_determinant_31 : decode prog_9_method_21_code 31 = .ok (.iconst 1, 1) := by decide +kernel
theorem d_Mo_determinant_32 : decode prog_9_method_21_code 32 = .ok (.iconst 3, 1) := by decide +kernel
theorem d_Mo_determinant_33 : decode prog_9_method_21_code 33 = .ok (.iload_n 1, 1) := by decide +kernel
theorem d_Mo_determinant_34 : decode prog_9_method_21_code 34 = .ok (.invokevirtual 118, 3) := by decide +kernel
theorem d_Mo_determinant_37 : decode prog_9_method_21_code 37 = .ok (.lmul, 1) := by decide +kernel
theorem d_Mo_determinant_38 : decode prog_9_method_21_code 38 = .ok (.lsub, 1) := by decide +kernel
theorem d_Mo_determinant_39 : decode prog_9_method_21_code 39 = .ok (.aload_n 0, 1) := by decide +kernel
theorem d_Mo_determinant_40 : decode prog_9_method_21_code 40 = .ok (.iconst 0, 1) := by decide +kernel
theorem d_Mo_determinant_41 : decode prog_9_method_21_code 41 = .ok (.iconst 1, 1) := by decide +kernel
theorem d_Mo_determinant_42 : decode prog_9_method_21_code 42 = .ok (.iconst 0, 1) := by decide +kernel
theorem d_Mo_determinant_43 : decode prog_9_method_21_code 43 = .ok (.iconst 3, 1) := by decide +kernel
theorem d_Mo_determinant_44 : decode prog_9_method_21_code 44 = .ok (.iload_n 1, 1) := by decide +kernel
theorem d_Mo_determinant_45 : decode prog_9_method_21_code 45 = .ok (.invokevirtual 118, 3) := by decide +kernel
theorem d_Mo_determinant_48 : decode prog_9_method_21_code 48 = .ok (.aload_n 0, 1) := by decide +kernel
theorem d_Mo_determinant_49 : decode prog_9_method_21_code 49 = .ok (.iconst 2, 1) := by decide +kernel
theorem d_Mo_determinant_50 : decode prog_9_method_21_code 50 = .ok (.iconst 3, 1) := by decide +kernel
theorem d_Mo_determinant_51 : decode prog_9_method_21_code 51 = .ok (.iconst 1, 1) := by decide +kernel
theorem d_Mo_determinant_52 : decode prog_9_method_21_code 52 = .ok (.iconst 2, 1) := by decide +kernel
theorem d_Mo_determinant_53 : decode prog_9_method_21_code 53 = .ok (.iload_n 1, 1) := by decide +kernel
theorem d_Mo_determinant_54 : decode prog_9_method_21_code 54 = .ok (.invokevirtual 118, 3) := by decide +kernel
theorem d_Mo_determinant_57 : decode prog_9_method_21_code 57 = .ok (.lmul, 1) := by decide +kernel
theorem d_Mo_determinant_58 : decode prog_9_method_21_code 58 = .ok (.ladd, 1) := by decide +kernel
theorem d_Mo_determinant_59 : decode prog_9_method_21_code 59 = .ok (.aload_n 0, 1) := by decide +kernel
theorem d_Mo_determinant_60 : decode prog_9_method_21_code 60 = .ok (.iconst 0, 1) := by decide +kernel
theorem d_Mo_determinant_61 : decode prog_9_method_21_code 61 = .ok (.iconst 1, 1) := by decide +kernel
theorem d_Mo_determinant_62 : decode prog_9_method_21_code 62 = .ok (.iconst 1, 1) := by decide +kernel
theorem d_Mo_determinant_63 : decode prog_9_method_21_code 63 = .ok (.iconst 2, 1) := by decide +kernel
theorem d_Mo_determinant_64 : decode prog_9_method_21_code 64 = .ok (.iload_n 1, 1) := by decide +kernel
theorem d_Mo_determinant_65 : decode prog_9_method_21_code 65 = .ok (.invokevirtual 118, 3) := by decide +kernel
theorem d_Mo_determinant_68 : decode prog_9_method_21_code 68 = .ok (.aload_n 0, 1) := by decide +kernel
theorem d_Mo_determinant_69 : decode prog_9_method_21_code 69 = .ok (.iconst 2, 1) := by decide +kernel
theorem d_Mo_determinant_70 : decode prog_9_method_21_code 70 = .ok (.iconst 3, 1) := by decide +kernel
theorem d_Mo_determinant_71 : decode prog_9_method_21_code 71 = .ok (.iconst 0, 1) := by decide +kernel
theorem d_Mo_determinant_72 : decode prog_9_method_21_code 72 = .ok (.iconst 3, 1) := by decide +kernel
theorem d_Mo_determinant_73 : decode prog_9_method_21_code 73 = .ok (.iload_n 1, 1) := by decide +kernel
theorem d_Mo_determinant_74 : decode prog_9_method_21_code 74 = .ok (.invokevirtual 118, 3) := by decide +kernel
theorem d_Mo_determinant_77 : decode prog_9_method_21_code 77 = .ok (.lmul, 1) := by decide +kernel
theorem d_Mo_determinant_78 : decode prog_9_method_21_code 78 = .ok (.ladd, 1) := by decide +kernel
theorem d_Mo_determinant_79 : decode prog_9_method_21_code 79 = .ok (.aload_n 0, 1) := by decide +kernel
theorem d_Mo_determinant_80 : decode prog_9_method_21_code 80 = .ok (.iconst 0, 1) := by decide +kernel
theorem d_Mo_determinant_81 : decode prog_9_method_21_code 81 = .ok (.iconst 1, 1) := by decide +kernel
theorem d_Mo_determinant_82 : decode prog_9_method_21_code 82 = .ok (.iconst 1, 1) := by decide +kernel
theorem d_Mo_determinant_83 : decode prog_9_method_21_code 83 = .ok (.iconst 3, 1) := by decide +kernel
theorem d_Mo_determinant_84 : decode prog_9_method_21_code 84 = .ok (.iload_n 1, 1) := by decide +kernel
theorem d_Mo_determinant_85 : decode prog_9_method_21_code 85 = .ok (.invokevirtual 118, 3) := by decide +kernel
theorem d_Mo_determinant_88 : decode prog_9_method_21_code 88 = .ok (.aload_n 0, 1) := by decide +kernel
theorem d_Mo_determinant_89 : decode prog_9_method_21_code 89 = .ok (.iconst 2, 1) := by decide +kernel
theorem d_Mo_determinant_90 : decode prog_9_method_21_code 90 = .ok (.iconst 3, 1) := by decide +kernel
theorem d_Mo_determinant_91 : decode prog_9_method_21_code 91 = .ok (.iconst 0, 1) := by decide +kernel
theorem d_Mo_determinant_92 : decode prog_9_method_21_code 92 = .ok (.iconst 2, 1) := by decide +kernel
theorem d_Mo_determinant_93 : decode prog_9_method_21_code 93 = .ok (.iload_n 1, 1) := by decide +kernel
theorem d_Mo_determinant_94 : decode prog_9_method_21_code 94 = .ok (.invokevirtual 118, 3) := by decide +kernel
theorem d_Mo_determinant_97 : decode prog_9_method_21_code 97 = .ok (.lmul, 1) := by decide +kernel
theorem d_Mo_determinant_98 : decode prog_9_method_21_code 98 = .ok (.lsub, 1) := by decide +kernel
theorem d_Mo_determinant_99 : decode prog_9_method_21_code 99 = .ok (.aload_n 0, 1) := by decide +kernel
theorem d_Mo_determinant_100 : decode prog_9_method_21_code 100 = .ok (.iconst 0, 1) := by decide +kernel
theorem d_Mo_determinant_101 : decode prog_9_method_21_code 101 = .ok (.iconst 1, 1) := by decide +kernel
theorem d_Mo_determinant_102 : decode prog_9_method_21_code 102 = .ok (.iconst 2, 1) := by decide +kernel
theorem d_Mo_determinant_103 : decode prog_9_method_21_code 103 = .ok (.iconst 3, 1) := by decide +kernel
theorem d_Mo_determinant_104 : decode prog_9_method_21_code 104 = .ok (.iload_n 1, 1) := by decide +kernel
theorem d_Mo_determinant_105 : decode prog_9_method_21_code 105 = .ok (.invokevirtual 118, 3) := by decide +kernel
theorem d_Mo_determinant_108 : decode prog_9_method_21_code 108 = .ok (.aload_n 0, 1) := by decide +kernel
theorem d_Mo_determinant_109 : decode prog_9_method_21_code 109 = .ok (.iconst 2, 1) := by decide +kernel
theorem d_Mo_determinant_110 : decode prog_9_method_21_code 110 = .ok (.iconst 3, 1) := by decide +kernel
theorem d_Mo_determinant_111 : decode prog_9_method_21_code 111 = .ok (.iconst 0, 1) := by decide +kernel
theorem d_Mo_determinant_112 : decode prog_9_method_21_code 112 = .ok (.iconst 1, 1) := by decide +kernel
theorem d_Mo_determinant_113 : decode prog_9_method_21_code 113 = .ok (.iload_n 1, 1) := by decide +kernel
theorem d_Mo_determinant_114 : decode prog_9_method_21_code 114 = .ok (.invokevirtual 118, 3) := by decide +kernel
theorem d_Mo_determinant_117 : decode prog_9_method_21_code 117 = .ok (.lmul, 1) := by decide +kernel
theorem d_Mo_determinant_118 : decode prog_9_method_21_code 118 = .ok (.ladd, 1) := by decide +kernel
theorem d_Mo_determinant_119 : decode prog_9_method_21_code 119 = .ok (.lreturn, 1) := by decide +kernel
theorem d_Mo_common_0 : decode prog_9_method_22_code 0 = .ok (.lload_n 0, 1) := by decide +kernel
theorem d_Mo_common_1 : decode prog_9_method_22_code 1 = .ok (.lconst 0, 1) := by decide +kernel
theorem d_Mo_common_2 : decode prog_9_method_22_code 2 = .ok (.lcmp, 1) := by decide +kernel
theorem d_Mo_common_3 : decode prog_9_method_22_code 3 = .ok (.ifCond .ge 8, 3) := by decide +kernel
theorem d_Mo_common_6 : decode prog_9_method_22_code 6 = .ok (.lload_n 0, 1) := by decide +kernel
theorem d_Mo_common_7 : decode prog_9_method_22_code 7 = .ok (.lneg, 1) := by decide +kernel
theorem d_Mo_common_8 : decode prog_9_method_22_code 8 = .ok (.goto 4, 3) := by decide +kernel
theorem d_Mo_common_11 : decode prog_9_method_22_code 11 = .ok (.lload_n 0, 1) := by decide +kernel
theorem d_Mo_common_12 : decode prog_9_method_22_code 12 = .ok (.lstore 4, 2) := by decide +kernel
theorem d_Mo_common_14 : decode prog_9_method_22_code 14 = .ok (.lload_n 2, 1) := by decide +kernel
theorem d_Mo_common_15 : decode prog_9_method_22_code 15 = .ok (.lconst 0, 1) := by decide +kernel
theorem d_Mo_common_16 : decode prog_9_method_22_code 16 = .ok (.lcmp, 1) := by decide +kernel
theorem d_Mo_common_17 : decode prog_9_method_22_code 17 = .ok (.ifCond .ge 8, 3) := by decide +kernel
theorem d_Mo_common_20 : decode prog_9_method_22_code 20 = .ok (.lload_n 2, 1) := by decide +kernel
theorem d_Mo_common_21 : decode prog_9_method_22_code 21 = .ok (.lneg, 1) := by decide +kernel
theorem d_Mo_common_22 : decode prog_9_method_22_code 22 = .ok (.goto 4, 3) := by decide +kernel
theorem d_Mo_common_25 : decode prog_9_method_22_code 25 = .ok (.lload_n 2, 1) := by decide +kernel
theorem d_Mo_common_26 : decode prog_9_method_22_code 26 = .ok (.lstore 6, 2) := by decide +kernel
theorem d_Mo_common_28 : decode prog_9_method_22_code 28 = .ok (.lload 4, 2) := by decide +kernel
theorem d_Mo_common_30 : decode prog_9_method_22_code 30 = .ok (.lconst 0, 1) := by decide +kernel
theorem d_Mo_common_31 : decode prog_9_method_22_code 31 = .ok (.lcmp, 1) := by decide +kernel
theorem d_Mo_common_32 : decode prog_9_method_22_code 32 = .ok (.ifCond .eq 21, 3) := by decide +kernel
theorem d_Mo_common_35 : decode prog_9_method_22_code 35 = .ok (.lload 6, 2) := by decide +kernel
theorem d_Mo_common_37 : decode prog_9_method_22_code 37 = .ok (.lload 4, 2) := by decide +kernel
theorem d_Mo_common_39 : decode prog_9_method_22_code 39 = .ok (.lrem, 1) := by decide +kernel
theorem d_Mo_common_40 : decode prog_9_method_22_code 40 = .ok (.lstore 8, 2) := by decide +kernel
theorem d_Mo_common_42 : decode prog_9_method_22_code 42 = .ok (.lload 4, 2) := by decide +kernel
theorem d_Mo_common_44 : decode prog_9_method_22_code 44 = .ok (.lstore 6, 2) := by decide +kernel
theorem d_Mo_common_46 : decode prog_9_method_22_code 46 = .ok (.lload 8, 2) := by decide +kernel
theorem d_Mo_common_48 : decode prog_9_method_22_code 48 = .ok (.lstore 4, 2) := by decide +kernel
theorem d_Mo_common_50 : decode prog_9_method_22_code 50 = .ok (.goto (-22), 3) := by decide +kernel
theorem d_Mo_common_53 : decode prog_9_method_22_code 53 = .ok (.lload 6, 2) := by decide +kernel
theorem d_Mo_common_55 : decode prog_9_method_22_code 55 = .ok (.lreturn, 1) := by decide +kernel
theorem d_Mo_meet_0 : decode prog_9_method_23_code 0 = .ok (.aload_n 0, 1) := by decide +kernel
theorem d_Mo_meet_1 : decode prog_9_method_23_code 1 = .ok (.aload_n 0, 1) := by decide +kernel
theorem d_Mo_meet_2 : decode prog_9_method_23_code 2 = .ok (.iconst 4, 1) := by decide +kernel
theorem d_Mo_meet_3 : decode prog_9_method_23_code 3 = .ok (.invokevirtual 122, 3) := by decide +kernel
theorem d_Mo_meet_6 : decode prog_9_method_23_code 6 = .ok (.putfield 126, 3) := by decide +kernel
theorem d_Mo_meet_9 : decode prog_9_method_23_code 9 = .ok (.aload_n 0, 1) := by decide +kernel
theorem d_Mo_meet_10 : decode prog_9_method_23_code 10 = .ok (.getfield 126, 3) := by decide +kernel
theorem d_Mo_meet_13 : decode prog_9_method_23_code 13 = .ok (.lconst 0, 1) := by decide +kernel
theorem d_Mo_meet_14 : decode prog_9_method_23_code 14 = .ok (.lcmp, 1) := by decide +kernel
theorem d_Mo_meet_15 : decode prog_9_method_23_code 15 = .ok (.ifCond .ne 5, 3) := by decide +kernel
theorem d_Mo_meet_18 : decode prog_9_method_23_code 18 = .ok (.iconst 0, 1) := by decide +kernel
theorem d_Mo_meet_19 : decode prog_9_method_23_code 19 = .ok (.ireturn, 1) := by decide +kernel
theorem d_Mo_meet_20 : decode prog_9_method_23_code 20 = .ok (.aload_n 0, 1) := by decide +kernel
theorem d_Mo_meet_21 : decode prog_9_method_23_code 21 = .ok (.getfield 126, 3) := by decide +kernel
theorem d_Mo_meet_24 : decode prog_9_method_23_code 24 = .ok (.lstore_n 1, 1) := by decide +kernel
theorem d_Mo_meet_25 : decode prog_9_method_23_code 25 = .ok (.iconst 0, 1) := by decide +kernel
theorem d_Mo_meet_26 : decode prog_9_method_23_code 26 = .ok (.istore_n 3, 1) := by decide +kernel
theorem d_Mo_meet_27 : decode prog_9_method_23_code 27 = .ok (.iload_n 3, 1) := by decide +kernel
theorem d_Mo_meet_28 : decode prog_9_method_23_code 28 = .ok (.iconst 4, 1) := by decide +kernel
theorem d_Mo_meet_29 : decode prog_9_method_23_code 29 = .ok (.if_icmp .ge 31, 3) := by decide +kernel
theorem d_Mo_meet_32 : decode prog_9_method_23_code 32 = .ok (.aload_n 0, 1) := by decide +kernel
theorem d_Mo_meet_33 : decode prog_9_method_23_code 33 = .ok (.getfield 57, 3) := by decide +kernel
theorem d_Mo_meet_36 : decode prog_9_method_23_code 36 = .ok (.iload_n 3, 1) := by decide +kernel
theorem d_Mo_meet_37 : decode prog_9_method_23_code 37 = .ok (.aload_n 0, 1) := by decide +kernel
theorem d_Mo_meet_38 : decode prog_9_method_23_code 38 = .ok (.iload_n 3, 1) := by decide +kernel
theorem d_Mo_meet_39 : decode prog_9_method_23_code 39 = .ok (.invokevirtual 122, 3) := by decide +kernel
theorem d_Mo_meet_42 : decode prog_9_method_23_code 42 = .ok (.lastore, 1) := by decide +kernel
theorem d_Mo_meet_43 : decode prog_9_method_23_code 43 = .ok (.aload_n 0, 1) := by decide +kernel
theorem d_Mo_meet_44 : decode prog_9_method_23_code 44 = .ok (.getfield 57, 3) := by decide +kernel
theorem d_Mo_meet_47 : decode prog_9_method_23_code 47 = .ok (.iload_n 3, 1) := by decide +kernel
theorem d_Mo_meet_48 : decode prog_9_method_23_code 48 = .ok (.laload, 1) := by decide +kernel
theorem d_Mo_meet_49 : decode prog_9_method_23_code 49 = .ok (.lload_n 1, 1) := by decide +kernel
theorem d_Mo_meet_50 : decode prog_9_method_23_code 50 = .ok (.invokestatic 129, 3) := by decide +kernel
theorem d_Mo_meet_53 : decode prog_9_method_23_code 53 = .ok (.lstore_n 1, 1) := by decide +kernel
theorem d_Mo_meet_54 : decode prog_9_method_23_code 54 = .ok (.iinc 3 1, 3) := by decide +kernel
theorem d_Mo_meet_57 : decode prog_9_method_23_code 57 = .ok (.goto (-30), 3) := by decide +kernel
theorem d_Mo_meet_60 : decode prog_9_method_23_code 60 = .ok (.aload_n 0, 1) := by decide +kernel
theorem d_Mo_meet_61 : decode prog_9_method_23_code 61 = .ok (.getfield 126, 3) := by decide +kernel
theorem d_Mo_meet_64 : decode prog_9_method_23_code 64 = .ok (.lconst 0, 1) := by decide +kernel
theorem d_Mo_meet_65 : decode prog_9_method_23_code 65 = .ok (.lcmp, 1) := by decide +kernel
theorem d_Mo_meet_66 : decode prog_9_method_23_code 66 = .ok (.ifCond .ge 8, 3) := by decide +kernel
theorem d_Mo_meet_69 : decode prog_9_method_23_code 69 = .ok (.lload_n 1, 1) := by decide +kernel
theorem d_Mo_meet_70 : decode prog_9_method_23_code 70 = .ok (.lneg, 1) := by decide +kernel
theorem d_Mo_meet_71 : decode prog_9_method_23_code 71 = .ok (.goto 4, 3) := by decide +kernel
theorem d_Mo_meet_74 : decode prog_9_method_23_code 74 = .ok (.lload_n 1, 1) := by decide +kernel
theorem d_Mo_meet_75 : decode prog_9_method_23_code 75 = .ok (.lstore_n 1, 1) := by decide +kernel
theorem d_Mo_meet_76 : decode prog_9_method_23_code 76 = .ok (.iconst 0, 1) := by decide +kernel
theorem d_Mo_meet_77 : decode prog_9_method_23_code 77 = .ok (.istore_n 3, 1) := by decide +kernel
theorem d_Mo_meet_78 : decode prog_9_method_23_code 78 = .ok (.iload_n 3, 1) := by decide +kernel
theorem d_Mo_meet_79 : decode prog_9_method_23_code 79 = .ok (.iconst 4, 1) := by decide +kernel
theorem d_Mo_meet_80 : decode prog_9_method_23_code 80 = .ok (.if_icmp .ge 19, 3) := by decide +kernel
theorem d_Mo_meet_83 : decode prog_9_method_23_code 83 = .ok (.aload_n 0, 1) := by decide +kernel
theorem d_Mo_meet_84 : decode prog_9_method_23_code 84 = .ok (.getfield 57, 3) := by decide +kernel
theorem d_Mo_meet_87 : decode prog_9_method_23_code 87 = .ok (.iload_n 3, 1) := by decide +kernel
theorem d_Mo_meet_88 : decode prog_9_method_23_code 88 = .ok (.dup2, 1) := by decide +kernel
theorem d_Mo_meet_89 : decode prog_9_method_23_code 89 = .ok (.laload, 1) := by decide +kernel
theorem d_Mo_meet_90 : decode prog_9_method_23_code 90 = .ok (.lload_n 1, 1) := by decide +kernel
theorem d_Mo_meet_91 : decode prog_9_method_23_code 91 = .ok (.ldiv, 1) := by decide +kernel
theorem d_Mo_meet_92 : decode prog_9_method_23_code 92 = .ok (.lastore, 1) := by decide +kernel
theorem d_Mo_meet_93 : decode prog_9_method_23_code 93 = .ok (.iinc 3 1, 3) := by decide +kernel
theorem d_Mo_meet_96 : decode prog_9_method_23_code 96 = .ok (.goto (-18), 3) := by decide +kernel
theorem d_Mo_meet_99 : decode prog_9_method_23_code 99 = .ok (.aload_n 0, 1) := by decide +kernel
theorem d_Mo_meet_100 : decode prog_9_method_23_code 100 = .ok (.dup, 1) := by decide +kernel
theorem d_Mo_meet_101 : decode prog_9_method_23_code 101 = .ok (.getfield 126, 3) := by decide +kernel
theorem d_Mo_meet_104 : decode prog_9_method_23_code 104 = .ok (.lload_n 1, 1) := by decide +kernel
theorem d_Mo_meet_105 : decode prog_9_method_23_code 105 = .ok (.ldiv, 1) := by decide +kernel
theorem d_Mo_meet_106 : decode prog_9_method_23_code 106 = .ok (.putfield 126, 3) := by decide +kernel
theorem d_Mo_meet_109 : decode prog_9_method_23_code 109 = .ok (.iconst 1, 1) := by decide +kernel
theorem d_Mo_meet_110 : decode prog_9_method_23_code 110 = .ok (.ireturn, 1) := by decide +kernel
theorem d_Mo_isKept_0 : decode prog_9_method_24_code 0 = .ok (.lconst 0, 1) := by decide +kernel
theorem d_Mo_isKept_1 : decode prog_9_method_24_code 1 = .ok (.lstore_n 2, 1) := by decide +kernel
theorem d_Mo_isKept_2 : decode prog_9_method_24_code 2 = .ok (.lconst 0, 1) := by decide +kernel
theorem d_Mo_isKept_3 : decode prog_9_method_24_code 3 = .ok (.lstore 4, 2) := by decide +kernel
theorem d_Mo_isKept_5 : decode prog_9_method_24_code 5 = .ok (.iconst 0, 1) := by decide +kernel
theorem d_Mo_isKept_6 : decode prog_9_method_24_code 6 = .ok (.istore 6, 2) := by decide +kernel
theorem d_Mo_isKept_8 : decode prog_9_method_24_code 8 = .ok (.iload 6, 2) := by decide +kernel
theorem d_Mo_isKept_10 : decode prog_9_method_24_code 10 = .ok (.iconst 5, 1) := by decide +kernel
theorem d_Mo_isKept_11 : decode prog_9_method_24_code 11 = .ok (.if_icmp .ge 99, 3) := by decide +kernel
theorem d_Mo_isKept_14 : decode prog_9_method_24_code 14 = .ok (.iload 6, 2) := by decide +kernel
theorem d_Mo_isKept_16 : decode prog_9_method_24_code 16 = .ok (.iconst 4, 1) := by decide +kernel
theorem d_Mo_isKept_17 : decode prog_9_method_24_code 17 = .ok (.if_icmp .ge 13, 3) := by decide +kernel
theorem d_Mo_isKept_20 : decode prog_9_method_24_code 20 = .ok (.aload_n 0, 1) := by decide +kernel
theorem d_Mo_isKept_21 : decode prog_9_method_24_code 21 = .ok (.getfield 57, 3) := by decide +kernel
theorem d_Mo_isKept_24 : decode prog_9_method_24_code 24 = .ok (.iload 6, 2) := by decide +kernel
theorem d_Mo_isKept_26 : decode prog_9_method_24_code 26 = .ok (.laload, 1) := by decide +kernel
theorem d_Mo_isKept_27 : decode prog_9_method_24_code 27 = .ok (.goto 8, 3) := by decide +kernel
theorem d_Mo_isKept_30 : decode prog_9_method_24_code 30 = .ok (.aload_n 0, 1) := by decide +kernel
theorem d_Mo_isKept_31 : decode prog_9_method_24_code 31 = .ok (.getfield 126, 3) := by decide +kernel
theorem d_Mo_isKept_34 : decode prog_9_method_24_code 34 = .ok (.lneg, 1) := by decide +kernel
theorem d_Mo_isKept_35 : decode prog_9_method_24_code 35 = .ok (.lstore 7, 2) := by decide +kernel
theorem d_Mo_isKept_37 : decode prog_9_method_24_code 37 = .ok (.aload_n 0, 1) := by decide +kernel
theorem d_Mo_isKept_38 : decode prog_9_method_24_code 38 = .ok (.getfield 48, 3) := by decide +kernel
theorem d_Mo_isKept_41 : decode prog_9_method_24_code 41 = .ok (.iconst 5, 1) := by decide +kernel
theorem d_Mo_isKept_42 : decode prog_9_method_24_code 42 = .ok (.iload_n 1, 1) := by decide +kernel
theorem d_Mo_isKept_43 : decode prog_9_method_24_code 43 = .ok (.imul, 1) := by decide +kernel
theorem d_Mo_isKept_44 : decode prog_9_method_24_code 44 = .ok (.iload 6, 2) := by decide +kernel
theorem d_Mo_isKept_46 : decode prog_9_method_24_code 46 = .ok (.iadd, 1) := by decide +kernel
theorem d_Mo_isKept_47 : decode prog_9_method_24_code 47 = .ok (.iaload, 1) := by decide +kernel
theorem d_Mo_isKept_48 : decode prog_9_method_24_code 48 = .ok (.i2l, 1) := by decide +kernel
theorem d_Mo_isKept_49 : decode prog_9_method_24_code 49 = .ok (.lstore 9, 2) := by decide +kernel
theorem d_Mo_isKept_51 : decode prog_9_method_24_code 51 = .ok (.lload 7, 2) := by decide +kernel
theorem d_Mo_isKept_53 : decode prog_9_method_24_code 53 = .ok (.ldc2_w 133, 3) := by decide +kernel
theorem d_Mo_isKept_56 : decode prog_9_method_24_code 56 = .ok (.lrem, 1) := by decide +kernel
theorem d_Mo_isKept_57 : decode prog_9_method_24_code 57 = .ok (.lstore 11, 2) := by decide +kernel
theorem d_Mo_isKept_59 : decode prog_9_method_24_code 59 = .ok (.lload 11, 2) := by decide +kernel
theorem d_Mo_isKept_61 : decode prog_9_method_24_code 61 = .ok (.lconst 0, 1) := by decide +kernel
theorem d_Mo_isKept_62 : decode prog_9_method_24_code 62 = .ok (.lcmp, 1) := by decide +kernel
theorem d_Mo_isKept_63 : decode prog_9_method_24_code 63 = .ok (.ifCond .ge 12, 3) := by decide +kernel
theorem d_Mo_isKept_66 : decode prog_9_method_24_code 66 = .ok (.lload 11, 2) := by decide +kernel
theorem d_Mo_isKept_68 : decode prog_9_method_24_code 68 = .ok (.ldc2_w 133, 3) := by decide +kernel
theorem d_Mo_isKept_71 : decode prog_9_method_24_code 71 = .ok (.ladd, 1) := by decide +kernel
theorem d_Mo_isKept_72 : decode prog_9_method_24_code 72 = .ok (.goto 5, 3) := by decide +kernel
theorem d_Mo_isKept_75 : decode prog_9_method_24_code 75 = .ok (.lload 11, 2) := by decide +kernel
theorem d_Mo_isKept_77 : decode prog_9_method_24_code 77 = .ok (.lstore 11, 2) := by decide +kernel
theorem d_Mo_isKept_79 : decode prog_9_method_24_code 79 = .ok (.lload_n 2, 1) := by decide +kernel
theorem d_Mo_isKept_80 : decode prog_9_method_24_code 80 = .ok (.lload 9, 2) := by decide +kernel
theorem d_Mo_isKept_82 : decode prog_9_method_24_code 82 = .ok (.lload 7, 2) := by decide +kernel
theorem d_Mo_isKept_84 : decode prog_9_method_24_code 84 = .ok (.lload 11, 2) := by decide +kernel
theorem d_Mo_isKept_86 : decode prog_9_method_24_code 86 = .ok (.lsub, 1) := by decide +kernel
theorem d_Mo_isKept_87 : decode prog_9_method_24_code 87 = .ok (.ldc2_w 133, 3) := by decide +kernel
theorem d_Mo_isKept_90 : decode prog_9_method_24_code 90 = .ok (.ldiv, 1) := by decide +kernel
theorem d_Mo_isKept_91 : decode prog_9_method_24_code 91 = .ok (.lmul, 1) := by decide +kernel
theorem d_Mo_isKept_92 : decode prog_9_method_24_code 92 = .ok (.ladd, 1) := by decide +kernel
theorem d_Mo_isKept_93 : decode prog_9_method_24_code 93 = .ok (.lstore_n 2, 1) := by decide +kernel
theorem d_Mo_isKept_94 : decode prog_9_method_24_code 94 = .ok (.lload 4, 2) := by decide +kernel
theorem d_Mo_isKept_96 : decode prog_9_method_24_code 96 = .ok (.lload 9, 2) := by decide +kernel
theorem d_Mo_isKept_98 : decode prog_9_method_24_code 98 = .ok (.lload 11, 2) := by decide +kernel
theorem d_Mo_isKept_100 : decode prog_9_method_24_code 100 = .ok (.lmul, 1) := by decide +kernel
theorem d_Mo_isKept_101 : decode prog_9_method_24_code 101 = .ok (.ladd, 1) := by decide +kernel
theorem d_Mo_isKept_102 : decode prog_9_method_24_code 102 = .ok (.lstore 4, 2) := by decide +kernel
theorem d_Mo_isKept_104 : decode prog_9_method_24_code 104 = .ok (.iinc 6 1, 3) := by decide +kernel
theorem d_Mo_isKept_107 : decode prog_9_method_24_code 107 = .ok (.goto (-99), 3) := by decide +kernel
theorem d_Mo_isKept_110 : decode prog_9_method_24_code 110 = .ok (.lload 4, 2) := by decide +kernel
theorem d_Mo_isKept_112 : decode prog_9_method_24_code 112 = .ok (.ldc2_w 133, 3) := by decide +kernel
theorem d_Mo_isKept_115 : decode prog_9_method_24_code 115 = .ok (.lrem, 1) := by decide +kernel
theorem d_Mo_isKept_116 : decode prog_9_method_24_code 116 = .ok (.lstore 6, 2) := by decide +kernel
theorem d_Mo_isKept_118 : decode prog_9_method_24_code 118 = .ok (.lload 6, 2) := by decide +kernel
theorem d_Mo_isKept_120 : decode prog_9_method_24_code 120 = .ok (.lconst 0, 1) := by decide +kernel
theorem d_Mo_isKept_121 : decode prog_9_method_24_code 121 = .ok (.lcmp, 1) := by decide +kernel
theorem d_Mo_isKept_122 : decode prog_9_method_24_code 122 = .ok (.ifCond .ge 12, 3) := by decide +kernel
theorem d_Mo_isKept_125 : decode prog_9_method_24_code 125 = .ok (.lload 6, 2) := by decide +kernel
theorem d_Mo_isKept_127 : decode prog_9_method_24_code 127 = .ok (.ldc2_w 133, 3) := by decide +kernel
theorem d_Mo_isKept_130 : decode prog_9_method_24_code 130 = .ok (.ladd, 1) := by decide +kernel
theorem d_Mo_isKept_131 : decode prog_9_method_24_code 131 = .ok (.goto 5, 3) := by decide +kernel
theorem d_Mo_isKept_134 : decode prog_9_method_24_code 134 = .ok (.lload 6, 2) := by decide +kernel
theorem d_Mo_isKept_136 : decode prog_9_method_24_code 136 = .ok (.lstore 6, 2) := by decide +kernel
theorem d_Mo_isKept_138 : decode prog_9_method_24_code 138 = .ok (.lload_n 2, 1) := by decide +kernel
theorem d_Mo_isKept_139 : decode prog_9_method_24_code 139 = .ok (.lload 4, 2) := by decide +kernel
theorem d_Mo_isKept_141 : decode prog_9_method_24_code 141 = .ok (.lload 6, 2) := by decide +kernel
theorem d_Mo_isKept_143 : decode prog_9_method_24_code 143 = .ok (.lsub, 1) := by decide +kernel
theorem d_Mo_isKept_144 : decode prog_9_method_24_code 144 = .ok (.ldc2_w 133, 3) := by decide +kernel
theorem d_Mo_isKept_147 : decode prog_9_method_24_code 147 = .ok (.ldiv, 1) := by decide +kernel
theorem d_Mo_isKept_148 : decode prog_9_method_24_code 148 = .ok (.ladd, 1) := by decide +kernel
theorem d_Mo_isKept_149 : decode prog_9_method_24_code 149 = .ok (.lconst 0, 1) := by decide +kernel
theorem d_Mo_isKept_150 : decode prog_9_method_24_code 150 = .ok (.lcmp, 1) := by decide +kernel
theorem d_Mo_isKept_151 : decode prog_9_method_24_code 151 = .ok (.ifCond .lt 7, 3) := by decide +kernel
theorem d_Mo_isKept_154 : decode prog_9_method_24_code 154 = .ok (.iconst 1, 1) := by decide +kernel
theorem d_Mo_isKept_155 : decode prog_9_method_24_code 155 = .ok (.goto 4, 3) := by decide +kernel
theorem d_Mo_isKept_158 : decode prog_9_method_24_code 158 = .ok (.iconst 0, 1) := by decide +kernel
theorem d_Mo_isKept_159 : decode prog_9_method_24_code 159 = .ok (.ireturn, 1) := by decide +kernel
theorem d_Mo_keptRules_0 : decode prog_9_method_25_code 0 = .ok (.bipush 16, 2) := by decide +kernel
theorem d_Mo_keptRules_2 : decode prog_9_method_25_code 2 = .ok (.istore_n 1, 1) := by decide +kernel
theorem d_Mo_keptRules_3 : decode prog_9_method_25_code 3 = .ok (.iload_n 1, 1) := by decide +kernel
theorem d_Mo_keptRules_4 : decode prog_9_method_25_code 4 = .ok (.bipush 24, 2) := by decide +kernel
theorem d_Mo_keptRules_6 : decode prog_9_method_25_code 6 = .ok (.if_icmp .ge 19, 3) := by decide +kernel
theorem d_Mo_keptRules_9 : decode prog_9_method_25_code 9 = .ok (.aload_n 0, 1) := by decide +kernel
theorem d_Mo_keptRules_10 : decode prog_9_method_25_code 10 = .ok (.iload_n 1, 1) := by decide +kernel
theorem d_Mo_keptRules_11 : decode prog_9_method_25_code 11 = .ok (.invokevirtual 135, 3) := by decide +kernel
theorem d_Mo_keptRules_14 : decode prog_9_method_25_code 14 = .ok (.ifCond .ne 5, 3) := by decide +kernel
theorem d_Mo_keptRules_17 : decode prog_9_method_25_code 17 = .ok (.iconst (-1), 1) := by decide +kernel
theorem d_Mo_keptRules_18 : decode prog_9_method_25_code 18 = .ok (.ireturn, 1) := by decide +kernel
theorem d_Mo_keptRules_19 : decode prog_9_method_25_code 19 = .ok (.iinc 1 1, 3) := by decide +kernel
theorem d_Mo_keptRules_22 : decode prog_9_method_25_code 22 = .ok (.goto (-19), 3) := by decide +kernel
theorem d_Mo_keptRules_25 : decode prog_9_method_25_code 25 = .ok (.iconst 0, 1) := by decide +kernel
theorem d_Mo_keptRules_26 : decode prog_9_method_25_code 26 = .ok (.istore_n 1, 1) := by decide +kernel
theorem d_Mo_keptRules_27 : decode prog_9_method_25_code 27 = .ok (.iconst 0, 1) := by decide +kernel
theorem d_Mo_keptRules_28 : decode prog_9_method_25_code 28 = .ok (.istore_n 2, 1) := by decide +kernel
theorem d_Mo_keptRules_29 : decode prog_9_method_25_code 29 = .ok (.iload_n 2, 1) := by decide +kernel
theorem d_Mo_keptRules_30 : decode prog_9_method_25_code 30 = .ok (.bipush 8, 2) := by decide +kernel
theorem d_Mo_keptRules_32 : decode prog_9_method_25_code 32 = .ok (.if_icmp .ge 50, 3) := by decide +kernel
theorem d_Mo_keptRules_35 : decode prog_9_method_25_code 35 = .ok (.iload_n 1, 1) := by decide +kernel
theorem d_Mo_keptRules_36 : decode prog_9_method_25_code 36 = .ok (.aload_n 0, 1) := by decide +kernel
theorem d_Mo_keptRules_37 : decode prog_9_method_25_code 37 = .ok (.getfield 19, 3) := by decide +kernel
theorem d_Mo_keptRules_40 : decode prog_9_method_25_code 40 = .ok (.iload_n 2, 1) := by decide +kernel
theorem d_Mo_keptRules_41 : decode prog_9_method_25_code 41 = .ok (.baload, 1) := by decide +kernel
theorem d_Mo_keptRules_42 : decode prog_9_method_25_code 42 = .ok (.ifCond .eq 25, 3) := by decide +kernel
theorem d_Mo_keptRules_45 : decode prog_9_method_25_code 45 = .ok (.aload_n 0, 1) := by decide +kernel
theorem d_Mo_keptRules_46 : decode prog_9_method_25_code 46 = .ok (.iconst 2, 1) := by decide +kernel
theorem d_Mo_keptRules_47 : decode prog_9_method_25_code 47 = .ok (.iload_n 2, 1) := by decide +kernel
theorem d_Mo_keptRules_48 : decode prog_9_method_25_code 48 = .ok (.imul, 1) := by decide +kernel
theorem d_Mo_keptRules_49 : decode prog_9_method_25_code 49 = .ok (.invokevirtual 135, 3) := by decide +kernel
theorem d_Mo_keptRules_52 : decode prog_9_method_25_code 52 = .ok (.ifCond .eq 21, 3) := by decide +kernel
theorem d_Mo_keptRules_55 : decode prog_9_method_25_code 55 = .ok (.aload_n 0, 1) := by decide +kernel
theorem d_Mo_keptRules_56 : decode prog_9_method_25_code 56 = .ok (.iconst 2, 1) := by decide +kernel
theorem d_Mo_keptRules_57 : decode prog_9_method_25_code 57 = .ok (.iload_n 2, 1) := by decide +kernel
theorem d_Mo_keptRules_58 : decode prog_9_method_25_code 58 = .ok (.imul, 1) := by decide +kernel
theorem d_Mo_keptRules_59 : decode prog_9_method_25_code 59 = .ok (.iconst 1, 1) := by decide +kernel
theorem d_Mo_keptRules_60 : decode prog_9_method_25_code 60 = .ok (.iadd, 1) := by decide +kernel
theorem d_Mo_keptRules_61 : decode prog_9_method_25_code 61 = .ok (.invokevirtual 135, 3) := by decide +kernel
theorem d_Mo_keptRules_64 : decode prog_9_method_25_code 64 = .ok (.ifCond .eq 9, 3) := by decide +kernel
theorem d_Mo_keptRules_67 : decode prog_9_method_25_code 67 = .ok (.iconst 1, 1) := by decide +kernel
theorem d_Mo_keptRules_68 : decode prog_9_method_25_code 68 = .ok (.iload_n 2, 1) := by decide +kernel
theorem d_Mo_keptRules_69 : decode prog_9_method_25_code 69 = .ok (.ishl, 1) := by decide +kernel
theorem d_Mo_keptRules_70 : decode prog_9_method_25_code 70 = .ok (.goto 4, 3) := by decide +kernel
theorem d_Mo_keptRules_73 : decode prog_9_method_25_code 73 = .ok (.iconst 0, 1) := by decide +kernel
theorem d_Mo_keptRules_74 : decode prog_9_method_25_code 74 = .ok (.ior, 1) := by decide +kernel
theorem d_Mo_keptRules_75 : decode prog_9_method_25_code 75 = .ok (.istore_n 1, 1) := by decide +kernel
theorem d_Mo_keptRules_76 : decode prog_9_method_25_code 76 = .ok (.iinc 2 1, 3) := by decide +kernel
theorem d_Mo_keptRules_79 : decode prog_9_method_25_code 79 = .ok (.goto (-50), 3) := by decide +kernel
theorem d_Mo_keptRules_82 : decode prog_9_method_25_code 82 = .ok (.iload_n 1, 1) := by decide +kernel
theorem d_Mo_keptRules_83 : decode prog_9_method_25_code 83 = .ok (.ireturn, 1) := by decide +kernel
theorem d_Mo_isLess_0 : decode prog_9_method_26_code 0 = .ok (.lload_n 0, 1) := by decide +kernel
theorem d_Mo_isLess_1 : decode prog_9_method_26_code 1 = .ok (.lstore 8, 2) := by decide +kernel
theorem d_Mo_isLess_3 : decode prog_9_method_26_code 3 = .ok (.lload_n 2, 1) := by decide +kernel
theorem d_Mo_isLess_4 : decode prog_9_method_26_code 4 = .ok (.lstore 10, 2) := by decide +kernel
theorem d_Mo_isLess_6 : decode prog_9_method_26_code 6 = .ok (.lload 4, 2) := by decide +kernel
theorem d_Mo_isLess_8 : decode prog_9_method_26_code 8 = .ok (.lstore 12, 2) := by decide +kernel
theorem d_Mo_isLess_10 : decode prog_9_method_26_code 10 = .ok (.lload 6, 2) := by decide +kernel
theorem d_Mo_isLess_12 : decode prog_9_method_26_code 12 = .ok (.lstore 14, 2) := by decide +kernel
theorem d_Mo_isLess_14 : decode prog_9_method_26_code 14 = .ok (.iconst 0, 1) := by decide +kernel
theorem d_Mo_isLess_15 : decode prog_9_method_26_code 15 = .ok (.istore 16, 2) := by decide +kernel
theorem d_Mo_isLess_17 : decode prog_9_method_26_code 17 = .ok (.lload 8, 2) := by decide +kernel
theorem d_Mo_isLess_19 : decode prog_9_method_26_code 19 = .ok (.lload 10, 2) := by decide +kernel
theorem d_Mo_isLess_21 : decode prog_9_method_26_code 21 = .ok (.lrem, 1) := by decide +kernel
theorem d_Mo_isLess_22 : decode prog_9_method_26_code 22 = .ok (.lstore 17, 2) := by decide +kernel
theorem d_Mo_isLess_24 : decode prog_9_method_26_code 24 = .ok (.lload 17, 2) := by decide +kernel
theorem d_Mo_isLess_26 : decode prog_9_method_26_code 26 = .ok (.lconst 0, 1) := by decide +kernel
theorem d_Mo_isLess_27 : decode prog_9_method_26_code 27 = .ok (.lcmp, 1) := by decide +kernel
theorem d_Mo_isLess_28 : decode prog_9_method_26_code 28 = .ok (.ifCond .ge 11, 3) := by decide +kernel
theorem d_Mo_isLess_31 : decode prog_9_method_26_code 31 = .ok (.lload 17, 2) := by decide +kernel
theorem d_Mo_isLess_33 : decode prog_9_method_26_code 33 = .ok (.lload 10, 2) := by decide +kernel
theorem d_Mo_isLess_35 : decode prog_9_method_26_code 35 = .ok (.ladd, 1) := by decide +kernel
theorem d_Mo_isLess_36 : decode prog_9_method_26_code 36 = .ok (.goto 5, 3) := by decide +kernel
theorem d_Mo_isLess_39 : decode prog_9_method_26_code 39 = .ok (.lload 17, 2) := by decide +kernel
theorem d_Mo_isLess_41 : decode prog_9_method_26_code 41 = .ok (.lstore 17, 2) := by decide +kernel
theorem d_Mo_isLess_43 : decode prog_9_method_26_code 43 = .ok (.lload 12, 2) := by decide +kernel
theorem d_Mo_isLess_45 : decode prog_9_method_26_code 45 = .ok (.lload 14, 2) := by decide +kernel
theorem d_Mo_isLess_47 : decode prog_9_method_26_code 47 = .ok (.lrem, 1) := by decide +kernel
theorem d_Mo_isLess_48 : decode prog_9_method_26_code 48 = .ok (.lstore 19, 2) := by decide +kernel
theorem d_Mo_isLess_50 : decode prog_9_method_26_code 50 = .ok (.lload 19, 2) := by decide +kernel
theorem d_Mo_isLess_52 : decode prog_9_method_26_code 52 = .ok (.lconst 0, 1) := by decide +kernel
theorem d_Mo_isLess_53 : decode prog_9_method_26_code 53 = .ok (.lcmp, 1) := by decide +kernel
theorem d_Mo_isLess_54 : decode prog_9_method_26_code 54 = .ok (.ifCond .ge 11, 3) := by decide +kernel
theorem d_Mo_isLess_57 : decode prog_9_method_26_code 57 = .ok (.lload 19, 2) := by decide +kernel
theorem d_Mo_isLess_59 : decode prog_9_method_26_code 59 = .ok (.lload 14, 2) := by decide +kernel
theorem d_Mo_isLess_61 : decode prog_9_method_26_code 61 = .ok (.ladd, 1) := by decide +kernel
theorem d_Mo_isLess_62 : decode prog_9_method_26_code 62 = .ok (.goto 5, 3) := by decide +kernel
theorem d_Mo_isLess_65 : decode prog_9_method_26_code 65 = .ok (.lload 19, 2) := by decide +kernel
theorem d_Mo_isLess_67 : decode prog_9_method_26_code 67 = .ok (.lstore 19, 2) := by decide +kernel
theorem d_Mo_isLess_69 : decode prog_9_method_26_code 69 = .ok (.lload 8, 2) := by decide +kernel
theorem d_Mo_isLess_71 : decode prog_9_method_26_code 71 = .ok (.lload 17, 2) := by decide +kernel
theorem d_Mo_isLess_73 : decode prog_9_method_26_code 73 = .ok (.lsub, 1) := by decide +kernel
theorem d_Mo_isLess_74 : decode prog_9_method_26_code 74 = .ok (.lload 10, 2) := by decide +kernel
theorem d_Mo_isLess_76 : decode prog_9_method_26_code 76 = .ok (.ldiv, 1) := by decide +kernel
theorem d_Mo_isLess_77 : decode prog_9_method_26_code 77 = .ok (.lstore 21, 2) := by decide +kernel
theorem d_Mo_isLess_79 : decode prog_9_method_26_code 79 = .ok (.lload 12, 2) := by decide +kernel
theorem d_Mo_isLess_81 : decode prog_9_method_26_code 81 = .ok (.lload 19, 2) := by decide +kernel
theorem d_Mo_isLess_83 : decode prog_9_method_26_code 83 = .ok (.lsub, 1) := by decide +kernel
theorem d_Mo_isLess_84 : decode prog_9_method_26_code 84 = .ok (.lload 14, 2) := by decide +kernel
theorem d_Mo_isLess_86 : decode prog_9_method_26_code 86 = .ok (.ldiv, 1) := by decide +kernel
theorem d_Mo_isLess_87 : decode prog_9_method_26_code 87 = .ok (.lstore 23, 2) := by decide +kernel
theorem d_Mo_isLess_89 : decode prog_9_method_26_code 89 = .ok (.lload 21, 2) := by decide +kernel
theorem d_Mo_isLess_91 : decode prog_9_method_26_code 91 = .ok (.lload 23, 2) := by decide +kernel
theorem d_Mo_isLess_93 : decode prog_9_method_26_code 93 = .ok (.lcmp, 1) := by decide +kernel
theorem d_Mo_isLess_94 : decode prog_9_method_26_code 94 = .ok (.ifCond .eq 27, 3) := by decide +kernel
theorem d_Mo_isLess_97 : decode prog_9_method_26_code 97 = .ok (.lload 21, 2) := by decide +kernel
theorem d_Mo_isLess_99 : decode prog_9_method_26_code 99 = .ok (.lload 23, 2) := by decide +kernel
theorem d_Mo_isLess_101 : decode prog_9_method_26_code 101 = .ok (.lcmp, 1) := by decide +kernel
theorem d_Mo_isLess_102 : decode prog_9_method_26_code 102 = .ok (.ifCond .ge 7, 3) := by decide +kernel
theorem d_Mo_isLess_105 : decode prog_9_method_26_code 105 = .ok (.iconst 1, 1) := by decide +kernel
theorem d_Mo_isLess_106 : decode prog_9_method_26_code 106 = .ok (.goto 4, 3) := by decide +kernel
theorem d_Mo_isLess_109 : decode prog_9_method_26_code 109 = .ok (.iconst 0, 1) := by decide +kernel
theorem d_Mo_isLess_110 : decode prog_9_method_26_code 110 = .ok (.iload 16, 2) := by decide +kernel
theorem d_Mo_isLess_112 : decode prog_9_method_26_code 112 = .ok (.if_icmp .eq 7, 3) := by decide +kernel
theorem d_Mo_isLess_115 : decode prog_9_method_26_code 115 = .ok (.iconst 1, 1) := by decide +kernel
theorem d_Mo_isLess_116 : decode prog_9_method_26_code 116 = .ok (.goto 4, 3) := by decide +kernel
theorem d_Mo_isLess_119 : decode prog_9_method_26_code 119 = .ok (.iconst 0, 1) := by decide +kernel
theorem d_Mo_isLess_120 : decode prog_9_method_26_code 120 = .ok (.ireturn, 1) := by decide +kernel
theorem d_Mo_isLess_121 : decode prog_9_method_26_code 121 = .ok (.lload 17, 2) := by decide +kernel
theorem d_Mo_isLess_123 : decode prog_9_method_26_code 123 = .ok (.lconst 0, 1) := by decide +kernel
theorem d_Mo_isLess_124 : decode prog_9_method_26_code 124 = .ok (.lcmp, 1) := by decide +kernel
theorem d_Mo_isLess_125 : decode prog_9_method_26_code 125 = .ok (.ifCond .eq 10, 3) := by decide +kernel
theorem d_Mo_isLess_128 : decode prog_9_method_26_code 128 = .ok (.lload 19, 2) := by decide +kernel
theorem d_Mo_isLess_130 : decode prog_9_method_26_code 130 = .ok (.lconst 0, 1) := by decide +kernel
theorem d_Mo_isLess_131 : decode prog_9_method_26_code 131 = .ok (.lcmp, 1) := by decide +kernel
theorem d_Mo_isLess_132 : decode prog_9_method_26_code 132 = .ok (.ifCond .ne 34, 3) := by decide +kernel
theorem d_Mo_isLess_135 : decode prog_9_method_26_code 135 = .ok (.lload 17, 2) := by decide +kernel
theorem d_Mo_isLess_137 : decode prog_9_method_26_code 137 = .ok (.lload 19, 2) := by decide +kernel
theorem d_Mo_isLess_139 : decode prog_9_method_26_code 139 = .ok (.lcmp, 1) := by decide +kernel
theorem d_Mo_isLess_140 : decode prog_9_method_26_code 140 = .ok (.ifCond .eq 24, 3) := by decide +kernel
theorem d_Mo_isLess_143 : decode prog_9_method_26_code 143 = .ok (.lload 17, 2) := by decide +kernel
theorem d_Mo_isLess_145 : decode prog_9_method_26_code 145 = .ok (.lconst 0, 1) := by decide +kernel
theorem d_Mo_isLess_146 : decode prog_9_method_26_code 146 = .ok (.lcmp, 1) := by decide +kernel
theorem d_Mo_isLess_147 : decode prog_9_method_26_code 147 = .ok (.ifCond .ne 7, 3) := by decide +kernel
theorem d_Mo_isLess_150 : decode prog_9_method_26_code 150 = .ok (.iconst 1, 1) := by decide +kernel
theorem d_Mo_isLess_151 : decode prog_9_method_26_code 151 = .ok (.goto 4, 3) := by decide +kernel
theorem d_Mo_isLess_154 : decode prog_9_method_26_code 154 = .ok (.iconst 0, 1) := by decide +kernel
theorem d_Mo_isLess_155 : decode prog_9_method_26_code 155 = .ok (.iload 16, 2) := by decide +kernel
theorem d_Mo_isLess_157 : decode prog_9_method_26_code 157 = .ok (.if_icmp .eq 7, 3) := by decide +kernel
theorem d_Mo_isLess_160 : decode prog_9_method_26_code 160 = .ok (.iconst 1, 1) := by decide +kernel
theorem d_Mo_isLess_161 : decode prog_9_method_26_code 161 = .ok (.goto 4, 3) := by decide +kernel
theorem d_Mo_isLess_164 : decode prog_9_method_26_code 164 = .ok (.iconst 0, 1) := by decide +kernel
theorem d_Mo_isLess_165 : decode prog_9_method_26_code 165 = .ok (.ireturn, 1) := by decide +kernel
theorem d_Mo_isLess_166 : decode prog_9_method_26_code 166 = .ok (.lload 10, 2) := by decide +kernel
theorem d_Mo_isLess_168 : decode prog_9_method_26_code 168 = .ok (.lstore 8, 2) := by decide +kernel
theorem d_Mo_isLess_170 : decode prog_9_method_26_code 170 = .ok (.lload 17, 2) := by decide +kernel
theorem d_Mo_isLess_172 : decode prog_9_method_26_code 172 = .ok (.lstore 10, 2) := by decide +kernel
theorem d_Mo_isLess_174 : decode prog_9_method_26_code 174 = .ok (.lload 14, 2) := by decide +kernel
theorem d_Mo_isLess_176 : decode prog_9_method_26_code 176 = .ok (.lstore 12, 2) := by decide +kernel
theorem d_Mo_isLess_178 : decode prog_9_method_26_code 178 = .ok (.lload 19, 2) := by decide +kernel
theorem d_Mo_isLess_180 : decode prog_9_method_26_code 180 = .ok (.lstore 14, 2) := by decide +kernel
theorem d_Mo_isLess_182 : decode prog_9_method_26_code 182 = .ok (.iload 16, 2) := by decide +kernel
theorem d_Mo_isLess_184 : decode prog_9_method_26_code 184 = .ok (.ifCond .ne 7, 3) := by decide +kernel
theorem d_Mo_isLess_187 : decode prog_9_method_26_code 187 = .ok (.iconst 1, 1) := by decide +kernel
theorem d_Mo_isLess_188 : decode prog_9_method_26_code 188 = .ok (.goto 4, 3) := by decide +kernel
theorem d_Mo_isLess_191 : decode prog_9_method_26_code 191 = .ok (.iconst 0, 1) := by decide +kernel
theorem d_Mo_isLess_192 : decode prog_9_method_26_code 192 = .ok (.istore 16, 2) := by decide +kernel
theorem d_Mo_isLess_194 : decode prog_9_method_26_code 194 = .ok (.goto (-177), 3) := by decide +kernel
theorem d_Mo_lookAtCorner_0 : decode prog_9_method_27_code 0 = .ok (.aload_n 0, 1) := by decide +kernel
theorem d_Mo_lookAtCorner_1 : decode prog_9_method_27_code 1 = .ok (.invokevirtual 138, 3) := by decide +kernel
theorem d_Mo_lookAtCorner_4 : decode prog_9_method_27_code 4 = .ok (.ifCond .eq 10, 3) := by decide +kernel
theorem d_Mo_lookAtCorner_7 : decode prog_9_method_27_code 7 = .ok (.aload_n 0, 1) := by decide +kernel
theorem d_Mo_lookAtCorner_8 : decode prog_9_method_27_code 8 = .ok (.invokevirtual 142, 3) := by decide +kernel
theorem d_Mo_lookAtCorner_11 : decode prog_9_method_27_code 11 = .ok (.goto 4, 3) := by decide +kernel
theorem d_Mo_lookAtCorner_14 : decode prog_9_method_27_code 14 = .ok (.iconst (-1), 1) := by decide +kernel
theorem d_Mo_lookAtCorner_15 : decode prog_9_method_27_code 15 = .ok (.istore_n 1, 1) := by decide +kernel
theorem d_Mo_lookAtCorner_16 : decode prog_9_method_27_code 16 = .ok (.iload_n 1, 1) := by decide +kernel
theorem d_Mo_lookAtCorner_17 : decode prog_9_method_27_code 17 = .ok (.ifCond .ge 4, 3) := by decide +kernel
theorem d_Mo_lookAtCorner_20 : decode prog_9_method_27_code 20 = .ok (.return_, 1) := by decide +kernel
theorem d_Mo_lookAtCorner_21 : decode prog_9_method_27_code 21 = .ok (.aload_n 0, 1) := by decide +kernel
theorem d_Mo_lookAtCorner_22 : decode prog_9_method_27_code 22 = .ok (.getfield 61, 3) := by decide +kernel
theorem d_Mo_lookAtCorner_25 : decode prog_9_method_27_code 25 = .ok (.iload_n 1, 1) := by decide +kernel
theorem d_Mo_lookAtCorner_26 : decode prog_9_method_27_code 26 = .ok (.iconst 1, 1) := by decide +kernel
theorem d_Mo_lookAtCorner_27 : decode prog_9_method_27_code 27 = .ok (.bastore, 1) := by decide +kernel
theorem d_Mo_lookAtCorner_28 : decode prog_9_method_27_code 28 = .ok (.iload_n 1, 1) := by decide +kernel
theorem d_Mo_lookAtCorner_29 : decode prog_9_method_27_code 29 = .ok (.sipush 255, 3) := by decide +kernel
theorem d_Mo_lookAtCorner_32 : decode prog_9_method_27_code 32 = .ok (.if_icmp .ne 99, 3) := by decide +kernel
theorem d_Mo_lookAtCorner_35 : decode prog_9_method_27_code 35 = .ok (.lconst 0, 1) := by decide +kernel
theorem d_Mo_lookAtCorner_36 : decode prog_9_method_27_code 36 = .ok (.lstore_n 2, 1) := by decide +kernel
theorem d_Mo_lookAtCorner_37 : decode prog_9_method_27_code 37 = .ok (.iconst 0, 1) := by decide +kernel
theorem d_Mo_lookAtCorner_38 : decode prog_9_method_27_code 38 = .ok (.istore 4, 2) := by decide +kernel
theorem d_Mo_lookAtCorner_40 : decode prog_9_method_27_code 40 = .ok (.iload 4, 2) := by decide +kernel
theorem d_Mo_lookAtCorner_42 : decode prog_9_method_27_code 42 = .ok (.aload_n 0, 1) := by decide +kernel
theorem d_Mo_lookAtCorner_43 : decode prog_9_method_27_code 43 = .ok (.getfield 64, 3) := by decide +kernel
theorem d_Mo_lookAtCorner_46 : decode prog_9_method_27_code 46 = .ok (.if_icmp .ge 28, 3) := by decide +kernel
theorem d_Mo_lookAtCorner_49 : decode prog_9_method_27_code 49 = .ok (.lload_n 2, 1) := by decide +kernel
theorem d_Mo_lookAtCorner_50 : decode prog_9_method_27_code 50 = .ok (.aload_n 0, 1) := by decide +kernel
theorem d_Mo_lookAtCorner_51 : decode prog_9_method_27_code 51 = .ok (.getfield 57, 3) := by decide +kernel
theorem d_Mo_lookAtCorner_54 : decode prog_9_method_27_code 54 = .ok (.iload 4, 2) := by decide +kernel
theorem d_Mo_lookAtCorner_56 : decode prog_9_method_27_code 56 = .ok (.laload, 1) := by decide +kernel
theorem d_Mo_lookAtCorner_57 : decode prog_9_method_27_code 57 = .ok (.aload_n 0, 1) := by decide +kernel
theorem d_Mo_lookAtCorner_58 : decode prog_9_method_27_code 58 = .ok (.getfield 13, 3) := by decide +kernel
theorem d_Mo_lookAtCorner_61 : decode prog_9_method_27_code 61 = .ok (.iload 4, 2) := by decide +kernel
theorem d_Mo_lookAtCorner_63 : decode prog_9_method_27_code 63 = .ok (.iaload, 1) := by decide +kernel
theorem d_Mo_lookAtCorner_64 : decode prog_9_method_27_code 64 = .ok (.i2l, 1) := by decide +kernel
theorem d_Mo_lookAtCorner_65 : decode prog_9_method_27_code 65 = .ok (.lmul, 1) := by decide +kernel
theorem d_Mo_lookAtCorner_66 : decode prog_9_method_27_code 66 = .ok (.ladd, 1) := by decide +kernel
theorem d_Mo_lookAtCorner_67 : decode prog_9_method_27_code 67 = .ok (.lstore_n 2, 1) := by decide +kernel
theorem d_Mo_lookAtCorner_68 : decode prog_9_method_27_code 68 = .ok (.iinc 4 1, 3) := by decide +kernel
theorem d_Mo_lookAtCorner_71 : decode prog_9_method_27_code 71 = .ok (.goto (-31), 3) := by decide +kernel
theorem d_Mo_lookAtCorner_74 : decode prog_9_method_27_code 74 = .ok (.aload_n 0, 1) := by decide +kernel
theorem d_Mo_lookAtCorner_75 : decode prog_9_method_27_code 75 = .ok (.getfield 145, 3) := by decide +kernel
theorem d_Mo_lookAtCorner_78 : decode prog_9_method_27_code 78 = .ok (.lconst 0, 1) := by decide +kernel
theorem d_Mo_lookAtCorner_79 : decode prog_9_method_27_code 79 = .ok (.lcmp, 1) := by decide +kernel
theorem d_Mo_lookAtCorner_80 : decode prog_9_method_27_code 80 = .ok (.ifCond .eq 22, 3) := by decide +kernel
theorem d_Mo_lookAtCorner_83 : decode prog_9_method_27_code 83 = .ok (.lload_n 2, 1) := by decide +kernel
theorem d_Mo_lookAtCorner_84 : decode prog_9_method_27_code 84 = .ok (.aload_n 0, 1) := by decide +kernel
theorem d_Mo_lookAtCorner_85 : decode prog_9_method_27_code 85 = .ok (.getfield 126, 3) := by decide +kernel
theorem d_Mo_lookAtCorner_88 : decode prog_9_method_27_code 88 = .ok (.aload_n 0, 1) := by decide +kernel
theorem d_Mo_lookAtCorner_89 : decode prog_9_method_27_code 89 = .ok (.getfield 148, 3) := by decide +kernel
theorem d_Mo_lookAtCorner_92 : decode prog_9_method_27_code 92 = .ok (.aload_n 0, 1) := by decide +kernel
theorem d_Mo_lookAtCorner_93 : decode prog_9_method_27_code 93 = .ok (.getfield 145, 3) := by decide +kernel
theorem d_Mo_lookAtCorner_96 : decode prog_9_method_27_code 96 = .ok (.invokestatic 151, 3) := by decide +kernel
theorem d_Mo_lookAtCorner_99 : decode prog_9_method_27_code 99 = .ok (.ifCond .eq 32, 3) := by decide +kernel
theorem d_Mo_lookAtCorner_102 : decode prog_9_method_27_code 102 = .ok (.lload_n 2, 1) := by decide +kernel
theorem d_Mo_lookAtCorner_103 : decode prog_9_method_27_code 103 = .ok (.aload_n 0, 1) := by decide +kernel
theorem d_Mo_lookAtCorner_104 : decode prog_9_method_27_code 104 = .ok (.getfield 126, 3) := by decide +kernel
theorem d_Mo_lookAtCorner_107 : decode prog_9_method_27_code 107 = .ok (.invokestatic 129, 3) := by decide +kernel
theorem d_Mo_lookAtCorner_110 : decode prog_9_method_27_code 110 = .ok (.lstore 4, 2) := by decide +kernel
theorem d_Mo_lookAtCorner_112 : decode prog_9_method_27_code 112 = .ok (.aload_n 0, 1) := by decide +kernel
theorem d_Mo_lookAtCorner_113 : decode prog_9_method_27_code 113 = .ok (.lload_n 2, 1) := by decide +kernel
theorem d_Mo_lookAtCorner_114 : decode prog_9_method_27_code 114 = .ok (.lload 4, 2) := by decide +kernel
theorem d_Mo_lookAtCorner_116 : decode prog_9_method_27_code 116 = .ok (.ldiv, 1) := by decide +kernel
theorem d_Mo_lookAtCorner_117 : decode prog_9_method_27_code 117 = .ok (.putfield 148, 3) := by decide +kernel
theorem d_Mo_lookAtCorner_120 : decode prog_9_method_27_code 120 = .ok (.aload_n 0, 1) := by decide +kernel
theorem d_Mo_lookAtCorner_121 : decode prog_9_method_27_code 121 = .ok (.aload_n 0, 1) := by decide +kernel
theorem d_Mo_lookAtCorner_122 : decode prog_9_method_27_code 122 = .ok (.getfield 126, 3) := by decide +kernel
theorem d_Mo_lookAtCorner_125 : decode prog_9_method_27_code 125 = .ok (.lload 4, 2) := by decide +kernel
theorem d_Mo_lookAtCorner_127 : decode prog_9_method_27_code 127 = .ok (.ldiv, 1) := by decide +kernel
theorem d_Mo_lookAtCorner_128 : decode prog_9_method_27_code 128 = .ok (.putfield 145, 3) := by decide +kernel
theorem d_Mo_lookAtCorner_131 : decode prog_9_method_27_code 131 = .ok (.return_, 1) := by decide +kernel
theorem d_Mo_lookAtCorners_0 : decode prog_9_method_28_code 0 = .ok (.iconst 0, 1) := by decide +kernel
theorem d_Mo_lookAtCorners_1 : decode prog_9_method_28_code 1 = .ok (.istore_n 1, 1) := by decide +kernel
theorem d_Mo_lookAtCorners_2 : decode prog_9_method_28_code 2 = .ok (.iload_n 1, 1) := by decide +kernel
theorem d_Mo_lookAtCorners_3 : decode prog_9_method_28_code 3 = .ok (.sipush 256, 3) := by decide +kernel
theorem d_Mo_lookAtCorners_6 : decode prog_9_method_28_code 6 = .ok (.if_icmp .ge 16, 3) := by decide +kernel
theorem d_Mo_lookAtCorners_9 : decode prog_9_method_28_code 9 = .ok (.aload_n 0, 1) := by decide +kernel
theorem d_Mo_lookAtCorners_10 : decode prog_9_method_28_code 10 = .ok (.getfield 61, 3) := by decide +kernel
theorem d_Mo_lookAtCorners_13 : decode prog_9_method_28_code 13 = .ok (.iload_n 1, 1) := by decide +kernel
theorem d_Mo_lookAtCorners_14 : decode prog_9_method_28_code 14 = .ok (.iconst 0, 1) := by decide +kernel
theorem d_Mo_lookAtCorners_15 : decode prog_9_method_28_code 15 = .ok (.bastore, 1) := by decide +kernel
theorem d_Mo_lookAtCorners_16 : decode prog_9_method_28_code 16 = .ok (.iinc 1 1, 3) := by decide +kernel
theorem d_Mo_lookAtCorners_19 : decode prog_9_method_28_code 19 = .ok (.goto (-17), 3) := by decide +kernel
theorem d_Mo_lookAtCorners_22 : decode prog_9_method_28_code 22 = .ok (.aload_n 0, 1) := by decide +kernel
theorem d_Mo_lookAtCorners_23 : decode prog_9_method_28_code 23 = .ok (.lconst 0, 1) := by decide +kernel
theorem d_Mo_lookAtCorners_24 : decode prog_9_method_28_code 24 = .ok (.putfield 145, 3) := by decide +kernel
theorem d_Mo_lookAtCorners_27 : decode prog_9_method_28_code 27 = .ok (.iconst 0, 1) := by decide +kernel
theorem d_Mo_lookAtCorners_28 : decode prog_9_method_28_code 28 = .ok (.istore_n 1, 1) := by decide +kernel
theorem d_Mo_lookAtCorners_29 : decode prog_9_method_28_code 29 = .ok (.iload_n 1, 1) := by decide +kernel
theorem d_Mo_lookAtCorners_30 : decode prog_9_method_28_code 30 = .ok (.bipush 24, 2) := by decide +kernel
theorem d_Mo_lookAtCorners_32 : decode prog_9_method_28_code 32 = .ok (.if_icmp .ge 129, 3) := by decide +kernel
theorem d_Mo_lookAtCorners_35 : decode prog_9_method_28_code 35 = .ok (.iload_n 1, 1) := by decide +kernel
theorem d_Mo_lookAtCorners_36 : decode prog_9_method_28_code 36 = .ok (.iconst 1, 1) := by decide +kernel
theorem d_Mo_lookAtCorners_37 : decode prog_9_method_28_code 37 = .ok (.iadd, 1) := by decide +kernel
theorem d_Mo_lookAtCorners_38 : decode prog_9_method_28_code 38 = .ok (.istore_n 2, 1) := by decide +kernel
theorem d_Mo_lookAtCorners_39 : decode prog_9_method_28_code 39 = .ok (.iload_n 2, 1) := by decide +kernel
theorem d_Mo_lookAtCorners_40 : decode prog_9_method_28_code 40 = .ok (.bipush 24, 2) := by decide +kernel
theorem d_Mo_lookAtCorners_42 : decode prog_9_method_28_code 42 = .ok (.if_icmp .ge 113, 3) := by decide +kernel
theorem d_Mo_lookAtCorners_45 : decode prog_9_method_28_code 45 = .ok (.aload_n 0, 1) := by decide +kernel
theorem d_Mo_lookAtCorners_46 : decode prog_9_method_28_code 46 = .ok (.getfield 51, 3) := by decide +kernel
theorem d_Mo_lookAtCorners_49 : decode prog_9_method_28_code 49 = .ok (.iload_n 1, 1) := by decide +kernel
theorem d_Mo_lookAtCorners_50 : decode prog_9_method_28_code 50 = .ok (.baload, 1) := by decide +kernel
theorem d_Mo_lookAtCorners_51 : decode prog_9_method_28_code 51 = .ok (.ifCond .eq 104, 3) := by decide +kernel
theorem d_Mo_lookAtCorners_54 : decode prog_9_method_28_code 54 = .ok (.iload_n 2, 1) := by decide +kernel
theorem d_Mo_lookAtCorners_55 : decode prog_9_method_28_code 55 = .ok (.iconst 1, 1) := by decide +kernel
theorem d_Mo_lookAtCorners_56 : decode prog_9_method_28_code 56 = .ok (.iadd, 1) := by decide +kernel
theorem d_Mo_lookAtCorners_57 : decode prog_9_method_28_code 57 = .ok (.istore_n 3, 1) := by decide +kernel
theorem d_Mo_lookAtCorners_58 : decode prog_9_method_28_code 58 = .ok (.iload_n 3, 1) := by decide +kernel
theorem d_Mo_lookAtCorners_59 : decode prog_9_method_28_code 59 = .ok (.bipush 24, 2) := by decide +kernel
theorem d_Mo_lookAtCorners_61 : decode prog_9_method_28_code 61 = .ok (.if_icmp .ge 88, 3) := by decide +kernel
theorem d_Mo_lookAtCorners_64 : decode prog_9_method_28_code 64 = .ok (.aload_n 0, 1) := by decide +kernel
theorem d_Mo_lookAtCorners_65 : decode prog_9_method_28_code 65 = .ok (.getfield 51, 3) := by decide +kernel
theorem d_Mo_lookAtCorners_68 : decode prog_9_method_28_code 68 = .ok (.iload_n 2, 1) := by decide +kernel
theorem d_Mo_lookAtCorners_69 : decode prog_9_method_28_code 69 = .ok (.baload, 1) := by decide +kernel
theorem d_Mo_lookAtCorners_70 : decode prog_9_method_28_code 70 = .ok (.ifCond .eq 79, 3) := by decide +kernel
theorem d_Mo_lookAtCorners_73 : decode prog_9_method_28_code 73 = .ok (.iload_n 3, 1) := by decide +kernel
theorem d_Mo_lookAtCorners_74 : decode prog_9_method_28_code 74 = .ok (.iconst 1, 1) := by decide +kernel
theorem d_Mo_lookAtCorners_75 : decode prog_9_method_28_code 75 = .ok (.iadd, 1) := by decide +kernel
theorem d_Mo_lookAtCorners_76 : decode prog_9_method_28_code 76 = .ok (.istore 4, 2) := by decide +kernel
theorem d_Mo_lookAtCorners_78 : decode prog_9_method_28_code 78 = .ok (.iload 4, 2) := by decide +kernel
theorem d_Mo_lookAtCorners_80 : decode prog_9_method_28_code 80 = .ok (.bipush 24, 2) := by decide +kernel
theorem d_Mo_lookAtCorners_82 : decode prog_9_method_28_code 82 = .ok (.if_icmp .ge 61, 3) := by decide +kernel
theorem d_Mo_lookAtCorners_85 : decode prog_9_method_28_code 85 = .ok (.aload_n 0, 1) := by decide +kernel
theorem d_Mo_lookAtCorners_86 : decode prog_9_method_28_code 86 = .ok (.getfield 51, 3) := by decide +kernel
theorem d_Mo_lookAtCorners_89 : decode prog_9_method_28_code 89 = .ok (.iload_n 3, 1) := by decide +kernel
theorem d_Mo_lookAtCorners_90 : decode prog_9_method_28_code 90 = .ok (.baload, 1) := by decide +kernel
theorem d_Mo_lookAtCorners_91 : decode prog_9_method_28_code 91 = .ok (.ifCond .eq 52, 3) := by decide +kernel
theorem d_Mo_lookAtCorners_94 : decode prog_9_method_28_code 94 = .ok (.aload_n 0, 1) := by decide +kernel
theorem d_Mo_lookAtCorners_95 : decode prog_9_method_28_code 95 = .ok (.getfield 51, 3) := by decide +kernel
theorem d_Mo_lookAtCorners_98 : decode prog_9_method_28_code 98 = .ok (.iload 4, 2) := by decide +kernel
theorem d_Mo_lookAtCorners_100 : decode prog_9_method_28_code 100 = .ok (.baload, 1) := by decide +kernel
theorem d_Mo_lookAtCorners_101 : decode prog_9_method_28_code 101 = .ok (.ifCond .eq 36, 3) := by decide +kernel
theorem d_Mo_lookAtCorners_104 : decode prog_9_method_28_code 104 = .ok (.aload_n 0, 1) := by decide +kernel
theorem d_Mo_lookAtCorners_105 : decode prog_9_method_28_code 105 = .ok (.getfield 54, 3) := by decide +kernel
theorem d_Mo_lookAtCorners_108 : decode prog_9_method_28_code 108 = .ok (.iconst 0, 1) := by decide +kernel
theorem d_Mo_lookAtCorners_109 : decode prog_9_method_28_code 109 = .ok (.iload_n 1, 1) := by decide +kernel
theorem d_Mo_lookAtCorners_110 : decode prog_9_method_28_code 110 = .ok (.iastore, 1) := by decide +kernel
theorem d_Mo_lookAtCorners_111 : decode prog_9_method_28_code 111 = .ok (.aload_n 0, 1) := by decide +kernel
theorem d_Mo_lookAtCorners_112 : decode prog_9_method_28_code 112 = .ok (.getfield 54, 3) := by decide +kernel
theorem d_Mo_lookAtCorners_115 : decode prog_9_method_28_code 115 = .ok (.iconst 1, 1) := by decide +kernel
theorem d_Mo_lookAtCorners_116 : decode prog_9_method_28_code 116 = .ok (.iload_n 2, 1) := by decide +kernel
theorem d_Mo_lookAtCorners_117 : decode prog_9_method_28_code 117 = .ok (.iastore, 1) := by decide +kernel
theorem d_Mo_lookAtCorners_118 : decode prog_9_method_28_code 118 = .ok (.aload_n 0, 1) := by decide +kernel
theorem d_Mo_lookAtCorners_119 : decode prog_9_method_28_code 119 = .ok (.getfield 54, 3) := by decide +kernel
theorem d_Mo_lookAtCorners_122 : decode prog_9_method_28_code 122 = .ok (.iconst 2, 1) := by decide +kernel
theorem d_Mo_lookAtCorners_123 : decode prog_9_method_28_code 123 = .ok (.iload_n 3, 1) := by decide +kernel
theorem d_Mo_lookAtCorners_124 : decode prog_9_method_28_code 124 = .ok (.iastore, 1) := by decide +kernel
theorem d_Mo_lookAtCorners_125 : decode prog_9_method_28_code 125 = .ok (.aload_n 0, 1) := by decide +kernel
theorem d_Mo_lookAtCorners_126 : decode prog_9_method_28_code 126 = .ok (.getfield 54, 3) := by decide +kernel
theorem d_Mo_lookAtCorners_129 : decode prog_9_method_28_code 129 = .ok (.iconst 3, 1) := by decide +kernel
theorem d_Mo_lookAtCorners_130 : decode prog_9_method_28_code 130 = .ok (.iload 4, 2) := by decide +kernel
theorem d_Mo_lookAtCorners_132 : decode prog_9_method_28_code 132 = .ok (.iastore, 1) := by decide +kernel
theorem d_Mo_lookAtCorners_133 : decode prog_9_method_28_code 133 = .ok (.aload_n 0, 1) := by decide +kernel
theorem d_Mo_lookAtCorners_134 : decode prog_9_method_28_code 134 = .ok (.invokevirtual 155, 3) := by decide +kernel
theorem d_Mo_lookAtCorners_137 : decode prog_9_method_28_code 137 = .ok (.iinc 4 1, 3) := by decide +kernel
theorem d_Mo_lookAtCorners_140 : decode prog_9_method_28_code 140 = .ok (.goto (-62), 3) := by decide +kernel
theorem d_Mo_lookAtCorners_143 : decode prog_9_method_28_code 143 = .ok (.iinc 3 1, 3) := by decide +kernel
theorem d_Mo_lookAtCorners_146 : decode prog_9_method_28_code 146 = .ok (.goto (-88), 3) := by decide +kernel
theorem d_Mo_lookAtCorners_149 : decode prog_9_method_28_code 149 = .ok (.iinc 2 1, 3) := by decide +kernel
theorem d_Mo_lookAtCorners_152 : decode prog_9_method_28_code 152 = .ok (.goto (-113), 3) := by decide +kernel
theorem d_Mo_lookAtCorners_155 : decode prog_9_method_28_code 155 = .ok (.iinc 1 1, 3) := by decide +kernel
theorem d_Mo_lookAtCorners_158 : decode prog_9_method_28_code 158 = .ok (.goto (-129), 3) := by decide +kernel
theorem d_Mo_lookAtCorners_161 : decode prog_9_method_28_code 161 = .ok (.return_, 1) := by decide +kernel
theorem d_Mo_canBeKept_0 : decode prog_9_method_29_code 0 = .ok (.iconst 0, 1) := by decide +kernel
theorem d_Mo_canBeKept_1 : decode prog_9_method_29_code 1 = .ok (.istore_n 2, 1) := by decide +kernel
theorem d_Mo_canBeKept_2 : decode prog_9_method_29_code 2 = .ok (.iload_n 2, 1) := by decide +kernel
theorem d_Mo_canBeKept_3 : decode prog_9_method_29_code 3 = .ok (.sipush 256, 3) := by decide +kernel
theorem d_Mo_canBeKept_6 : decode prog_9_method_29_code 6 = .ok (.if_icmp .ge 27, 3) := by decide +kernel
theorem d_Mo_canBeKept_9 : decode prog_9_method_29_code 9 = .ok (.aload_n 0, 1) := by decide +kernel
theorem d_Mo_canBeKept_10 : decode prog_9_method_29_code 10 = .ok (.getfield 61, 3) := by decide +kernel
theorem d_Mo_canBeKept_13 : decode prog_9_method_29_code 13 = .ok (.iload_n 2, 1) := by decide +kernel
theorem d_Mo_canBeKept_14 : decode prog_9_method_29_code 14 = .ok (.baload, 1) := by decide +kernel
theorem d_Mo_canBeKept_15 : decode prog_9_method_29_code 15 = .ok (.ifCond .eq 12, 3) := by decide +kernel
theorem d_Mo_canBeKept_18 : decode prog_9_method_29_code 18 = .ok (.iload_n 2, 1) := by decide +kernel
theorem d_Mo_canBeKept_19 : decode prog_9_method_29_code 19 = .ok (.iload_n 1, 1) := by decide +kernel
theorem d_Mo_canBeKept_20 : decode prog_9_method_29_code 20 = .ok (.iand, 1) := by decide +kernel
theorem d_Mo_canBeKept_21 : decode prog_9_method_29_code 21 = .ok (.iload_n 1, 1) := by decide +kernel
theorem d_Mo_canBeKept_22 : decode prog_9_method_29_code 22 = .ok (.if_icmp .ne 5, 3) := by decide +kernel
theorem d_Mo_canBeKept_25 : decode prog_9_method_29_code 25 = .ok (.iconst 1, 1) := by decide +kernel
theorem d_Mo_canBeKept_26 : decode prog_9_method_29_code 26 = .ok (.ireturn, 1) := by decide +kernel
theorem d_Mo_canBeKept_27 : decode prog_9_method_29_code 27 = .ok (.iinc 2 1, 3) := by decide +kernel
theorem d_Mo_canBeKept_30 : decode prog_9_method_29_code 30 = .ok (.goto (-28), 3) := by decide +kernel
theorem d_Mo_canBeKept_33 : decode prog_9_method_29_code 33 = .ok (.iconst 0, 1) := by decide +kernel
theorem d_Mo_canBeKept_34 : decode prog_9_method_29_code 34 = .ok (.ireturn, 1) := by decide +kernel
theorem d_Mo_sizeOf_0 : decode prog_9_method_30_code 0 = .ok (.iconst 0, 1) := by decide +kernel
theorem d_Mo_sizeOf_1 : decode prog_9_method_30_code 1 = .ok (.istore_n 1, 1) := by decide +kernel
theorem d_Mo_sizeOf_2 : decode prog_9_method_30_code 2 = .ok (.iconst 0, 1) := by decide +kernel
theorem d_Mo_sizeOf_3 : decode prog_9_method_30_code 3 = .ok (.istore_n 2, 1) := by decide +kernel
theorem d_Mo_sizeOf_4 : decode prog_9_method_30_code 4 = .ok (.iload_n 2, 1) := by decide +kernel
theorem d_Mo_sizeOf_5 : decode prog_9_method_30_code 5 = .ok (.bipush 8, 2) := by decide +kernel
theorem d_Mo_sizeOf_7 : decode prog_9_method_30_code 7 = .ok (.if_icmp .ge 17, 3) := by decide +kernel
theorem d_Mo_sizeOf_10 : decode prog_9_method_30_code 10 = .ok (.iload_n 1, 1) := by decide +kernel
theorem d_Mo_sizeOf_11 : decode prog_9_method_30_code 11 = .ok (.iload_n 0, 1) := by decide +kernel
theorem d_Mo_sizeOf_12 : decode prog_9_method_30_code 12 = .ok (.iload_n 2, 1) := by decide +kernel
theorem d_Mo_sizeOf_13 : decode prog_9_method_30_code 13 = .ok (.ishr, 1) := by decide +kernel
theorem d_Mo_sizeOf_14 : decode prog_9_method_30_code 14 = .ok (.iconst 1, 1) := by decide +kernel
theorem d_Mo_sizeOf_15 : decode prog_9_method_30_code 15 = .ok (.iand, 1) := by decide +kernel
theorem d_Mo_sizeOf_16 : decode prog_9_method_30_code 16 = .ok (.iadd, 1) := by decide +kernel
theorem d_Mo_sizeOf_17 : decode prog_9_method_30_code 17 = .ok (.istore_n 1, 1) := by decide +kernel
theorem d_Mo_sizeOf_18 : decode prog_9_method_30_code 18 = .ok (.iinc 2 1, 3) := by decide +kernel
theorem d_Mo_sizeOf_21 : decode prog_9_method_30_code 21 = .ok (.goto (-17), 3) := by decide +kernel
theorem d_Mo_sizeOf_24 : decode prog_9_method_30_code 24 = .ok (.iload_n 1, 1) := by decide +kernel
theorem d_Mo_sizeOf_25 : decode prog_9_method_30_code 25 = .ok (.ireturn, 1) := by decide +kernel
theorem d_Mo_findClash_0 : decode prog_9_method_31_code 0 = .ok (.aload_n 0, 1) := by decide +kernel
theorem d_Mo_findClash_1 : decode prog_9_method_31_code 1 = .ok (.iconst 0, 1) := by decide +kernel
theorem d_Mo_findClash_2 : decode prog_9_method_31_code 2 = .ok (.putfield 158, 3) := by decide +kernel
theorem d_Mo_findClash_5 : decode prog_9_method_31_code 5 = .ok (.bipush 9, 2) := by decide +kernel
theorem d_Mo_findClash_7 : decode prog_9_method_31_code 7 = .ok (.istore_n 1, 1) := by decide +kernel
theorem d_Mo_findClash_8 : decode prog_9_method_31_code 8 = .ok (.iconst 0, 1) := by decide +kernel
theorem d_Mo_findClash_9 : decode prog_9_method_31_code 9 = .ok (.istore_n 2, 1) := by decide +kernel
theorem d_Mo_findClash_10 : decode prog_9_method_31_code 10 = .ok (.iconst 0, 1) := by decide +kernel
theorem d_Mo_findClash_11 : decode prog_9_method_31_code 11 = .ok (.istore_n 3, 1) := by decide +kernel
theorem d_Mo_findClash_12 : decode prog_9_method_31_code 12 = .ok (.iload_n 3, 1) := by decide +kernel
theorem d_Mo_findClash_13 : decode prog_9_method_31_code 13 = .ok (.bipush 8, 2) := by decide +kernel
theorem d_Mo_findClash_15 : decode prog_9_method_31_code 15 = .ok (.if_icmp .ge 28, 3) := by decide +kernel
theorem d_Mo_findClash_18 : decode prog_9_method_31_code 18 = .ok (.iload_n 2, 1) := by decide +kernel
theorem d_Mo_findClash_19 : decode prog_9_method_31_code 19 = .ok (.aload_n 0, 1) := by decide +kernel
theorem d_Mo_findClash_20 : decode prog_9_method_31_code 20 = .ok (.getfield 19, 3) := by decide +kernel
theorem d_Mo_findClash_23 : decode prog_9_method_31_code 23 = .ok (.iload_n 3, 1) := by decide +kernel
theorem d_Mo_findClash_24 : decode prog_9_method_31_code 24 = .ok (.baload, 1) := by decide +kernel
theorem d_Mo_findClash_25 : decode prog_9_method_31_code 25 = .ok (.ifCond .eq 9, 3) := by decide +kernel
theorem d_Mo_findClash_28 : decode prog_9_method_31_code 28 = .ok (.iconst 1, 1) := by decide +kernel
theorem d_Mo_findClash_29 : decode prog_9_method_31_code 29 = .ok (.iload_n 3, 1) := by decide +kernel
theorem d_Mo_findClash_30 : decode prog_9_method_31_code 30 = .ok (.ishl, 1) := by decide +kernel
theorem d_Mo_findClash_31 : decode prog_9_method_31_code 31 = .ok (.goto 4, 3) := by decide +kernel
theorem d_Mo_findClash_34 : decode prog_9_method_31_code 34 = .ok (.iconst 0, 1) := by decide +kernel
theorem d_Mo_findClash_35 : decode prog_9_method_31_code 35 = .ok (.ior, 1) := by decide +kernel
theorem d_Mo_findClash_36 : decode prog_9_method_31_code 36 = .ok (.istore_n 2, 1) := by decide +kernel
theorem d_Mo_findClash_37 : decode prog_9_method_31_code 37 = .ok (.iinc 3 1, 3) := by decide +kernel
theorem d_Mo_findClash_40 : decode prog_9_method_31_code 40 = .ok (.goto (-28), 3) := by decide +kernel
theorem d_Mo_findClash_43 : decode prog_9_method_31_code 43 = .ok (.iconst 1, 1) := by decide +kernel
theorem d_Mo_findClash_44 : decode prog_9_method_31_code 44 = .ok (.istore_n 3, 1) := by decide +kernel
theorem d_Mo_findClash_45 : decode prog_9_method_31_code 45 = .ok (.iload_n 3, 1) := by decide +kernel
theorem d_Mo_findClash_46 : decode prog_9_method_31_code 46 = .ok (.sipush 256, 3) := by decide +kernel
theorem d_Mo_findClash_49 : decode prog_9_method_31_code 49 = .ok (.if_icmp .ge 42, 3) := by decide +kernel
theorem d_Mo_findClash_52 : decode prog_9_method_31_code 52 = .ok (.iload_n 3, 1) := by decide +kernel
theorem d_Mo_findClash_53 : decode prog_9_method_31_code 53 = .ok (.iload_n 2, 1) := by decide +kernel
theorem d_Mo_findClash_54 : decode prog_9_method_31_code 54 = .ok (.iand, 1) := by decide +kernel
theorem d_Mo_findClash_55 : decode prog_9_method_31_code 55 = .ok (.iload_n 3, 1) := by decide +kernel
theorem d_Mo_findClash_56 : decode prog_9_method_31_code 56 = .ok (.if_icmp .ne 29, 3) := by decide +kernel
theorem d_Mo_findClash_59 : decode prog_9_method_31_code 59 = .ok (.iload_n 3, 1) := by decide +kernel
theorem d_Mo_findClash_60 : decode prog_9_method_31_code 60 = .ok (.invokestatic 161, 3) := by decide +kernel
theorem d_Mo_findClash_63 : decode prog_9_method_31_code 63 = .ok (.iload_n 1, 1) := by decide +kernel
theorem d_Mo_findClash_64 : decode prog_9_method_31_code 64 = .ok (.if_icmp .ge 21, 3) := by decide +kernel
theorem d_Mo_findClash_67 : decode prog_9_method_31_code 67 = .ok (.aload_n 0, 1) := by decide +kernel
theorem d_Mo_findClash_68 : decode prog_9_method_31_code 68 = .ok (.iload_n 3, 1) := by decide +kernel
theorem d_Mo_findClash_69 : decode prog_9_method_31_code 69 = .ok (.invokevirtual 164, 3) := by decide +kernel
theorem d_Mo_findClash_72 : decode prog_9_method_31_code 72 = .ok (.ifCond .ne 13, 3) := by decide +kernel
theorem d_Mo_findClash_75 : decode prog_9_method_31_code 75 = .ok (.aload_n 0, 1) := by decide +kernel
theorem d_Mo_findClash_76 : decode prog_9_method_31_code 76 = .ok (.iload_n 3, 1) := by decide +kernel
theorem d_Mo_findClash_77 : decode prog_9_method_31_code 77 = .ok (.putfield 158, 3) := by decide +kernel
theorem d_Mo_findClash_80 : decode prog_9_method_31_code 80 = .ok (.iload_n 3, 1) := by decide +kernel
theorem d_Mo_findClash_81 : decode prog_9_method_31_code 81 = .ok (.invokestatic 161, 3) := by decide +kernel
theorem d_Mo_findClash_84 : decode prog_9_method_31_code 84 = .ok (.istore_n 1, 1) := by decide +kernel
theorem d_Mo_findClash_85 : decode prog_9_method_31_code 85 = .ok (.iinc 3 1, 3) := by decide +kernel
theorem d_Mo_findClash_88 : decode prog_9_method_31_code 88 = .ok (.goto (-43), 3) := by decide +kernel
theorem d_Mo_findClash_91 : decode prog_9_method_31_code 91 = .ok (.return_, 1) := by decide +kernel
theorem d_Mo_run_0 : decode prog_9_method_32_code 0 = .ok (.aload_n 0, 1) := by decide +kernel
theorem d_Mo_run_1 : decode prog_9_method_32_code 1 = .ok (.invokevirtual 167, 3) := by decide +kernel
theorem d_Mo_run_4 : decode prog_9_method_32_code 4 = .ok (.istore_n 1, 1) := by decide +kernel
theorem d_Mo_run_5 : decode prog_9_method_32_code 5 = .ok (.aload_n 0, 1) := by decide +kernel
theorem d_Mo_run_6 : decode prog_9_method_32_code 6 = .ok (.invokevirtual 170, 3) := by decide +kernel
theorem d_Mo_run_9 : decode prog_9_method_32_code 9 = .ok (.aload_n 0, 1) := by decide +kernel
theorem d_Mo_run_10 : decode prog_9_method_32_code 10 = .ok (.invokevirtual 173, 3) := by decide +kernel
theorem d_Mo_run_13 : decode prog_9_method_32_code 13 = .ok (.aload_n 0, 1) := by decide +kernel
theorem d_Mo_run_14 : decode prog_9_method_32_code 14 = .ok (.aload_n 0, 1) := by decide +kernel
theorem d_Mo_run_15 : decode prog_9_method_32_code 15 = .ok (.getfield 64, 3) := by decide +kernel
theorem d_Mo_run_18 : decode prog_9_method_32_code 18 = .ok (.putfield 176, 3) := by decide +kernel
theorem d_Mo_run_21 : decode prog_9_method_32_code 21 = .ok (.aload_n 0, 1) := by decide +kernel
theorem d_Mo_run_22 : decode prog_9_method_32_code 22 = .ok (.iconst 0, 1) := by decide +kernel
theorem d_Mo_run_23 : decode prog_9_method_32_code 23 = .ok (.putfield 158, 3) := by decide +kernel
theorem d_Mo_run_26 : decode prog_9_method_32_code 26 = .ok (.iload_n 1, 1) := by decide +kernel
theorem d_Mo_run_27 : decode prog_9_method_32_code 27 = .ok (.ifCond .eq 11, 3) := by decide +kernel
theorem d_Mo_run_30 : decode prog_9_method_32_code 30 = .ok (.aload_n 0, 1) := by decide +kernel
theorem d_Mo_run_31 : decode prog_9_method_32_code 31 = .ok (.iconst 0, 1) := by decide +kernel
theorem d_Mo_run_32 : decode prog_9_method_32_code 32 = .ok (.putfield 38, 3) := by decide +kernel
theorem d_Mo_run_35 : decode prog_9_method_32_code 35 = .ok (.goto 29, 3) := by decide +kernel
theorem d_Mo_run_38 : decode prog_9_method_32_code 38 = .ok (.aload_n 0, 1) := by decide +kernel
theorem d_Mo_run_39 : decode prog_9_method_32_code 39 = .ok (.getfield 145, 3) := by decide +kernel
theorem d_Mo_run_42 : decode prog_9_method_32_code 42 = .ok (.lconst 0, 1) := by decide +kernel
theorem d_Mo_run_43 : decode prog_9_method_32_code 43 = .ok (.lcmp, 1) := by decide +kernel
theorem d_Mo_run_44 : decode prog_9_method_32_code 44 = .ok (.ifCond .le 11, 3) := by decide +kernel
theorem d_Mo_run_47 : decode prog_9_method_32_code 47 = .ok (.aload_n 0, 1) := by decide +kernel
theorem d_Mo_run_48 : decode prog_9_method_32_code 48 = .ok (.iconst 1, 1) := by decide +kernel
theorem d_Mo_run_49 : decode prog_9_method_32_code 49 = .ok (.putfield 38, 3) := by decide +kernel
theorem d_Mo_run_52 : decode prog_9_method_32_code 52 = .ok (.goto 12, 3) := by decide +kernel
theorem d_Mo_run_55 : decode prog_9_method_32_code 55 = .ok (.aload_n 0, 1) := by decide +kernel
theorem d_Mo_run_56 : decode prog_9_method_32_code 56 = .ok (.iconst 2, 1) := by decide +kernel
theorem d_Mo_run_57 : decode prog_9_method_32_code 57 = .ok (.putfield 38, 3) := by decide +kernel
theorem d_Mo_run_60 : decode prog_9_method_32_code 60 = .ok (.aload_n 0, 1) := by decide +kernel
theorem d_Mo_run_61 : decode prog_9_method_32_code 61 = .ok (.invokevirtual 179, 3) := by decide +kernel
theorem d_Mo_run_64 : decode prog_9_method_32_code 64 = .ok (.aload_n 0, 1) := by decide +kernel
theorem d_Mo_run_65 : decode prog_9_method_32_code 65 = .ok (.getfield 38, 3) := by decide +kernel
theorem d_Mo_run_68 : decode prog_9_method_32_code 68 = .ok (.ireturn, 1) := by decide +kernel
theorem d_Mo_best_0 : decode prog_9_method_33_code 0 = .ok (.aload_n 0, 1) := by decide +kernel
theorem d_Mo_best_1 : decode prog_9_method_33_code 1 = .ok (.getfield 38, 3) := by decide +kernel
theorem d_Mo_best_4 : decode prog_9_method_33_code 4 = .ok (.ifCond .ne 24, 3) := by decide +kernel
theorem d_Mo_best_7 : decode prog_9_method_33_code 7 = .ok (.iload_n 1, 1) := by decide +kernel
theorem d_Mo_best_8 : decode prog_9_method_33_code 8 = .ok (.ifCond .lt 20, 3) := by decide +kernel
theorem d_Mo_best_11 : decode prog_9_method_33_code 11 = .ok (.iload_n 1, 1) := by decide +kernel
theorem d_Mo_best_12 : decode prog_9_method_33_code 12 = .ok (.aload_n 0, 1) := by decide +kernel
theorem d_Mo_best_13 : decode prog_9_method_33_code 13 = .ok (.getfield 176, 3) := by decide +kernel
theorem d_Mo_best_16 : decode prog_9_method_33_code 16 = .ok (.if_icmp .ge 12, 3) := by decide +kernel
theorem d_Mo_best_19 : decode prog_9_method_33_code 19 = .ok (.aload_n 0, 1) := by decide +kernel
theorem d_Mo_best_20 : decode prog_9_method_33_code 20 = .ok (.getfield 42, 3) := by decide +kernel
theorem d_Mo_best_23 : decode prog_9_method_33_code 23 = .ok (.iload_n 1, 1) := by decide +kernel
theorem d_Mo_best_24 : decode prog_9_method_33_code 24 = .ok (.iaload, 1) := by decide +kernel
theorem d_Mo_best_25 : decode prog_9_method_33_code 25 = .ok (.goto 4, 3) := by decide +kernel
theorem d_Mo_best_28 : decode prog_9_method_33_code 28 = .ok (.iconst (-1), 1) := by decide +kernel
theorem d_Mo_best_29 : decode prog_9_method_33_code 29 = .ok (.ireturn, 1) := by decide +kernel
theorem d_Mo_cost_0 : decode prog_9_method_34_code 0 = .ok (.aload_n 0, 1) := by decide +kernel
theorem d_Mo_cost_1 : decode prog_9_method_34_code 1 = .ok (.getfield 38, 3) := by decide +kernel
theorem d_Mo_cost_4 : decode prog_9_method_34_code 4 = .ok (.ifCond .ne 10, 3) := by decide +kernel
theorem d_Mo_cost_7 : decode prog_9_method_34_code 7 = .ok (.aload_n 0, 1) := by decide +kernel
theorem d_Mo_cost_8 : decode prog_9_method_34_code 8 = .ok (.getfield 106, 3) := by decide +kernel
theorem d_Mo_cost_11 : decode prog_9_method_34_code 11 = .ok (.goto 6, 3) := by decide +kernel
theorem d_Mo_cost_14 : decode prog_9_method_34_code 14 = .ok (.ldc2_w 182, 3) := by decide +kernel
theorem d_Mo_cost_17 : decode prog_9_method_34_code 17 = .ok (.lreturn, 1) := by decide +kernel
theorem d_Mo_cut_0 : decode prog_9_method_35_code 0 = .ok (.aload_n 0, 1) := by decide +kernel
theorem d_Mo_cut_1 : decode prog_9_method_35_code 1 = .ok (.getfield 38, 3) := by decide +kernel
theorem d_Mo_cut_4 : decode prog_9_method_35_code 4 = .ok (.iconst 2, 1) := by decide +kernel
theorem d_Mo_cut_5 : decode prog_9_method_35_code 5 = .ok (.if_icmp .ge 14, 3) := by decide +kernel
theorem d_Mo_cut_8 : decode prog_9_method_35_code 8 = .ok (.iload_n 1, 1) := by decide +kernel
theorem d_Mo_cut_9 : decode prog_9_method_35_code 9 = .ok (.ifCond .ne 10, 3) := by decide +kernel
theorem d_Mo_cut_12 : decode prog_9_method_35_code 12 = .ok (.aload_n 0, 1) := by decide +kernel
theorem d_Mo_cut_13 : decode prog_9_method_35_code 13 = .ok (.getfield 148, 3) := by decide +kernel
theorem d_Mo_cut_16 : decode prog_9_method_35_code 16 = .ok (.goto 26, 3) := by decide +kernel
theorem d_Mo_cut_19 : decode prog_9_method_35_code 19 = .ok (.aload_n 0, 1) := by decide +kernel
theorem d_Mo_cut_20 : decode prog_9_method_35_code 20 = .ok (.getfield 38, 3) := by decide +kernel
theorem d_Mo_cut_23 : decode prog_9_method_35_code 23 = .ok (.iconst 2, 1) := by decide +kernel
theorem d_Mo_cut_24 : decode prog_9_method_35_code 24 = .ok (.if_icmp .ge 15, 3) := by decide +kernel
theorem d_Mo_cut_27 : decode prog_9_method_35_code 27 = .ok (.iload_n 1, 1) := by decide +kernel
theorem d_Mo_cut_28 : decode prog_9_method_35_code 28 = .ok (.iconst 1, 1) := by decide +kernel
theorem d_Mo_cut_29 : decode prog_9_method_35_code 29 = .ok (.if_icmp .ne 10, 3) := by decide +kernel
theorem d_Mo_cut_32 : decode prog_9_method_35_code 32 = .ok (.aload_n 0, 1) := by decide +kernel
theorem d_Mo_cut_33 : decode prog_9_method_35_code 33 = .ok (.getfield 145, 3) := by decide +kernel
theorem d_Mo_cut_36 : decode prog_9_method_35_code 36 = .ok (.goto 6, 3) := by decide +kernel
theorem d_Mo_cut_39 : decode prog_9_method_35_code 39 = .ok (.ldc2_w 182, 3) := by decide +kernel
theorem d_Mo_cut_42 : decode prog_9_method_35_code 42 = .ok (.lreturn, 1) := by decide +kernel
theorem d_Mo_clashes_0 : decode prog_9_method_36_code 0 = .ok (.aload_n 0, 1) := by decide +kernel
theorem d_Mo_clashes_1 : decode prog_9_method_36_code 1 = .ok (.getfield 38, 3) := by decide +kernel
theorem d_Mo_clashes_4 : decode prog_9_method_36_code 4 = .ok (.iconst 2, 1) := by decide +kernel
theorem d_Mo_clashes_5 : decode prog_9_method_36_code 5 = .ok (.if_icmp .ne 13, 3) := by decide +kernel
theorem d_Mo_clashes_8 : decode prog_9_method_36_code 8 = .ok (.aload_n 0, 1) := by decide +kernel
theorem d_Mo_clashes_9 : decode prog_9_method_36_code 9 = .ok (.getfield 158, 3) := by decide +kernel
theorem d_Mo_clashes_12 : decode prog_9_method_36_code 12 = .ok (.invokestatic 161, 3) := by decide +kernel
theorem d_Mo_clashes_15 : decode prog_9_method_36_code 15 = .ok (.goto 4, 3) := by decide +kernel
theorem d_Mo_clashes_18 : decode prog_9_method_36_code 18 = .ok (.iconst (-1), 1) := by decide +kernel
theorem d_Mo_clashes_19 : decode prog_9_method_36_code 19 = .ok (.ireturn, 1) := by decide +kernel
theorem d_Mo_clash_0 : decode prog_9_method_37_code 0 = .ok (.aload_n 0, 1) := by decide +kernel
theorem d_Mo_clash_1 : decode prog_9_method_37_code 1 = .ok (.getfield 38, 3) := by decide +kernel
theorem d_Mo_clash_4 : decode prog_9_method_37_code 4 = .ok (.iconst 2, 1) := by decide +kernel
theorem d_Mo_clash_5 : decode prog_9_method_37_code 5 = .ok (.if_icmp .ne 29, 3) := by decide +kernel
theorem d_Mo_clash_8 : decode prog_9_method_37_code 8 = .ok (.iload_n 1, 1) := by decide +kernel
theorem d_Mo_clash_9 : decode prog_9_method_37_code 9 = .ok (.ifCond .lt 25, 3) := by decide +kernel
theorem d_Mo_clash_12 : decode prog_9_method_37_code 12 = .ok (.iload_n 1, 1) := by decide +kernel
theorem d_Mo_clash_13 : decode prog_9_method_37_code 13 = .ok (.bipush 8, 2) := by decide +kernel
theorem d_Mo_clash_15 : decode prog_9_method_37_code 15 = .ok (.if_icmp .ge 19, 3) := by decide +kernel
theorem d_Mo_clash_18 : decode prog_9_method_37_code 18 = .ok (.aload_n 0, 1) := by decide +kernel
theorem d_Mo_clash_19 : decode prog_9_method_37_code 19 = .ok (.getfield 158, 3) := by decide +kernel
theorem d_Mo_clash_22 : decode prog_9_method_37_code 22 = .ok (.iload_n 1, 1) := by decide +kernel
theorem d_Mo_clash_23 : decode prog_9_method_37_code 23 = .ok (.ishr, 1) := by decide +kernel
theorem d_Mo_clash_24 : decode prog_9_method_37_code 24 = .ok (.iconst 1, 1) := by decide +kernel
theorem d_Mo_clash_25 : decode prog_9_method_37_code 25 = .ok (.iand, 1) := by decide +kernel
theorem d_Mo_clash_26 : decode prog_9_method_37_code 26 = .ok (.iconst 1, 1) := by decide +kernel
theorem d_Mo_clash_27 : decode prog_9_method_37_code 27 = .ok (.if_icmp .ne 7, 3) := by decide +kernel
theorem d_Mo_clash_30 : decode prog_9_method_37_code 30 = .ok (.iconst 1, 1) := by decide +kernel
theorem d_Mo_clash_31 : decode prog_9_method_37_code 31 = .ok (.goto 4, 3) := by decide +kernel
theorem d_Mo_clash_34 : decode prog_9_method_37_code 34 = .ok (.iconst 0, 1) := by decide +kernel
theorem d_Mo_clash_35 : decode prog_9_method_37_code 35 = .ok (.ireturn, 1) := by decide +kernel
