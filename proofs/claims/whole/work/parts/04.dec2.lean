theorem d_CS_init_0 : decode prog_2_method_1_code 0 = .ok (.aload_n 0, 1) := by decide +kernel
theorem d_CS_init_1 : decode prog_2_method_1_code 1 = .ok (.invokespecial 3, 3) := by decide +kernel
theorem d_CS_init_4 : decode prog_2_method_1_code 4 = .ok (.aload_n 0, 1) := by decide +kernel
theorem d_CS_init_5 : decode prog_2_method_1_code 5 = .ok (.aload_n 1, 1) := by decide +kernel
theorem d_CS_init_6 : decode prog_2_method_1_code 6 = .ok (.putfield 9, 3) := by decide +kernel
theorem d_CS_init_9 : decode prog_2_method_1_code 9 = .ok (.aload_n 0, 1) := by decide +kernel
theorem d_CS_init_10 : decode prog_2_method_1_code 10 = .ok (.aload_n 2, 1) := by decide +kernel
theorem d_CS_init_11 : decode prog_2_method_1_code 11 = .ok (.putfield 15, 3) := by decide +kernel
theorem d_CS_init_14 : decode prog_2_method_1_code 14 = .ok (.aload_n 0, 1) := by decide +kernel
theorem d_CS_init_15 : decode prog_2_method_1_code 15 = .ok (.aload_n 3, 1) := by decide +kernel
theorem d_CS_init_16 : decode prog_2_method_1_code 16 = .ok (.putfield 19, 3) := by decide +kernel
theorem d_CS_init_19 : decode prog_2_method_1_code 19 = .ok (.aload_n 0, 1) := by decide +kernel
theorem d_CS_init_20 : decode prog_2_method_1_code 20 = .ok (.iconst 5, 1) := by decide +kernel
theorem d_CS_init_21 : decode prog_2_method_1_code 21 = .ok (.bipush 32, 2) := by decide +kernel
theorem d_CS_init_23 : decode prog_2_method_1_code 23 = .ok (.multianewarray 23 2, 4) := by decide +kernel
theorem d_CS_init_27 : decode prog_2_method_1_code 27 = .ok (.putfield 25, 3) := by decide +kernel
theorem d_CS_init_30 : decode prog_2_method_1_code 30 = .ok (.aload_n 0, 1) := by decide +kernel
theorem d_CS_init_31 : decode prog_2_method_1_code 31 = .ok (.iconst 5, 1) := by decide +kernel
theorem d_CS_init_32 : decode prog_2_method_1_code 32 = .ok (.newarray .long, 2) := by decide +kernel
theorem d_CS_init_34 : decode prog_2_method_1_code 34 = .ok (.putfield 28, 3) := by decide +kernel
theorem d_CS_init_37 : decode prog_2_method_1_code 37 = .ok (.aload_n 0, 1) := by decide +kernel
theorem d_CS_init_38 : decode prog_2_method_1_code 38 = .ok (.bipush 7, 2) := by decide +kernel
theorem d_CS_init_40 : decode prog_2_method_1_code 40 = .ok (.newarray .long, 2) := by decide +kernel
theorem d_CS_init_42 : decode prog_2_method_1_code 42 = .ok (.putfield 32, 3) := by decide +kernel
theorem d_CS_init_45 : decode prog_2_method_1_code 45 = .ok (.aload_n 0, 1) := by decide +kernel
theorem d_CS_init_46 : decode prog_2_method_1_code 46 = .ok (.sipush 256, 3) := by decide +kernel
theorem d_CS_init_49 : decode prog_2_method_1_code 49 = .ok (.newarray .boolean, 2) := by decide +kernel
theorem d_CS_init_51 : decode prog_2_method_1_code 51 = .ok (.putfield 35, 3) := by decide +kernel
theorem d_CS_init_54 : decode prog_2_method_1_code 54 = .ok (.aload_n 0, 1) := by decide +kernel
theorem d_CS_init_55 : decode prog_2_method_1_code 55 = .ok (.sipush 256, 3) := by decide +kernel
theorem d_CS_init_58 : decode prog_2_method_1_code 58 = .ok (.newarray .int, 2) := by decide +kernel
theorem d_CS_init_60 : decode prog_2_method_1_code 60 = .ok (.putfield 39, 3) := by decide +kernel
theorem d_CS_init_63 : decode prog_2_method_1_code 63 = .ok (.return_, 1) := by decide +kernel
theorem d_CS_search_0 : decode prog_2_method_2_code 0 = .ok (.aload_n 0, 1) := by decide +kernel
theorem d_CS_search_1 : decode prog_2_method_2_code 1 = .ok (.invokevirtual 43, 3) := by decide +kernel
theorem d_CS_search_4 : decode prog_2_method_2_code 4 = .ok (.aload_n 0, 1) := by decide +kernel
theorem d_CS_search_5 : decode prog_2_method_2_code 5 = .ok (.iconst 0, 1) := by decide +kernel
theorem d_CS_search_6 : decode prog_2_method_2_code 6 = .ok (.iconst 0, 1) := by decide +kernel
theorem d_CS_search_7 : decode prog_2_method_2_code 7 = .ok (.invokevirtual 46, 3) := by decide +kernel
theorem d_CS_search_10 : decode prog_2_method_2_code 10 = .ok (.return_, 1) := by decide +kernel
theorem d_CS_begin_0 : decode prog_2_method_3_code 0 = .ok (.iconst 0, 1) := by decide +kernel
theorem d_CS_begin_1 : decode prog_2_method_3_code 1 = .ok (.istore_n 1, 1) := by decide +kernel
theorem d_CS_begin_2 : decode prog_2_method_3_code 2 = .ok (.iload_n 1, 1) := by decide +kernel
theorem d_CS_begin_3 : decode prog_2_method_3_code 3 = .ok (.aload_n 0, 1) := by decide +kernel
theorem d_CS_begin_4 : decode prog_2_method_3_code 4 = .ok (.getfield 50, 3) := by decide +kernel
theorem d_CS_begin_7 : decode prog_2_method_3_code 7 = .ok (.if_icmp .ge 21, 3) := by decide +kernel
theorem d_CS_begin_10 : decode prog_2_method_3_code 10 = .ok (.aload_n 0, 1) := by decide +kernel
theorem d_CS_begin_11 : decode prog_2_method_3_code 11 = .ok (.getfield 35, 3) := by decide +kernel
theorem d_CS_begin_14 : decode prog_2_method_3_code 14 = .ok (.aload_n 0, 1) := by decide +kernel
theorem d_CS_begin_15 : decode prog_2_method_3_code 15 = .ok (.getfield 39, 3) := by decide +kernel
theorem d_CS_begin_18 : decode prog_2_method_3_code 18 = .ok (.iload_n 1, 1) := by decide +kernel
theorem d_CS_begin_19 : decode prog_2_method_3_code 19 = .ok (.iaload, 1) := by decide +kernel
theorem d_CS_begin_20 : decode prog_2_method_3_code 20 = .ok (.iconst 0, 1) := by decide +kernel
theorem d_CS_begin_21 : decode prog_2_method_3_code 21 = .ok (.bastore, 1) := by decide +kernel
theorem d_CS_begin_22 : decode prog_2_method_3_code 22 = .ok (.iinc 1 1, 3) := by decide +kernel
theorem d_CS_begin_25 : decode prog_2_method_3_code 25 = .ok (.goto (-23), 3) := by decide +kernel
theorem d_CS_begin_28 : decode prog_2_method_3_code 28 = .ok (.aload_n 0, 1) := by decide +kernel
theorem d_CS_begin_29 : decode prog_2_method_3_code 29 = .ok (.iconst 0, 1) := by decide +kernel
theorem d_CS_begin_30 : decode prog_2_method_3_code 30 = .ok (.putfield 50, 3) := by decide +kernel
theorem d_CS_begin_33 : decode prog_2_method_3_code 33 = .ok (.aload_n 0, 1) := by decide +kernel
theorem d_CS_begin_34 : decode prog_2_method_3_code 34 = .ok (.iconst 0, 1) := by decide +kernel
theorem d_CS_begin_35 : decode prog_2_method_3_code 35 = .ok (.putfield 54, 3) := by decide +kernel
theorem d_CS_begin_38 : decode prog_2_method_3_code 38 = .ok (.aload_n 0, 1) := by decide +kernel
theorem d_CS_begin_39 : decode prog_2_method_3_code 39 = .ok (.lconst 0, 1) := by decide +kernel
theorem d_CS_begin_40 : decode prog_2_method_3_code 40 = .ok (.putfield 58, 3) := by decide +kernel
theorem d_CS_begin_43 : decode prog_2_method_3_code 43 = .ok (.aload_n 0, 1) := by decide +kernel
theorem d_CS_begin_44 : decode prog_2_method_3_code 44 = .ok (.lconst 1, 1) := by decide +kernel
theorem d_CS_begin_45 : decode prog_2_method_3_code 45 = .ok (.putfield 62, 3) := by decide +kernel
theorem d_CS_begin_48 : decode prog_2_method_3_code 48 = .ok (.aload_n 0, 1) := by decide +kernel
theorem d_CS_begin_49 : decode prog_2_method_3_code 49 = .ok (.aload_n 0, 1) := by decide +kernel
theorem d_CS_begin_50 : decode prog_2_method_3_code 50 = .ok (.getfield 9, 3) := by decide +kernel
theorem d_CS_begin_53 : decode prog_2_method_3_code 53 = .ok (.invokevirtual 65, 3) := by decide +kernel
theorem d_CS_begin_56 : decode prog_2_method_3_code 56 = .ok (.putfield 71, 3) := by decide +kernel
theorem d_CS_begin_59 : decode prog_2_method_3_code 59 = .ok (.aload_n 0, 1) := by decide +kernel
theorem d_CS_begin_60 : decode prog_2_method_3_code 60 = .ok (.getfield 25, 3) := by decide +kernel
theorem d_CS_begin_63 : decode prog_2_method_3_code 63 = .ok (.iconst 0, 1) := by decide +kernel
theorem d_CS_begin_64 : decode prog_2_method_3_code 64 = .ok (.aaload, 1) := by decide +kernel
theorem d_CS_begin_65 : decode prog_2_method_3_code 65 = .ok (.iconst 0, 1) := by decide +kernel
theorem d_CS_begin_66 : decode prog_2_method_3_code 66 = .ok (.lconst 1, 1) := by decide +kernel
theorem d_CS_begin_67 : decode prog_2_method_3_code 67 = .ok (.lastore, 1) := by decide +kernel
theorem d_CS_begin_68 : decode prog_2_method_3_code 68 = .ok (.return_, 1) := by decide +kernel
theorem d_CS_tighten_0 : decode prog_2_method_4_code 0 = .ok (.iload_n 1, 1) := by decide +kernel
theorem d_CS_tighten_1 : decode prog_2_method_4_code 1 = .ok (.ifCond .lt 12, 3) := by decide +kernel
theorem d_CS_tighten_4 : decode prog_2_method_4_code 4 = .ok (.iload_n 2, 1) := by decide +kernel
theorem d_CS_tighten_5 : decode prog_2_method_4_code 5 = .ok (.ifCond .lt 8, 3) := by decide +kernel
theorem d_CS_tighten_8 : decode prog_2_method_4_code 8 = .ok (.iload_n 2, 1) := by decide +kernel
theorem d_CS_tighten_9 : decode prog_2_method_4_code 9 = .ok (.iconst 4, 1) := by decide +kernel
theorem d_CS_tighten_10 : decode prog_2_method_4_code 10 = .ok (.if_icmp .le 4, 3) := by decide +kernel
theorem d_CS_tighten_13 : decode prog_2_method_4_code 13 = .ok (.return_, 1) := by decide +kernel
theorem d_CS_tighten_14 : decode prog_2_method_4_code 14 = .ok (.aload_n 0, 1) := by decide +kernel
theorem d_CS_tighten_15 : decode prog_2_method_4_code 15 = .ok (.iload_n 2, 1) := by decide +kernel
theorem d_CS_tighten_16 : decode prog_2_method_4_code 16 = .ok (.invokevirtual 74, 3) := by decide +kernel
theorem d_CS_tighten_19 : decode prog_2_method_4_code 19 = .ok (.iload_n 1, 1) := by decide +kernel
theorem d_CS_tighten_20 : decode prog_2_method_4_code 20 = .ok (.istore_n 3, 1) := by decide +kernel
theorem d_CS_tighten_21 : decode prog_2_method_4_code 21 = .ok (.iload_n 3, 1) := by decide +kernel
theorem d_CS_tighten_22 : decode prog_2_method_4_code 22 = .ok (.aload_n 0, 1) := by decide +kernel
theorem d_CS_tighten_23 : decode prog_2_method_4_code 23 = .ok (.getfield 19, 3) := by decide +kernel
theorem d_CS_tighten_26 : decode prog_2_method_4_code 26 = .ok (.getfield 78, 3) := by decide +kernel
theorem d_CS_tighten_29 : decode prog_2_method_4_code 29 = .ok (.if_icmp .ge 131, 3) := by decide +kernel
theorem d_CS_tighten_32 : decode prog_2_method_4_code 32 = .ok (.iload_n 2, 1) := by decide +kernel
theorem d_CS_tighten_33 : decode prog_2_method_4_code 33 = .ok (.iconst 4, 1) := by decide +kernel
theorem d_CS_tighten_34 : decode prog_2_method_4_code 34 = .ok (.if_icmp .ge 126, 3) := by decide +kernel
theorem d_CS_tighten_37 : decode prog_2_method_4_code 37 = .ok (.aload_n 0, 1) := by decide +kernel
theorem d_CS_tighten_38 : decode prog_2_method_4_code 38 = .ok (.getfield 19, 3) := by decide +kernel
theorem d_CS_tighten_41 : decode prog_2_method_4_code 41 = .ok (.getfield 83, 3) := by decide +kernel
theorem d_CS_tighten_44 : decode prog_2_method_4_code 44 = .ok (.iload_n 3, 1) := by decide +kernel
theorem d_CS_tighten_45 : decode prog_2_method_4_code 45 = .ok (.iaload, 1) := by decide +kernel
theorem d_CS_tighten_46 : decode prog_2_method_4_code 46 = .ok (.istore 4, 2) := by decide +kernel
theorem d_CS_tighten_48 : decode prog_2_method_4_code 48 = .ok (.aload_n 0, 1) := by decide +kernel
theorem d_CS_tighten_49 : decode prog_2_method_4_code 49 = .ok (.iload_n 2, 1) := by decide +kernel
theorem d_CS_tighten_50 : decode prog_2_method_4_code 50 = .ok (.aload_n 0, 1) := by decide +kernel
theorem d_CS_tighten_51 : decode prog_2_method_4_code 51 = .ok (.getfield 19, 3) := by decide +kernel
theorem d_CS_tighten_54 : decode prog_2_method_4_code 54 = .ok (.getfield 86, 3) := by decide +kernel
theorem d_CS_tighten_57 : decode prog_2_method_4_code 57 = .ok (.iconst 2, 1) := by decide +kernel
theorem d_CS_tighten_58 : decode prog_2_method_4_code 58 = .ok (.iload_n 3, 1) := by decide +kernel
theorem d_CS_tighten_59 : decode prog_2_method_4_code 59 = .ok (.imul, 1) := by decide +kernel
theorem d_CS_tighten_60 : decode prog_2_method_4_code 60 = .ok (.aaload, 1) := by decide +kernel
theorem d_CS_tighten_61 : decode prog_2_method_4_code 61 = .ok (.invokevirtual 89, 3) := by decide +kernel
theorem d_CS_tighten_64 : decode prog_2_method_4_code 64 = .ok (.ifCond .eq 13, 3) := by decide +kernel
theorem d_CS_tighten_67 : decode prog_2_method_4_code 67 = .ok (.aload_n 0, 1) := by decide +kernel
theorem d_CS_tighten_68 : decode prog_2_method_4_code 68 = .ok (.iload_n 3, 1) := by decide +kernel
theorem d_CS_tighten_69 : decode prog_2_method_4_code 69 = .ok (.iconst 1, 1) := by decide +kernel
theorem d_CS_tighten_70 : decode prog_2_method_4_code 70 = .ok (.iadd, 1) := by decide +kernel
theorem d_CS_tighten_71 : decode prog_2_method_4_code 71 = .ok (.iload_n 2, 1) := by decide +kernel
theorem d_CS_tighten_72 : decode prog_2_method_4_code 72 = .ok (.iconst 1, 1) := by decide +kernel
theorem d_CS_tighten_73 : decode prog_2_method_4_code 73 = .ok (.iadd, 1) := by decide +kernel
theorem d_CS_tighten_74 : decode prog_2_method_4_code 74 = .ok (.invokevirtual 46, 3) := by decide +kernel
theorem d_CS_tighten_77 : decode prog_2_method_4_code 77 = .ok (.aload_n 0, 1) := by decide +kernel
theorem d_CS_tighten_78 : decode prog_2_method_4_code 78 = .ok (.getfield 15, 3) := by decide +kernel
theorem d_CS_tighten_81 : decode prog_2_method_4_code 81 = .ok (.getfield 93, 3) := by decide +kernel
theorem d_CS_tighten_84 : decode prog_2_method_4_code 84 = .ok (.iload 4, 2) := by decide +kernel
theorem d_CS_tighten_86 : decode prog_2_method_4_code 86 = .ok (.iaload, 1) := by decide +kernel
theorem d_CS_tighten_87 : decode prog_2_method_4_code 87 = .ok (.aload_n 0, 1) := by decide +kernel
theorem d_CS_tighten_88 : decode prog_2_method_4_code 88 = .ok (.getfield 15, 3) := by decide +kernel
theorem d_CS_tighten_91 : decode prog_2_method_4_code 91 = .ok (.getfield 98, 3) := by decide +kernel
theorem d_CS_tighten_94 : decode prog_2_method_4_code 94 = .ok (.iload 4, 2) := by decide +kernel
theorem d_CS_tighten_96 : decode prog_2_method_4_code 96 = .ok (.iaload, 1) := by decide +kernel
theorem d_CS_tighten_97 : decode prog_2_method_4_code 97 = .ok (.if_icmp .ne 6, 3) := by decide +kernel
theorem d_CS_tighten_100 : decode prog_2_method_4_code 100 = .ok (.goto 54, 3) := by decide +kernel
theorem d_CS_tighten_103 : decode prog_2_method_4_code 103 = .ok (.aload_n 0, 1) := by decide +kernel
theorem d_CS_tighten_104 : decode prog_2_method_4_code 104 = .ok (.iload_n 2, 1) := by decide +kernel
theorem d_CS_tighten_105 : decode prog_2_method_4_code 105 = .ok (.aload_n 0, 1) := by decide +kernel
theorem d_CS_tighten_106 : decode prog_2_method_4_code 106 = .ok (.getfield 19, 3) := by decide +kernel
theorem d_CS_tighten_109 : decode prog_2_method_4_code 109 = .ok (.getfield 86, 3) := by decide +kernel
theorem d_CS_tighten_112 : decode prog_2_method_4_code 112 = .ok (.iconst 2, 1) := by decide +kernel
theorem d_CS_tighten_113 : decode prog_2_method_4_code 113 = .ok (.iload_n 3, 1) := by decide +kernel
theorem d_CS_tighten_114 : decode prog_2_method_4_code 114 = .ok (.imul, 1) := by decide +kernel
theorem d_CS_tighten_115 : decode prog_2_method_4_code 115 = .ok (.iconst 1, 1) := by decide +kernel
theorem d_CS_tighten_116 : decode prog_2_method_4_code 116 = .ok (.iadd, 1) := by decide +kernel
theorem d_CS_tighten_117 : decode prog_2_method_4_code 117 = .ok (.aaload, 1) := by decide +kernel
theorem d_CS_tighten_118 : decode prog_2_method_4_code 118 = .ok (.invokevirtual 89, 3) := by decide +kernel
theorem d_CS_tighten_121 : decode prog_2_method_4_code 121 = .ok (.ifCond .eq 13, 3) := by decide +kernel
theorem d_CS_tighten_124 : decode prog_2_method_4_code 124 = .ok (.aload_n 0, 1) := by decide +kernel
theorem d_CS_tighten_125 : decode prog_2_method_4_code 125 = .ok (.iload_n 3, 1) := by decide +kernel
theorem d_CS_tighten_126 : decode prog_2_method_4_code 126 = .ok (.iconst 1, 1) := by decide +kernel
theorem d_CS_tighten_127 : decode prog_2_method_4_code 127 = .ok (.iadd, 1) := by decide +kernel
theorem d_CS_tighten_128 : decode prog_2_method_4_code 128 = .ok (.iload_n 2, 1) := by decide +kernel
theorem d_CS_tighten_129 : decode prog_2_method_4_code 129 = .ok (.iconst 1, 1) := by decide +kernel
theorem d_CS_tighten_130 : decode prog_2_method_4_code 130 = .ok (.iadd, 1) := by decide +kernel
theorem d_CS_tighten_131 : decode prog_2_method_4_code 131 = .ok (.invokevirtual 46, 3) := by decide +kernel
theorem d_CS_tighten_134 : decode prog_2_method_4_code 134 = .ok (.aload_n 0, 1) := by decide +kernel
theorem d_CS_tighten_135 : decode prog_2_method_4_code 135 = .ok (.iload_n 2, 1) := by decide +kernel
theorem d_CS_tighten_136 : decode prog_2_method_4_code 136 = .ok (.iload 4, 2) := by decide +kernel
theorem d_CS_tighten_138 : decode prog_2_method_4_code 138 = .ok (.invokevirtual 101, 3) := by decide +kernel
theorem d_CS_tighten_141 : decode prog_2_method_4_code 141 = .ok (.ifCond .eq 13, 3) := by decide +kernel
theorem d_CS_tighten_144 : decode prog_2_method_4_code 144 = .ok (.aload_n 0, 1) := by decide +kernel
theorem d_CS_tighten_145 : decode prog_2_method_4_code 145 = .ok (.iload_n 3, 1) := by decide +kernel
theorem d_CS_tighten_146 : decode prog_2_method_4_code 146 = .ok (.iconst 1, 1) := by decide +kernel
theorem d_CS_tighten_147 : decode prog_2_method_4_code 147 = .ok (.iadd, 1) := by decide +kernel
theorem d_CS_tighten_148 : decode prog_2_method_4_code 148 = .ok (.iload_n 2, 1) := by decide +kernel
theorem d_CS_tighten_149 : decode prog_2_method_4_code 149 = .ok (.iconst 2, 1) := by decide +kernel
theorem d_CS_tighten_150 : decode prog_2_method_4_code 150 = .ok (.iadd, 1) := by decide +kernel
theorem d_CS_tighten_151 : decode prog_2_method_4_code 151 = .ok (.invokevirtual 46, 3) := by decide +kernel
theorem d_CS_tighten_154 : decode prog_2_method_4_code 154 = .ok (.iinc 3 1, 3) := by decide +kernel
theorem d_CS_tighten_157 : decode prog_2_method_4_code 157 = .ok (.goto (-136), 3) := by decide +kernel
theorem d_CS_tighten_160 : decode prog_2_method_4_code 160 = .ok (.return_, 1) := by decide +kernel
theorem d_CS_addBoth_0 : decode prog_2_method_5_code 0 = .ok (.aload_n 0, 1) := by decide +kernel
theorem d_CS_addBoth_1 : decode prog_2_method_5_code 1 = .ok (.getfield 15, 3) := by decide +kernel
theorem d_CS_addBoth_4 : decode prog_2_method_5_code 4 = .ok (.getfield 105, 3) := by decide +kernel
theorem d_CS_addBoth_7 : decode prog_2_method_5_code 7 = .ok (.iload_n 2, 1) := by decide +kernel
theorem d_CS_addBoth_8 : decode prog_2_method_5_code 8 = .ok (.iaload, 1) := by decide +kernel
theorem d_CS_addBoth_9 : decode prog_2_method_5_code 9 = .ok (.bipush 6, 2) := by decide +kernel
theorem d_CS_addBoth_11 : decode prog_2_method_5_code 11 = .ok (.if_icmp .eq 66, 3) := by decide +kernel
theorem d_CS_addBoth_14 : decode prog_2_method_5_code 14 = .ok (.iload_n 1, 1) := by decide +kernel
theorem d_CS_addBoth_15 : decode prog_2_method_5_code 15 = .ok (.iconst 2, 1) := by decide +kernel
theorem d_CS_addBoth_16 : decode prog_2_method_5_code 16 = .ok (.iadd, 1) := by decide +kernel
theorem d_CS_addBoth_17 : decode prog_2_method_5_code 17 = .ok (.iconst 4, 1) := by decide +kernel
theorem d_CS_addBoth_18 : decode prog_2_method_5_code 18 = .ok (.if_icmp .gt 59, 3) := by decide +kernel
theorem d_CS_addBoth_21 : decode prog_2_method_5_code 21 = .ok (.aload_n 0, 1) := by decide +kernel
theorem d_CS_addBoth_22 : decode prog_2_method_5_code 22 = .ok (.iload_n 1, 1) := by decide +kernel
theorem d_CS_addBoth_23 : decode prog_2_method_5_code 23 = .ok (.aload_n 0, 1) := by decide +kernel
theorem d_CS_addBoth_24 : decode prog_2_method_5_code 24 = .ok (.getfield 9, 3) := by decide +kernel
theorem d_CS_addBoth_27 : decode prog_2_method_5_code 27 = .ok (.getfield 108, 3) := by decide +kernel
theorem d_CS_addBoth_30 : decode prog_2_method_5_code 30 = .ok (.aload_n 0, 1) := by decide +kernel
theorem d_CS_addBoth_31 : decode prog_2_method_5_code 31 = .ok (.getfield 15, 3) := by decide +kernel
theorem d_CS_addBoth_34 : decode prog_2_method_5_code 34 = .ok (.getfield 111, 3) := by decide +kernel
theorem d_CS_addBoth_37 : decode prog_2_method_5_code 37 = .ok (.iload_n 2, 1) := by decide +kernel
theorem d_CS_addBoth_38 : decode prog_2_method_5_code 38 = .ok (.iaload, 1) := by decide +kernel
theorem d_CS_addBoth_39 : decode prog_2_method_5_code 39 = .ok (.aaload, 1) := by decide +kernel
theorem d_CS_addBoth_40 : decode prog_2_method_5_code 40 = .ok (.invokevirtual 89, 3) := by decide +kernel
theorem d_CS_addBoth_43 : decode prog_2_method_5_code 43 = .ok (.ifCond .eq 34, 3) := by decide +kernel
theorem d_CS_addBoth_46 : decode prog_2_method_5_code 46 = .ok (.aload_n 0, 1) := by decide +kernel
theorem d_CS_addBoth_47 : decode prog_2_method_5_code 47 = .ok (.iload_n 1, 1) := by decide +kernel
theorem d_CS_addBoth_48 : decode prog_2_method_5_code 48 = .ok (.iconst 1, 1) := by decide +kernel
theorem d_CS_addBoth_49 : decode prog_2_method_5_code 49 = .ok (.iadd, 1) := by decide +kernel
theorem d_CS_addBoth_50 : decode prog_2_method_5_code 50 = .ok (.aload_n 0, 1) := by decide +kernel
theorem d_CS_addBoth_51 : decode prog_2_method_5_code 51 = .ok (.getfield 9, 3) := by decide +kernel
theorem d_CS_addBoth_54 : decode prog_2_method_5_code 54 = .ok (.getfield 108, 3) := by decide +kernel
theorem d_CS_addBoth_57 : decode prog_2_method_5_code 57 = .ok (.aload_n 0, 1) := by decide +kernel
theorem d_CS_addBoth_58 : decode prog_2_method_5_code 58 = .ok (.getfield 15, 3) := by decide +kernel
theorem d_CS_addBoth_61 : decode prog_2_method_5_code 61 = .ok (.getfield 105, 3) := by decide +kernel
theorem d_CS_addBoth_64 : decode prog_2_method_5_code 64 = .ok (.iload_n 2, 1) := by decide +kernel
theorem d_CS_addBoth_65 : decode prog_2_method_5_code 65 = .ok (.iaload, 1) := by decide +kernel
theorem d_CS_addBoth_66 : decode prog_2_method_5_code 66 = .ok (.aaload, 1) := by decide +kernel
theorem d_CS_addBoth_67 : decode prog_2_method_5_code 67 = .ok (.invokevirtual 89, 3) := by decide +kernel
theorem d_CS_addBoth_70 : decode prog_2_method_5_code 70 = .ok (.ifCond .eq 7, 3) := by decide +kernel
theorem d_CS_addBoth_73 : decode prog_2_method_5_code 73 = .ok (.iconst 1, 1) := by decide +kernel
theorem d_CS_addBoth_74 : decode prog_2_method_5_code 74 = .ok (.goto 4, 3) := by decide +kernel
theorem d_CS_addBoth_77 : decode prog_2_method_5_code 77 = .ok (.iconst 0, 1) := by decide +kernel
theorem d_CS_addBoth_78 : decode prog_2_method_5_code 78 = .ok (.ireturn, 1) := by decide +kernel
theorem d_CS_add_0 : decode prog_2_method_6_code 0 = .ok (.aload_n 0, 1) := by decide +kernel
theorem d_CS_add_1 : decode prog_2_method_6_code 1 = .ok (.getfield 25, 3) := by decide +kernel
theorem d_CS_add_4 : decode prog_2_method_6_code 4 = .ok (.iload_n 1, 1) := by decide +kernel
theorem d_CS_add_5 : decode prog_2_method_6_code 5 = .ok (.aaload, 1) := by decide +kernel
theorem d_CS_add_6 : decode prog_2_method_6_code 6 = .ok (.astore_n 3, 1) := by decide +kernel
theorem d_CS_add_7 : decode prog_2_method_6_code 7 = .ok (.aload_n 0, 1) := by decide +kernel
theorem d_CS_add_8 : decode prog_2_method_6_code 8 = .ok (.getfield 25, 3) := by decide +kernel
theorem d_CS_add_11 : decode prog_2_method_6_code 11 = .ok (.iload_n 1, 1) := by decide +kernel
theorem d_CS_add_12 : decode prog_2_method_6_code 12 = .ok (.iconst 1, 1) := by decide +kernel
theorem d_CS_add_13 : decode prog_2_method_6_code 13 = .ok (.iadd, 1) := by decide +kernel
theorem d_CS_add_14 : decode prog_2_method_6_code 14 = .ok (.aaload, 1) := by decide +kernel
theorem d_CS_add_15 : decode prog_2_method_6_code 15 = .ok (.astore 4, 2) := by decide +kernel
theorem d_CS_add_17 : decode prog_2_method_6_code 17 = .ok (.iconst 0, 1) := by decide +kernel
theorem d_CS_add_18 : decode prog_2_method_6_code 18 = .ok (.istore 5, 2) := by decide +kernel
theorem d_CS_add_20 : decode prog_2_method_6_code 20 = .ok (.getstatic 114, 3) := by decide +kernel
theorem d_CS_add_23 : decode prog_2_method_6_code 23 = .ok (.iload_n 1, 1) := by decide +kernel
theorem d_CS_add_24 : decode prog_2_method_6_code 24 = .ok (.iconst 1, 1) := by decide +kernel
theorem d_CS_add_25 : decode prog_2_method_6_code 25 = .ok (.iadd, 1) := by decide +kernel
theorem d_CS_add_26 : decode prog_2_method_6_code 26 = .ok (.iaload, 1) := by decide +kernel
theorem d_CS_add_27 : decode prog_2_method_6_code 27 = .ok (.istore 6, 2) := by decide +kernel
theorem d_CS_add_29 : decode prog_2_method_6_code 29 = .ok (.iload 6, 2) := by decide +kernel
theorem d_CS_add_31 : decode prog_2_method_6_code 31 = .ok (.getstatic 114, 3) := by decide +kernel
theorem d_CS_add_34 : decode prog_2_method_6_code 34 = .ok (.iload_n 1, 1) := by decide +kernel
theorem d_CS_add_35 : decode prog_2_method_6_code 35 = .ok (.iconst 2, 1) := by decide +kernel
theorem d_CS_add_36 : decode prog_2_method_6_code 36 = .ok (.iadd, 1) := by decide +kernel
theorem d_CS_add_37 : decode prog_2_method_6_code 37 = .ok (.iaload, 1) := by decide +kernel
theorem d_CS_add_38 : decode prog_2_method_6_code 38 = .ok (.if_icmp .ge 54, 3) := by decide +kernel
theorem d_CS_add_41 : decode prog_2_method_6_code 41 = .ok (.getstatic 117, 3) := by decide +kernel
theorem d_CS_add_44 : decode prog_2_method_6_code 44 = .ok (.iload 6, 2) := by decide +kernel
theorem d_CS_add_46 : decode prog_2_method_6_code 46 = .ok (.iaload, 1) := by decide +kernel
theorem d_CS_add_47 : decode prog_2_method_6_code 47 = .ok (.istore 7, 2) := by decide +kernel
theorem d_CS_add_49 : decode prog_2_method_6_code 49 = .ok (.aload 4, 2) := by decide +kernel
theorem d_CS_add_51 : decode prog_2_method_6_code 51 = .ok (.iload 7, 2) := by decide +kernel
theorem d_CS_add_53 : decode prog_2_method_6_code 53 = .ok (.aload_n 3, 1) := by decide +kernel
theorem d_CS_add_54 : decode prog_2_method_6_code 54 = .ok (.aload_n 2, 1) := by decide +kernel
theorem d_CS_add_55 : decode prog_2_method_6_code 55 = .ok (.iload 7, 2) := by decide +kernel
theorem d_CS_add_57 : decode prog_2_method_6_code 57 = .ok (.invokestatic 120, 3) := by decide +kernel
theorem d_CS_add_60 : decode prog_2_method_6_code 60 = .ok (.lastore, 1) := by decide +kernel
theorem d_CS_add_61 : decode prog_2_method_6_code 61 = .ok (.aload 4, 2) := by decide +kernel
theorem d_CS_add_63 : decode prog_2_method_6_code 63 = .ok (.iload 7, 2) := by decide +kernel
theorem d_CS_add_65 : decode prog_2_method_6_code 65 = .ok (.laload, 1) := by decide +kernel
theorem d_CS_add_66 : decode prog_2_method_6_code 66 = .ok (.lconst 0, 1) := by decide +kernel
theorem d_CS_add_67 : decode prog_2_method_6_code 67 = .ok (.lcmp, 1) := by decide +kernel
theorem d_CS_add_68 : decode prog_2_method_6_code 68 = .ok (.ifCond .eq 18, 3) := by decide +kernel
theorem d_CS_add_71 : decode prog_2_method_6_code 71 = .ok (.iload 7, 2) := by decide +kernel
theorem d_CS_add_73 : decode prog_2_method_6_code 73 = .ok (.aload_n 0, 1) := by decide +kernel
theorem d_CS_add_74 : decode prog_2_method_6_code 74 = .ok (.getfield 71, 3) := by decide +kernel
theorem d_CS_add_77 : decode prog_2_method_6_code 77 = .ok (.iconst (-1), 1) := by decide +kernel
theorem d_CS_add_78 : decode prog_2_method_6_code 78 = .ok (.ixor, 1) := by decide +kernel
theorem d_CS_add_79 : decode prog_2_method_6_code 79 = .ok (.iand, 1) := by decide +kernel
theorem d_CS_add_80 : decode prog_2_method_6_code 80 = .ok (.ifCond .ne 6, 3) := by decide +kernel
theorem d_CS_add_83 : decode prog_2_method_6_code 83 = .ok (.iconst 1, 1) := by decide +kernel
theorem d_CS_add_84 : decode prog_2_method_6_code 84 = .ok (.istore 5, 2) := by decide +kernel
theorem d_CS_add_86 : decode prog_2_method_6_code 86 = .ok (.iinc 6 1, 3) := by decide +kernel
theorem d_CS_add_89 : decode prog_2_method_6_code 89 = .ok (.goto (-60), 3) := by decide +kernel
theorem d_CS_add_92 : decode prog_2_method_6_code 92 = .ok (.iload 5, 2) := by decide +kernel
theorem d_CS_add_94 : decode prog_2_method_6_code 94 = .ok (.ireturn, 1) := by decide +kernel
theorem d_CS_expand_0 : decode prog_2_method_7_code 0 = .ok (.lconst 0, 1) := by decide +kernel
theorem d_CS_expand_1 : decode prog_2_method_7_code 1 = .ok (.lstore_n 3, 1) := by decide +kernel
theorem d_CS_expand_2 : decode prog_2_method_7_code 2 = .ok (.lconst 1, 1) := by decide +kernel
theorem d_CS_expand_3 : decode prog_2_method_7_code 3 = .ok (.lstore 5, 2) := by decide +kernel
theorem d_CS_expand_5 : decode prog_2_method_7_code 5 = .ok (.iconst 4, 1) := by decide +kernel
theorem d_CS_expand_6 : decode prog_2_method_7_code 6 = .ok (.istore 7, 2) := by decide +kernel
theorem d_CS_expand_8 : decode prog_2_method_7_code 8 = .ok (.iload 7, 2) := by decide +kernel
theorem d_CS_expand_10 : decode prog_2_method_7_code 10 = .ok (.ifCond .lt 42, 3) := by decide +kernel
theorem d_CS_expand_13 : decode prog_2_method_7_code 13 = .ok (.iload_n 2, 1) := by decide +kernel
theorem d_CS_expand_14 : decode prog_2_method_7_code 14 = .ok (.iload 7, 2) := by decide +kernel
theorem d_CS_expand_16 : decode prog_2_method_7_code 16 = .ok (.invokestatic 124, 3) := by decide +kernel
theorem d_CS_expand_19 : decode prog_2_method_7_code 19 = .ok (.ifCond .eq 27, 3) := by decide +kernel
theorem d_CS_expand_22 : decode prog_2_method_7_code 22 = .ok (.lload_n 3, 1) := by decide +kernel
theorem d_CS_expand_23 : decode prog_2_method_7_code 23 = .ok (.lload 5, 2) := by decide +kernel
theorem d_CS_expand_25 : decode prog_2_method_7_code 25 = .ok (.aload_n 1, 1) := by decide +kernel
theorem d_CS_expand_26 : decode prog_2_method_7_code 26 = .ok (.iload 7, 2) := by decide +kernel
theorem d_CS_expand_28 : decode prog_2_method_7_code 28 = .ok (.laload, 1) := by decide +kernel
theorem d_CS_expand_29 : decode prog_2_method_7_code 29 = .ok (.lmul, 1) := by decide +kernel
theorem d_CS_expand_30 : decode prog_2_method_7_code 30 = .ok (.aload_n 0, 1) := by decide +kernel
theorem d_CS_expand_31 : decode prog_2_method_7_code 31 = .ok (.iload_n 2, 1) := by decide +kernel
theorem d_CS_expand_32 : decode prog_2_method_7_code 32 = .ok (.iconst 1, 1) := by decide +kernel
theorem d_CS_expand_33 : decode prog_2_method_7_code 33 = .ok (.iload 7, 2) := by decide +kernel
theorem d_CS_expand_35 : decode prog_2_method_7_code 35 = .ok (.ishl, 1) := by decide +kernel
theorem d_CS_expand_36 : decode prog_2_method_7_code 36 = .ok (.ixor, 1) := by decide +kernel
theorem d_CS_expand_37 : decode prog_2_method_7_code 37 = .ok (.laload, 1) := by decide +kernel
theorem d_CS_expand_38 : decode prog_2_method_7_code 38 = .ok (.lmul, 1) := by decide +kernel
theorem d_CS_expand_39 : decode prog_2_method_7_code 39 = .ok (.ladd, 1) := by decide +kernel
theorem d_CS_expand_40 : decode prog_2_method_7_code 40 = .ok (.lstore_n 3, 1) := by decide +kernel
theorem d_CS_expand_41 : decode prog_2_method_7_code 41 = .ok (.lload 5, 2) := by decide +kernel
theorem d_CS_expand_43 : decode prog_2_method_7_code 43 = .ok (.lneg, 1) := by decide +kernel
theorem d_CS_expand_44 : decode prog_2_method_7_code 44 = .ok (.lstore 5, 2) := by decide +kernel
theorem d_CS_expand_46 : decode prog_2_method_7_code 46 = .ok (.iinc 7 (-1), 3) := by decide +kernel
theorem d_CS_expand_49 : decode prog_2_method_7_code 49 = .ok (.goto (-41), 3) := by decide +kernel
theorem d_CS_expand_52 : decode prog_2_method_7_code 52 = .ok (.lload_n 3, 1) := by decide +kernel
theorem d_CS_expand_53 : decode prog_2_method_7_code 53 = .ok (.lreturn, 1) := by decide +kernel
theorem d_CS_visitCorners_0 : decode prog_2_method_8_code 0 = .ok (.aload_n 0, 1) := by decide +kernel
theorem d_CS_visitCorners_1 : decode prog_2_method_8_code 1 = .ok (.getfield 25, 3) := by decide +kernel
theorem d_CS_visitCorners_4 : decode prog_2_method_8_code 4 = .ok (.iload_n 1, 1) := by decide +kernel
theorem d_CS_visitCorners_5 : decode prog_2_method_8_code 5 = .ok (.aaload, 1) := by decide +kernel
theorem d_CS_visitCorners_6 : decode prog_2_method_8_code 6 = .ok (.astore_n 2, 1) := by decide +kernel
theorem d_CS_visitCorners_7 : decode prog_2_method_8_code 7 = .ok (.getstatic 114, 3) := by decide +kernel
theorem d_CS_visitCorners_10 : decode prog_2_method_8_code 10 = .ok (.iload_n 1, 1) := by decide +kernel
theorem d_CS_visitCorners_11 : decode prog_2_method_8_code 11 = .ok (.iaload, 1) := by decide +kernel
theorem d_CS_visitCorners_12 : decode prog_2_method_8_code 12 = .ok (.istore_n 3, 1) := by decide +kernel
theorem d_CS_visitCorners_13 : decode prog_2_method_8_code 13 = .ok (.iload_n 3, 1) := by decide +kernel
theorem d_CS_visitCorners_14 : decode prog_2_method_8_code 14 = .ok (.getstatic 114, 3) := by decide +kernel
theorem d_CS_visitCorners_17 : decode prog_2_method_8_code 17 = .ok (.iload_n 1, 1) := by decide +kernel
theorem d_CS_visitCorners_18 : decode prog_2_method_8_code 18 = .ok (.iconst 1, 1) := by decide +kernel
theorem d_CS_visitCorners_19 : decode prog_2_method_8_code 19 = .ok (.iadd, 1) := by decide +kernel
theorem d_CS_visitCorners_20 : decode prog_2_method_8_code 20 = .ok (.iaload, 1) := by decide +kernel
theorem d_CS_visitCorners_21 : decode prog_2_method_8_code 21 = .ok (.if_icmp .ge 93, 3) := by decide +kernel
theorem d_CS_visitCorners_24 : decode prog_2_method_8_code 24 = .ok (.getstatic 117, 3) := by decide +kernel
theorem d_CS_visitCorners_27 : decode prog_2_method_8_code 27 = .ok (.iload_n 3, 1) := by decide +kernel
theorem d_CS_visitCorners_28 : decode prog_2_method_8_code 28 = .ok (.iaload, 1) := by decide +kernel
theorem d_CS_visitCorners_29 : decode prog_2_method_8_code 29 = .ok (.istore 4, 2) := by decide +kernel
theorem d_CS_visitCorners_31 : decode prog_2_method_8_code 31 = .ok (.iload 4, 2) := by decide +kernel
theorem d_CS_visitCorners_33 : decode prog_2_method_8_code 33 = .ok (.aload_n 0, 1) := by decide +kernel
theorem d_CS_visitCorners_34 : decode prog_2_method_8_code 34 = .ok (.getfield 71, 3) := by decide +kernel
theorem d_CS_visitCorners_37 : decode prog_2_method_8_code 37 = .ok (.iconst (-1), 1) := by decide +kernel
theorem d_CS_visitCorners_38 : decode prog_2_method_8_code 38 = .ok (.ixor, 1) := by decide +kernel
theorem d_CS_visitCorners_39 : decode prog_2_method_8_code 39 = .ok (.iand, 1) := by decide +kernel
theorem d_CS_visitCorners_40 : decode prog_2_method_8_code 40 = .ok (.ifCond .ne 68, 3) := by decide +kernel
theorem d_CS_visitCorners_43 : decode prog_2_method_8_code 43 = .ok (.aload_n 2, 1) := by decide +kernel
theorem d_CS_visitCorners_44 : decode prog_2_method_8_code 44 = .ok (.iload 4, 2) := by decide +kernel
theorem d_CS_visitCorners_46 : decode prog_2_method_8_code 46 = .ok (.laload, 1) := by decide +kernel
theorem d_CS_visitCorners_47 : decode prog_2_method_8_code 47 = .ok (.lconst 0, 1) := by decide +kernel
theorem d_CS_visitCorners_48 : decode prog_2_method_8_code 48 = .ok (.lcmp, 1) := by decide +kernel
theorem d_CS_visitCorners_49 : decode prog_2_method_8_code 49 = .ok (.ifCond .ne 6, 3) := by decide +kernel
theorem d_CS_visitCorners_52 : decode prog_2_method_8_code 52 = .ok (.goto 56, 3) := by decide +kernel
theorem d_CS_visitCorners_55 : decode prog_2_method_8_code 55 = .ok (.aload_n 0, 1) := by decide +kernel
theorem d_CS_visitCorners_56 : decode prog_2_method_8_code 56 = .ok (.getfield 71, 3) := by decide +kernel
theorem d_CS_visitCorners_59 : decode prog_2_method_8_code 59 = .ok (.iload 4, 2) := by decide +kernel
theorem d_CS_visitCorners_61 : decode prog_2_method_8_code 61 = .ok (.iconst (-1), 1) := by decide +kernel
theorem d_CS_visitCorners_62 : decode prog_2_method_8_code 62 = .ok (.ixor, 1) := by decide +kernel
theorem d_CS_visitCorners_63 : decode prog_2_method_8_code 63 = .ok (.iand, 1) := by decide +kernel
theorem d_CS_visitCorners_64 : decode prog_2_method_8_code 64 = .ok (.istore 5, 2) := by decide +kernel
theorem d_CS_visitCorners_66 : decode prog_2_method_8_code 66 = .ok (.iconst 0, 1) := by decide +kernel
theorem d_CS_visitCorners_67 : decode prog_2_method_8_code 67 = .ok (.istore 6, 2) := by decide +kernel
theorem d_CS_visitCorners_69 : decode prog_2_method_8_code 69 = .ok (.iload 6, 2) := by decide +kernel
theorem d_CS_visitCorners_71 : decode prog_2_method_8_code 71 = .ok (.bipush 16, 2) := by decide +kernel
theorem d_CS_visitCorners_73 : decode prog_2_method_8_code 73 = .ok (.if_icmp .ge 35, 3) := by decide +kernel
theorem d_CS_visitCorners_76 : decode prog_2_method_8_code 76 = .ok (.iload 6, 2) := by decide +kernel
theorem d_CS_visitCorners_78 : decode prog_2_method_8_code 78 = .ok (.iload 5, 2) := by decide +kernel
theorem d_CS_visitCorners_80 : decode prog_2_method_8_code 80 = .ok (.iconst (-1), 1) := by decide +kernel
theorem d_CS_visitCorners_81 : decode prog_2_method_8_code 81 = .ok (.ixor, 1) := by decide +kernel
theorem d_CS_visitCorners_82 : decode prog_2_method_8_code 82 = .ok (.iand, 1) := by decide +kernel
theorem d_CS_visitCorners_83 : decode prog_2_method_8_code 83 = .ok (.ifCond .ne 19, 3) := by decide +kernel
theorem d_CS_visitCorners_86 : decode prog_2_method_8_code 86 = .ok (.aload_n 0, 1) := by decide +kernel
theorem d_CS_visitCorners_87 : decode prog_2_method_8_code 87 = .ok (.aload_n 2, 1) := by decide +kernel
theorem d_CS_visitCorners_88 : decode prog_2_method_8_code 88 = .ok (.iload 4, 2) := by decide +kernel
theorem d_CS_visitCorners_90 : decode prog_2_method_8_code 90 = .ok (.iload 6, 2) := by decide +kernel
theorem d_CS_visitCorners_92 : decode prog_2_method_8_code 92 = .ok (.invokevirtual 127, 3) := by decide +kernel
theorem d_CS_visitCorners_95 : decode prog_2_method_8_code 95 = .ok (.ifCond .eq 7, 3) := by decide +kernel
theorem d_CS_visitCorners_98 : decode prog_2_method_8_code 98 = .ok (.aload_n 0, 1) := by decide +kernel
theorem d_CS_visitCorners_99 : decode prog_2_method_8_code 99 = .ok (.invokevirtual 131, 3) := by decide +kernel
theorem d_CS_visitCorners_102 : decode prog_2_method_8_code 102 = .ok (.iinc 6 1, 3) := by decide +kernel
theorem d_CS_visitCorners_105 : decode prog_2_method_8_code 105 = .ok (.goto (-36), 3) := by decide +kernel
theorem d_CS_visitCorners_108 : decode prog_2_method_8_code 108 = .ok (.iinc 3 1, 3) := by decide +kernel
theorem d_CS_visitCorners_111 : decode prog_2_method_8_code 111 = .ok (.goto (-98), 3) := by decide +kernel
theorem d_CS_visitCorners_114 : decode prog_2_method_8_code 114 = .ok (.return_, 1) := by decide +kernel
theorem d_CS_meets_0 : decode prog_2_method_9_code 0 = .ok (.aload_n 1, 1) := by decide +kernel
theorem d_CS_meets_1 : decode prog_2_method_9_code 1 = .ok (.iload_n 2, 1) := by decide +kernel
theorem d_CS_meets_2 : decode prog_2_method_9_code 2 = .ok (.laload, 1) := by decide +kernel
theorem d_CS_meets_3 : decode prog_2_method_9_code 3 = .ok (.lconst 0, 1) := by decide +kernel
theorem d_CS_meets_4 : decode prog_2_method_9_code 4 = .ok (.lcmp, 1) := by decide +kernel
theorem d_CS_meets_5 : decode prog_2_method_9_code 5 = .ok (.ifCond .ge 9, 3) := by decide +kernel
theorem d_CS_meets_8 : decode prog_2_method_9_code 8 = .ok (.ldc2_w 134, 3) := by decide +kernel
theorem d_CS_meets_11 : decode prog_2_method_9_code 11 = .ok (.goto 4, 3) := by decide +kernel
theorem d_CS_meets_14 : decode prog_2_method_9_code 14 = .ok (.lconst 1, 1) := by decide +kernel
theorem d_CS_meets_15 : decode prog_2_method_9_code 15 = .ok (.lstore 4, 2) := by decide +kernel
theorem d_CS_meets_17 : decode prog_2_method_9_code 17 = .ok (.lload 4, 2) := by decide +kernel
theorem d_CS_meets_19 : decode prog_2_method_9_code 19 = .ok (.aload_n 1, 1) := by decide +kernel
theorem d_CS_meets_20 : decode prog_2_method_9_code 20 = .ok (.iload_n 2, 1) := by decide +kernel
theorem d_CS_meets_21 : decode prog_2_method_9_code 21 = .ok (.laload, 1) := by decide +kernel
theorem d_CS_meets_22 : decode prog_2_method_9_code 22 = .ok (.lmul, 1) := by decide +kernel
theorem d_CS_meets_23 : decode prog_2_method_9_code 23 = .ok (.lstore 6, 2) := by decide +kernel
theorem d_CS_meets_25 : decode prog_2_method_9_code 25 = .ok (.aload_n 0, 1) := by decide +kernel
theorem d_CS_meets_26 : decode prog_2_method_9_code 26 = .ok (.getfield 28, 3) := by decide +kernel
theorem d_CS_meets_29 : decode prog_2_method_9_code 29 = .ok (.iconst 4, 1) := by decide +kernel
theorem d_CS_meets_30 : decode prog_2_method_9_code 30 = .ok (.lload 6, 2) := by decide +kernel
theorem d_CS_meets_32 : decode prog_2_method_9_code 32 = .ok (.lastore, 1) := by decide +kernel
theorem d_CS_meets_33 : decode prog_2_method_9_code 33 = .ok (.iconst 0, 1) := by decide +kernel
theorem d_CS_meets_34 : decode prog_2_method_9_code 34 = .ok (.istore 8, 2) := by decide +kernel
theorem d_CS_meets_36 : decode prog_2_method_9_code 36 = .ok (.iload 8, 2) := by decide +kernel
theorem d_CS_meets_38 : decode prog_2_method_9_code 38 = .ok (.iconst 4, 1) := by decide +kernel
theorem d_CS_meets_39 : decode prog_2_method_9_code 39 = .ok (.if_icmp .ge 101, 3) := by decide +kernel
theorem d_CS_meets_42 : decode prog_2_method_9_code 42 = .ok (.aload_n 0, 1) := by decide +kernel
theorem d_CS_meets_43 : decode prog_2_method_9_code 43 = .ok (.getfield 9, 3) := by decide +kernel
theorem d_CS_meets_46 : decode prog_2_method_9_code 46 = .ok (.getfield 136, 3) := by decide +kernel
theorem d_CS_meets_49 : decode prog_2_method_9_code 49 = .ok (.iload 8, 2) := by decide +kernel
theorem d_CS_meets_51 : decode prog_2_method_9_code 51 = .ok (.iaload, 1) := by decide +kernel
theorem d_CS_meets_52 : decode prog_2_method_9_code 52 = .ok (.i2l, 1) := by decide +kernel
theorem d_CS_meets_53 : decode prog_2_method_9_code 53 = .ok (.lload 6, 2) := by decide +kernel
theorem d_CS_meets_55 : decode prog_2_method_9_code 55 = .ok (.lmul, 1) := by decide +kernel
theorem d_CS_meets_56 : decode prog_2_method_9_code 56 = .ok (.lstore 9, 2) := by decide +kernel
theorem d_CS_meets_58 : decode prog_2_method_9_code 58 = .ok (.iload_n 2, 1) := by decide +kernel
theorem d_CS_meets_59 : decode prog_2_method_9_code 59 = .ok (.iload 8, 2) := by decide +kernel
theorem d_CS_meets_61 : decode prog_2_method_9_code 61 = .ok (.invokestatic 124, 3) := by decide +kernel
theorem d_CS_meets_64 : decode prog_2_method_9_code 64 = .ok (.ifCond .ne 28, 3) := by decide +kernel
theorem d_CS_meets_67 : decode prog_2_method_9_code 67 = .ok (.aload_n 0, 1) := by decide +kernel
theorem d_CS_meets_68 : decode prog_2_method_9_code 68 = .ok (.getfield 28, 3) := by decide +kernel
theorem d_CS_meets_71 : decode prog_2_method_9_code 71 = .ok (.iload 8, 2) := by decide +kernel
theorem d_CS_meets_73 : decode prog_2_method_9_code 73 = .ok (.iload_n 3, 1) := by decide +kernel
theorem d_CS_meets_74 : decode prog_2_method_9_code 74 = .ok (.iload 8, 2) := by decide +kernel
theorem d_CS_meets_76 : decode prog_2_method_9_code 76 = .ok (.invokestatic 124, 3) := by decide +kernel
theorem d_CS_meets_79 : decode prog_2_method_9_code 79 = .ok (.ifCond .eq 8, 3) := by decide +kernel
theorem d_CS_meets_82 : decode prog_2_method_9_code 82 = .ok (.lload 9, 2) := by decide +kernel
theorem d_CS_meets_84 : decode prog_2_method_9_code 84 = .ok (.goto 4, 3) := by decide +kernel
theorem d_CS_meets_87 : decode prog_2_method_9_code 87 = .ok (.lconst 0, 1) := by decide +kernel
theorem d_CS_meets_88 : decode prog_2_method_9_code 88 = .ok (.lastore, 1) := by decide +kernel
theorem d_CS_meets_89 : decode prog_2_method_9_code 89 = .ok (.goto 45, 3) := by decide +kernel
theorem d_CS_meets_92 : decode prog_2_method_9_code 92 = .ok (.lload 4, 2) := by decide +kernel
theorem d_CS_meets_94 : decode prog_2_method_9_code 94 = .ok (.lneg, 1) := by decide +kernel
theorem d_CS_meets_95 : decode prog_2_method_9_code 95 = .ok (.aload_n 0, 1) := by decide +kernel
theorem d_CS_meets_96 : decode prog_2_method_9_code 96 = .ok (.aload_n 1, 1) := by decide +kernel
theorem d_CS_meets_97 : decode prog_2_method_9_code 97 = .ok (.iload_n 2, 1) := by decide +kernel
theorem d_CS_meets_98 : decode prog_2_method_9_code 98 = .ok (.iconst 1, 1) := by decide +kernel
theorem d_CS_meets_99 : decode prog_2_method_9_code 99 = .ok (.iload 8, 2) := by decide +kernel
theorem d_CS_meets_101 : decode prog_2_method_9_code 101 = .ok (.ishl, 1) := by decide +kernel
theorem d_CS_meets_102 : decode prog_2_method_9_code 102 = .ok (.ixor, 1) := by decide +kernel
theorem d_CS_meets_103 : decode prog_2_method_9_code 103 = .ok (.iload 8, 2) := by decide +kernel
theorem d_CS_meets_105 : decode prog_2_method_9_code 105 = .ok (.iload_n 3, 1) := by decide +kernel
theorem d_CS_meets_106 : decode prog_2_method_9_code 106 = .ok (.invokevirtual 139, 3) := by decide +kernel
theorem d_CS_meets_109 : decode prog_2_method_9_code 109 = .ok (.lmul, 1) := by decide +kernel
theorem d_CS_meets_110 : decode prog_2_method_9_code 110 = .ok (.lstore 11, 2) := by decide +kernel
theorem d_CS_meets_112 : decode prog_2_method_9_code 112 = .ok (.lload 11, 2) := by decide +kernel
theorem d_CS_meets_114 : decode prog_2_method_9_code 114 = .ok (.lconst 0, 1) := by decide +kernel
theorem d_CS_meets_115 : decode prog_2_method_9_code 115 = .ok (.lload 9, 2) := by decide +kernel
theorem d_CS_meets_117 : decode prog_2_method_9_code 117 = .ok (.invokestatic 143, 3) := by decide +kernel
theorem d_CS_meets_120 : decode prog_2_method_9_code 120 = .ok (.ifCond .ne 5, 3) := by decide +kernel
theorem d_CS_meets_123 : decode prog_2_method_9_code 123 = .ok (.iconst 0, 1) := by decide +kernel
theorem d_CS_meets_124 : decode prog_2_method_9_code 124 = .ok (.ireturn, 1) := by decide +kernel
theorem d_CS_meets_125 : decode prog_2_method_9_code 125 = .ok (.aload_n 0, 1) := by decide +kernel
theorem d_CS_meets_126 : decode prog_2_method_9_code 126 = .ok (.getfield 28, 3) := by decide +kernel
theorem d_CS_meets_129 : decode prog_2_method_9_code 129 = .ok (.iload 8, 2) := by decide +kernel
theorem d_CS_meets_131 : decode prog_2_method_9_code 131 = .ok (.lload 11, 2) := by decide +kernel
theorem d_CS_meets_133 : decode prog_2_method_9_code 133 = .ok (.lastore, 1) := by decide +kernel
theorem d_CS_meets_134 : decode prog_2_method_9_code 134 = .ok (.iinc 8 1, 3) := by decide +kernel
theorem d_CS_meets_137 : decode prog_2_method_9_code 137 = .ok (.goto (-101), 3) := by decide +kernel
theorem d_CS_meets_140 : decode prog_2_method_9_code 140 = .ok (.iconst 1, 1) := by decide +kernel
theorem d_CS_meets_141 : decode prog_2_method_9_code 141 = .ok (.ireturn, 1) := by decide +kernel
theorem d_CS_replaced_0 : decode prog_2_method_10_code 0 = .ok (.lconst 0, 1) := by decide +kernel
theorem d_CS_replaced_1 : decode prog_2_method_10_code 1 = .ok (.lstore 5, 2) := by decide +kernel
theorem d_CS_replaced_3 : decode prog_2_method_10_code 3 = .ok (.iconst 1, 1) := by decide +kernel
theorem d_CS_replaced_4 : decode prog_2_method_10_code 4 = .ok (.iload_n 3, 1) := by decide +kernel
theorem d_CS_replaced_5 : decode prog_2_method_10_code 5 = .ok (.ishl, 1) := by decide +kernel
theorem d_CS_replaced_6 : decode prog_2_method_10_code 6 = .ok (.iconst 1, 1) := by decide +kernel
theorem d_CS_replaced_7 : decode prog_2_method_10_code 7 = .ok (.isub, 1) := by decide +kernel
theorem d_CS_replaced_8 : decode prog_2_method_10_code 8 = .ok (.istore 7, 2) := by decide +kernel
theorem d_CS_replaced_10 : decode prog_2_method_10_code 10 = .ok (.iconst 0, 1) := by decide +kernel
theorem d_CS_replaced_11 : decode prog_2_method_10_code 11 = .ok (.istore 8, 2) := by decide +kernel
theorem d_CS_replaced_13 : decode prog_2_method_10_code 13 = .ok (.iload 8, 2) := by decide +kernel
theorem d_CS_replaced_15 : decode prog_2_method_10_code 15 = .ok (.iconst 5, 1) := by decide +kernel
theorem d_CS_replaced_16 : decode prog_2_method_10_code 16 = .ok (.if_icmp .ge 102, 3) := by decide +kernel
theorem d_CS_replaced_19 : decode prog_2_method_10_code 19 = .ok (.iload 8, 2) := by decide +kernel
theorem d_CS_replaced_21 : decode prog_2_method_10_code 21 = .ok (.iconst 4, 1) := by decide +kernel
theorem d_CS_replaced_22 : decode prog_2_method_10_code 22 = .ok (.if_icmp .eq 16, 3) := by decide +kernel
theorem d_CS_replaced_25 : decode prog_2_method_10_code 25 = .ok (.iload 4, 2) := by decide +kernel
theorem d_CS_replaced_27 : decode prog_2_method_10_code 27 = .ok (.iload 8, 2) := by decide +kernel
theorem d_CS_replaced_29 : decode prog_2_method_10_code 29 = .ok (.invokestatic 124, 3) := by decide +kernel
theorem d_CS_replaced_32 : decode prog_2_method_10_code 32 = .ok (.ifCond .ne 6, 3) := by decide +kernel
theorem d_CS_replaced_35 : decode prog_2_method_10_code 35 = .ok (.goto 77, 3) := by decide +kernel
theorem d_CS_replaced_38 : decode prog_2_method_10_code 38 = .ok (.iload 8, 2) := by decide +kernel
theorem d_CS_replaced_40 : decode prog_2_method_10_code 40 = .ok (.iconst 4, 1) := by decide +kernel
theorem d_CS_replaced_41 : decode prog_2_method_10_code 41 = .ok (.if_icmp .ne 7, 3) := by decide +kernel
theorem d_CS_replaced_44 : decode prog_2_method_10_code 44 = .ok (.lconst 1, 1) := by decide +kernel
theorem d_CS_replaced_45 : decode prog_2_method_10_code 45 = .ok (.goto 14, 3) := by decide +kernel
theorem d_CS_replaced_48 : decode prog_2_method_10_code 48 = .ok (.aload_n 0, 1) := by decide +kernel
theorem d_CS_replaced_49 : decode prog_2_method_10_code 49 = .ok (.getfield 9, 3) := by decide +kernel
theorem d_CS_replaced_52 : decode prog_2_method_10_code 52 = .ok (.getfield 136, 3) := by decide +kernel
theorem d_CS_replaced_55 : decode prog_2_method_10_code 55 = .ok (.iload 8, 2) := by decide +kernel
theorem d_CS_replaced_57 : decode prog_2_method_10_code 57 = .ok (.iaload, 1) := by decide +kernel
theorem d_CS_replaced_58 : decode prog_2_method_10_code 58 = .ok (.i2l, 1) := by decide +kernel
theorem d_CS_replaced_59 : decode prog_2_method_10_code 59 = .ok (.lstore 9, 2) := by decide +kernel
theorem d_CS_replaced_61 : decode prog_2_method_10_code 61 = .ok (.iload_n 2, 1) := by decide +kernel
theorem d_CS_replaced_62 : decode prog_2_method_10_code 62 = .ok (.iload 7, 2) := by decide +kernel
theorem d_CS_replaced_64 : decode prog_2_method_10_code 64 = .ok (.iconst 1, 1) := by decide +kernel
theorem d_CS_replaced_65 : decode prog_2_method_10_code 65 = .ok (.iload 8, 2) := by decide +kernel
theorem d_CS_replaced_67 : decode prog_2_method_10_code 67 = .ok (.ishl, 1) := by decide +kernel
theorem d_CS_replaced_68 : decode prog_2_method_10_code 68 = .ok (.iconst 1, 1) := by decide +kernel
theorem d_CS_replaced_69 : decode prog_2_method_10_code 69 = .ok (.isub, 1) := by decide +kernel
theorem d_CS_replaced_70 : decode prog_2_method_10_code 70 = .ok (.ixor, 1) := by decide +kernel
theorem d_CS_replaced_71 : decode prog_2_method_10_code 71 = .ok (.iand, 1) := by decide +kernel
theorem d_CS_replaced_72 : decode prog_2_method_10_code 72 = .ok (.istore 11, 2) := by decide +kernel
theorem d_CS_replaced_74 : decode prog_2_method_10_code 74 = .ok (.lload 9, 2) := by decide +kernel
theorem d_CS_replaced_76 : decode prog_2_method_10_code 76 = .ok (.aload_n 1, 1) := by decide +kernel
theorem d_CS_replaced_77 : decode prog_2_method_10_code 77 = .ok (.iload_n 2, 1) := by decide +kernel
theorem d_CS_replaced_78 : decode prog_2_method_10_code 78 = .ok (.iconst 1, 1) := by decide +kernel
theorem d_CS_replaced_79 : decode prog_2_method_10_code 79 = .ok (.iload 8, 2) := by decide +kernel
theorem d_CS_replaced_81 : decode prog_2_method_10_code 81 = .ok (.ishl, 1) := by decide +kernel
theorem d_CS_replaced_82 : decode prog_2_method_10_code 82 = .ok (.ior, 1) := by decide +kernel
theorem d_CS_replaced_83 : decode prog_2_method_10_code 83 = .ok (.laload, 1) := by decide +kernel
theorem d_CS_replaced_84 : decode prog_2_method_10_code 84 = .ok (.lmul, 1) := by decide +kernel
theorem d_CS_replaced_85 : decode prog_2_method_10_code 85 = .ok (.lstore 12, 2) := by decide +kernel
theorem d_CS_replaced_87 : decode prog_2_method_10_code 87 = .ok (.lload 5, 2) := by decide +kernel
theorem d_CS_replaced_89 : decode prog_2_method_10_code 89 = .ok (.iload 11, 2) := by decide +kernel
theorem d_CS_replaced_91 : decode prog_2_method_10_code 91 = .ok (.invokestatic 147, 3) := by decide +kernel
theorem d_CS_replaced_94 : decode prog_2_method_10_code 94 = .ok (.iconst 0, 1) := by decide +kernel
theorem d_CS_replaced_95 : decode prog_2_method_10_code 95 = .ok (.invokestatic 124, 3) := by decide +kernel
theorem d_CS_replaced_98 : decode prog_2_method_10_code 98 = .ok (.ifCond .eq 9, 3) := by decide +kernel
theorem d_CS_replaced_101 : decode prog_2_method_10_code 101 = .ok (.lload 12, 2) := by decide +kernel
theorem d_CS_replaced_103 : decode prog_2_method_10_code 103 = .ok (.lneg, 1) := by decide +kernel
theorem d_CS_replaced_104 : decode prog_2_method_10_code 104 = .ok (.goto 5, 3) := by decide +kernel
theorem d_CS_replaced_107 : decode prog_2_method_10_code 107 = .ok (.lload 12, 2) := by decide +kernel
theorem d_CS_replaced_109 : decode prog_2_method_10_code 109 = .ok (.ladd, 1) := by decide +kernel
theorem d_CS_replaced_110 : decode prog_2_method_10_code 110 = .ok (.lstore 5, 2) := by decide +kernel
theorem d_CS_replaced_112 : decode prog_2_method_10_code 112 = .ok (.iinc 8 1, 3) := by decide +kernel
theorem d_CS_replaced_115 : decode prog_2_method_10_code 115 = .ok (.goto (-102), 3) := by decide +kernel
theorem d_CS_replaced_118 : decode prog_2_method_10_code 118 = .ok (.lload 5, 2) := by decide +kernel
theorem d_CS_replaced_120 : decode prog_2_method_10_code 120 = .ok (.lreturn, 1) := by decide +kernel
theorem d_CS_weigh_0 : decode prog_2_method_11_code 0 = .ok (.aload_n 0, 1) := by decide +kernel
theorem d_CS_weigh_1 : decode prog_2_method_11_code 1 = .ok (.getfield 9, 3) := by decide +kernel
theorem d_CS_weigh_4 : decode prog_2_method_11_code 4 = .ok (.aload_n 0, 1) := by decide +kernel
theorem d_CS_weigh_5 : decode prog_2_method_11_code 5 = .ok (.getfield 28, 3) := by decide +kernel
theorem d_CS_weigh_8 : decode prog_2_method_11_code 8 = .ok (.invokevirtual 153, 3) := by decide +kernel
theorem d_CS_weigh_11 : decode prog_2_method_11_code 11 = .ok (.lstore_n 1, 1) := by decide +kernel
theorem d_CS_weigh_12 : decode prog_2_method_11_code 12 = .ok (.aload_n 0, 1) := by decide +kernel
theorem d_CS_weigh_13 : decode prog_2_method_11_code 13 = .ok (.getfield 54, 3) := by decide +kernel
theorem d_CS_weigh_16 : decode prog_2_method_11_code 16 = .ok (.ifCond .eq 25, 3) := by decide +kernel
theorem d_CS_weigh_19 : decode prog_2_method_11_code 19 = .ok (.lload_n 1, 1) := by decide +kernel
theorem d_CS_weigh_20 : decode prog_2_method_11_code 20 = .ok (.aload_n 0, 1) := by decide +kernel
theorem d_CS_weigh_21 : decode prog_2_method_11_code 21 = .ok (.getfield 28, 3) := by decide +kernel
theorem d_CS_weigh_24 : decode prog_2_method_11_code 24 = .ok (.iconst 4, 1) := by decide +kernel
theorem d_CS_weigh_25 : decode prog_2_method_11_code 25 = .ok (.laload, 1) := by decide +kernel
theorem d_CS_weigh_26 : decode prog_2_method_11_code 26 = .ok (.aload_n 0, 1) := by decide +kernel
theorem d_CS_weigh_27 : decode prog_2_method_11_code 27 = .ok (.getfield 58, 3) := by decide +kernel
theorem d_CS_weigh_30 : decode prog_2_method_11_code 30 = .ok (.aload_n 0, 1) := by decide +kernel
theorem d_CS_weigh_31 : decode prog_2_method_11_code 31 = .ok (.getfield 62, 3) := by decide +kernel
theorem d_CS_weigh_34 : decode prog_2_method_11_code 34 = .ok (.invokestatic 157, 3) := by decide +kernel
theorem d_CS_weigh_37 : decode prog_2_method_11_code 37 = .ok (.ifCond .ne 4, 3) := by decide +kernel
theorem d_CS_weigh_40 : decode prog_2_method_11_code 40 = .ok (.return_, 1) := by decide +kernel
theorem d_CS_weigh_41 : decode prog_2_method_11_code 41 = .ok (.aload_n 0, 1) := by decide +kernel
theorem d_CS_weigh_42 : decode prog_2_method_11_code 42 = .ok (.getfield 9, 3) := by decide +kernel
theorem d_CS_weigh_45 : decode prog_2_method_11_code 45 = .ok (.aload_n 0, 1) := by decide +kernel
theorem d_CS_weigh_46 : decode prog_2_method_11_code 46 = .ok (.getfield 28, 3) := by decide +kernel
theorem d_CS_weigh_49 : decode prog_2_method_11_code 49 = .ok (.aload_n 0, 1) := by decide +kernel
theorem d_CS_weigh_50 : decode prog_2_method_11_code 50 = .ok (.getfield 32, 3) := by decide +kernel
theorem d_CS_weigh_53 : decode prog_2_method_11_code 53 = .ok (.invokevirtual 161, 3) := by decide +kernel
theorem d_CS_weigh_56 : decode prog_2_method_11_code 56 = .ok (.iconst 0, 1) := by decide +kernel
theorem d_CS_weigh_57 : decode prog_2_method_11_code 57 = .ok (.istore_n 3, 1) := by decide +kernel
theorem d_CS_weigh_58 : decode prog_2_method_11_code 58 = .ok (.iconst 0, 1) := by decide +kernel
theorem d_CS_weigh_59 : decode prog_2_method_11_code 59 = .ok (.istore 4, 2) := by decide +kernel
theorem d_CS_weigh_61 : decode prog_2_method_11_code 61 = .ok (.iload 4, 2) := by decide +kernel
theorem d_CS_weigh_63 : decode prog_2_method_11_code 63 = .ok (.aload_n 0, 1) := by decide +kernel
theorem d_CS_weigh_64 : decode prog_2_method_11_code 64 = .ok (.getfield 19, 3) := by decide +kernel
theorem d_CS_weigh_67 : decode prog_2_method_11_code 67 = .ok (.getfield 78, 3) := by decide +kernel
theorem d_CS_weigh_70 : decode prog_2_method_11_code 70 = .ok (.if_icmp .ge 48, 3) := by decide +kernel
theorem d_CS_weigh_73 : decode prog_2_method_11_code 73 = .ok (.aload_n 0, 1) := by decide +kernel
theorem d_CS_weigh_74 : decode prog_2_method_11_code 74 = .ok (.getfield 15, 3) := by decide +kernel
theorem d_CS_weigh_77 : decode prog_2_method_11_code 77 = .ok (.aload_n 0, 1) := by decide +kernel
theorem d_CS_weigh_78 : decode prog_2_method_11_code 78 = .ok (.getfield 19, 3) := by decide +kernel
theorem d_CS_weigh_81 : decode prog_2_method_11_code 81 = .ok (.getfield 83, 3) := by decide +kernel
theorem d_CS_weigh_84 : decode prog_2_method_11_code 84 = .ok (.iload 4, 2) := by decide +kernel
theorem d_CS_weigh_86 : decode prog_2_method_11_code 86 = .ok (.iaload, 1) := by decide +kernel
theorem d_CS_weigh_87 : decode prog_2_method_11_code 87 = .ok (.aload_n 0, 1) := by decide +kernel
theorem d_CS_weigh_88 : decode prog_2_method_11_code 88 = .ok (.getfield 32, 3) := by decide +kernel
theorem d_CS_weigh_91 : decode prog_2_method_11_code 91 = .ok (.invokevirtual 165, 3) := by decide +kernel
theorem d_CS_weigh_94 : decode prog_2_method_11_code 94 = .ok (.ifCond .ne 18, 3) := by decide +kernel
theorem d_CS_weigh_97 : decode prog_2_method_11_code 97 = .ok (.iload_n 3, 1) := by decide +kernel
theorem d_CS_weigh_98 : decode prog_2_method_11_code 98 = .ok (.iconst 1, 1) := by decide +kernel
theorem d_CS_weigh_99 : decode prog_2_method_11_code 99 = .ok (.aload_n 0, 1) := by decide +kernel
theorem d_CS_weigh_100 : decode prog_2_method_11_code 100 = .ok (.getfield 19, 3) := by decide +kernel
theorem d_CS_weigh_103 : decode prog_2_method_11_code 103 = .ok (.getfield 83, 3) := by decide +kernel
theorem d_CS_weigh_106 : decode prog_2_method_11_code 106 = .ok (.iload 4, 2) := by decide +kernel
theorem d_CS_weigh_108 : decode prog_2_method_11_code 108 = .ok (.iaload, 1) := by decide +kernel
theorem d_CS_weigh_109 : decode prog_2_method_11_code 109 = .ok (.ishl, 1) := by decide +kernel
theorem d_CS_weigh_110 : decode prog_2_method_11_code 110 = .ok (.ior, 1) := by decide +kernel
theorem d_CS_weigh_111 : decode prog_2_method_11_code 111 = .ok (.istore_n 3, 1) := by decide +kernel
theorem d_CS_weigh_112 : decode prog_2_method_11_code 112 = .ok (.iinc 4 1, 3) := by decide +kernel
theorem d_CS_weigh_115 : decode prog_2_method_11_code 115 = .ok (.goto (-54), 3) := by decide +kernel
theorem d_CS_weigh_118 : decode prog_2_method_11_code 118 = .ok (.iload_n 3, 1) := by decide +kernel
theorem d_CS_weigh_119 : decode prog_2_method_11_code 119 = .ok (.ifCond .ne 26, 3) := by decide +kernel
theorem d_CS_weigh_122 : decode prog_2_method_11_code 122 = .ok (.aload_n 0, 1) := by decide +kernel
theorem d_CS_weigh_123 : decode prog_2_method_11_code 123 = .ok (.iconst 1, 1) := by decide +kernel
theorem d_CS_weigh_124 : decode prog_2_method_11_code 124 = .ok (.putfield 54, 3) := by decide +kernel
theorem d_CS_weigh_127 : decode prog_2_method_11_code 127 = .ok (.aload_n 0, 1) := by decide +kernel
theorem d_CS_weigh_128 : decode prog_2_method_11_code 128 = .ok (.lload_n 1, 1) := by decide +kernel
theorem d_CS_weigh_129 : decode prog_2_method_11_code 129 = .ok (.putfield 58, 3) := by decide +kernel
theorem d_CS_weigh_132 : decode prog_2_method_11_code 132 = .ok (.aload_n 0, 1) := by decide +kernel
theorem d_CS_weigh_133 : decode prog_2_method_11_code 133 = .ok (.aload_n 0, 1) := by decide +kernel
theorem d_CS_weigh_134 : decode prog_2_method_11_code 134 = .ok (.getfield 28, 3) := by decide +kernel
theorem d_CS_weigh_137 : decode prog_2_method_11_code 137 = .ok (.iconst 4, 1) := by decide +kernel
theorem d_CS_weigh_138 : decode prog_2_method_11_code 138 = .ok (.laload, 1) := by decide +kernel
theorem d_CS_weigh_139 : decode prog_2_method_11_code 139 = .ok (.putfield 62, 3) := by decide +kernel
theorem d_CS_weigh_142 : decode prog_2_method_11_code 142 = .ok (.goto 39, 3) := by decide +kernel
theorem d_CS_weigh_145 : decode prog_2_method_11_code 145 = .ok (.aload_n 0, 1) := by decide +kernel
theorem d_CS_weigh_146 : decode prog_2_method_11_code 146 = .ok (.getfield 35, 3) := by decide +kernel
theorem d_CS_weigh_149 : decode prog_2_method_11_code 149 = .ok (.iload_n 3, 1) := by decide +kernel
theorem d_CS_weigh_150 : decode prog_2_method_11_code 150 = .ok (.baload, 1) := by decide +kernel
theorem d_CS_weigh_151 : decode prog_2_method_11_code 151 = .ok (.ifCond .ne 30, 3) := by decide +kernel
theorem d_CS_weigh_154 : decode prog_2_method_11_code 154 = .ok (.aload_n 0, 1) := by decide +kernel
theorem d_CS_weigh_155 : decode prog_2_method_11_code 155 = .ok (.getfield 35, 3) := by decide +kernel
theorem d_CS_weigh_158 : decode prog_2_method_11_code 158 = .ok (.iload_n 3, 1) := by decide +kernel
theorem d_CS_weigh_159 : decode prog_2_method_11_code 159 = .ok (.iconst 1, 1) := by decide +kernel
theorem d_CS_weigh_160 : decode prog_2_method_11_code 160 = .ok (.bastore, 1) := by decide +kernel
theorem d_CS_weigh_161 : decode prog_2_method_11_code 161 = .ok (.aload_n 0, 1) := by decide +kernel
theorem d_CS_weigh_162 : decode prog_2_method_11_code 162 = .ok (.getfield 39, 3) := by decide +kernel
theorem d_CS_weigh_165 : decode prog_2_method_11_code 165 = .ok (.aload_n 0, 1) := by decide +kernel
theorem d_CS_weigh_166 : decode prog_2_method_11_code 166 = .ok (.getfield 50, 3) := by decide +kernel
theorem d_CS_weigh_169 : decode prog_2_method_11_code 169 = .ok (.iload_n 3, 1) := by decide +kernel
theorem d_CS_weigh_170 : decode prog_2_method_11_code 170 = .ok (.iastore, 1) := by decide +kernel
theorem d_CS_weigh_171 : decode prog_2_method_11_code 171 = .ok (.aload_n 0, 1) := by decide +kernel
theorem d_CS_weigh_172 : decode prog_2_method_11_code 172 = .ok (.dup, 1) := by decide +kernel
theorem d_CS_weigh_173 : decode prog_2_method_11_code 173 = .ok (.getfield 50, 3) := by decide +kernel
theorem d_CS_weigh_176 : decode prog_2_method_11_code 176 = .ok (.iconst 1, 1) := by decide +kernel
theorem d_CS_weigh_177 : decode prog_2_method_11_code 177 = .ok (.iadd, 1) := by decide +kernel
theorem d_CS_weigh_178 : decode prog_2_method_11_code 178 = .ok (.putfield 50, 3) := by decide +kernel
theorem d_CS_weigh_181 : decode prog_2_method_11_code 181 = .ok (.return_, 1) := by decide +kernel
theorem d_CS_isLess_0 : decode prog_2_method_12_code 0 = .ok (.iconst 0, 1) := by decide +kernel
theorem d_CS_isLess_1 : decode prog_2_method_12_code 1 = .ok (.istore 8, 2) := by decide +kernel
theorem d_CS_isLess_3 : decode prog_2_method_12_code 3 = .ok (.iload 8, 2) := by decide +kernel
theorem d_CS_isLess_5 : decode prog_2_method_12_code 5 = .ok (.sipush 200, 3) := by decide +kernel
theorem d_CS_isLess_8 : decode prog_2_method_12_code 8 = .ok (.if_icmp .ge 120, 3) := by decide +kernel
theorem d_CS_isLess_11 : decode prog_2_method_12_code 11 = .ok (.lload_n 2, 1) := by decide +kernel
theorem d_CS_isLess_12 : decode prog_2_method_12_code 12 = .ok (.lconst 0, 1) := by decide +kernel
theorem d_CS_isLess_13 : decode prog_2_method_12_code 13 = .ok (.lcmp, 1) := by decide +kernel
theorem d_CS_isLess_14 : decode prog_2_method_12_code 14 = .ok (.ifCond .le 10, 3) := by decide +kernel
theorem d_CS_isLess_17 : decode prog_2_method_12_code 17 = .ok (.lload 6, 2) := by decide +kernel
theorem d_CS_isLess_19 : decode prog_2_method_12_code 19 = .ok (.lconst 0, 1) := by decide +kernel
theorem d_CS_isLess_20 : decode prog_2_method_12_code 20 = .ok (.lcmp, 1) := by decide +kernel
theorem d_CS_isLess_21 : decode prog_2_method_12_code 21 = .ok (.ifCond .gt 5, 3) := by decide +kernel
theorem d_CS_isLess_24 : decode prog_2_method_12_code 24 = .ok (.iconst 0, 1) := by decide +kernel
theorem d_CS_isLess_25 : decode prog_2_method_12_code 25 = .ok (.ireturn, 1) := by decide +kernel
theorem d_CS_isLess_26 : decode prog_2_method_12_code 26 = .ok (.lload_n 0, 1) := by decide +kernel
theorem d_CS_isLess_27 : decode prog_2_method_12_code 27 = .ok (.lload_n 2, 1) := by decide +kernel
theorem d_CS_isLess_28 : decode prog_2_method_12_code 28 = .ok (.invokestatic 168, 3) := by decide +kernel
theorem d_CS_isLess_31 : decode prog_2_method_12_code 31 = .ok (.lstore 9, 2) := by decide +kernel
theorem d_CS_isLess_33 : decode prog_2_method_12_code 33 = .ok (.lload 4, 2) := by decide +kernel
theorem d_CS_isLess_35 : decode prog_2_method_12_code 35 = .ok (.lload 6, 2) := by decide +kernel
theorem d_CS_isLess_37 : decode prog_2_method_12_code 37 = .ok (.invokestatic 168, 3) := by decide +kernel
theorem d_CS_isLess_40 : decode prog_2_method_12_code 40 = .ok (.lstore 11, 2) := by decide +kernel
theorem d_CS_isLess_42 : decode prog_2_method_12_code 42 = .ok (.lload 9, 2) := by decide +kernel
theorem d_CS_isLess_44 : decode prog_2_method_12_code 44 = .ok (.lload 11, 2) := by decide +kernel
theorem d_CS_isLess_46 : decode prog_2_method_12_code 46 = .ok (.lcmp, 1) := by decide +kernel
theorem d_CS_isLess_47 : decode prog_2_method_12_code 47 = .ok (.ifCond .eq 17, 3) := by decide +kernel
theorem d_CS_isLess_50 : decode prog_2_method_12_code 50 = .ok (.lload 9, 2) := by decide +kernel
theorem d_CS_isLess_52 : decode prog_2_method_12_code 52 = .ok (.lload 11, 2) := by decide +kernel
theorem d_CS_isLess_54 : decode prog_2_method_12_code 54 = .ok (.lcmp, 1) := by decide +kernel
theorem d_CS_isLess_55 : decode prog_2_method_12_code 55 = .ok (.ifCond .ge 7, 3) := by decide +kernel
theorem d_CS_isLess_58 : decode prog_2_method_12_code 58 = .ok (.iconst 1, 1) := by decide +kernel
theorem d_CS_isLess_59 : decode prog_2_method_12_code 59 = .ok (.goto 4, 3) := by decide +kernel
theorem d_CS_isLess_62 : decode prog_2_method_12_code 62 = .ok (.iconst 0, 1) := by decide +kernel
theorem d_CS_isLess_63 : decode prog_2_method_12_code 63 = .ok (.ireturn, 1) := by decide +kernel
theorem d_CS_isLess_64 : decode prog_2_method_12_code 64 = .ok (.lload_n 0, 1) := by decide +kernel
theorem d_CS_isLess_65 : decode prog_2_method_12_code 65 = .ok (.lload 9, 2) := by decide +kernel
theorem d_CS_isLess_67 : decode prog_2_method_12_code 67 = .ok (.lload_n 2, 1) := by decide +kernel
theorem d_CS_isLess_68 : decode prog_2_method_12_code 68 = .ok (.lmul, 1) := by decide +kernel
theorem d_CS_isLess_69 : decode prog_2_method_12_code 69 = .ok (.lsub, 1) := by decide +kernel
theorem d_CS_isLess_70 : decode prog_2_method_12_code 70 = .ok (.lstore 13, 2) := by decide +kernel
theorem d_CS_isLess_72 : decode prog_2_method_12_code 72 = .ok (.lload 4, 2) := by decide +kernel
theorem d_CS_isLess_74 : decode prog_2_method_12_code 74 = .ok (.lload 11, 2) := by decide +kernel
theorem d_CS_isLess_76 : decode prog_2_method_12_code 76 = .ok (.lload 6, 2) := by decide +kernel
theorem d_CS_isLess_78 : decode prog_2_method_12_code 78 = .ok (.lmul, 1) := by decide +kernel
theorem d_CS_isLess_79 : decode prog_2_method_12_code 79 = .ok (.lsub, 1) := by decide +kernel
theorem d_CS_isLess_80 : decode prog_2_method_12_code 80 = .ok (.lstore 15, 2) := by decide +kernel
theorem d_CS_isLess_82 : decode prog_2_method_12_code 82 = .ok (.lload 13, 2) := by decide +kernel
theorem d_CS_isLess_84 : decode prog_2_method_12_code 84 = .ok (.lconst 0, 1) := by decide +kernel
theorem d_CS_isLess_85 : decode prog_2_method_12_code 85 = .ok (.lcmp, 1) := by decide +kernel
theorem d_CS_isLess_86 : decode prog_2_method_12_code 86 = .ok (.ifCond .eq 10, 3) := by decide +kernel
theorem d_CS_isLess_89 : decode prog_2_method_12_code 89 = .ok (.lload 15, 2) := by decide +kernel
theorem d_CS_isLess_91 : decode prog_2_method_12_code 91 = .ok (.lconst 0, 1) := by decide +kernel
theorem d_CS_isLess_92 : decode prog_2_method_12_code 92 = .ok (.lcmp, 1) := by decide +kernel
theorem d_CS_isLess_93 : decode prog_2_method_12_code 93 = .ok (.ifCond .ne 16, 3) := by decide +kernel
theorem d_CS_isLess_96 : decode prog_2_method_12_code 96 = .ok (.lload 15, 2) := by decide +kernel
theorem d_CS_isLess_98 : decode prog_2_method_12_code 98 = .ok (.lconst 0, 1) := by decide +kernel
theorem d_CS_isLess_99 : decode prog_2_method_12_code 99 = .ok (.lcmp, 1) := by decide +kernel
theorem d_CS_isLess_100 : decode prog_2_method_12_code 100 = .ok (.ifCond .eq 7, 3) := by decide +kernel
theorem d_CS_isLess_103 : decode prog_2_method_12_code 103 = .ok (.iconst 1, 1) := by decide +kernel
theorem d_CS_isLess_104 : decode prog_2_method_12_code 104 = .ok (.goto 4, 3) := by decide +kernel
theorem d_CS_isLess_107 : decode prog_2_method_12_code 107 = .ok (.iconst 0, 1) := by decide +kernel
theorem d_CS_isLess_108 : decode prog_2_method_12_code 108 = .ok (.ireturn, 1) := by decide +kernel
theorem d_CS_isLess_109 : decode prog_2_method_12_code 109 = .ok (.lload 6, 2) := by decide +kernel
theorem d_CS_isLess_111 : decode prog_2_method_12_code 111 = .ok (.lstore_n 0, 1) := by decide +kernel
theorem d_CS_isLess_112 : decode prog_2_method_12_code 112 = .ok (.lload_n 2, 1) := by decide +kernel
theorem d_CS_isLess_113 : decode prog_2_method_12_code 113 = .ok (.lstore 4, 2) := by decide +kernel
theorem d_CS_isLess_115 : decode prog_2_method_12_code 115 = .ok (.lload 15, 2) := by decide +kernel
theorem d_CS_isLess_117 : decode prog_2_method_12_code 117 = .ok (.lstore_n 2, 1) := by decide +kernel
theorem d_CS_isLess_118 : decode prog_2_method_12_code 118 = .ok (.lload 13, 2) := by decide +kernel
theorem d_CS_isLess_120 : decode prog_2_method_12_code 120 = .ok (.lstore 6, 2) := by decide +kernel
theorem d_CS_isLess_122 : decode prog_2_method_12_code 122 = .ok (.iinc 8 1, 3) := by decide +kernel
theorem d_CS_isLess_125 : decode prog_2_method_12_code 125 = .ok (.goto (-122), 3) := by decide +kernel
theorem d_CS_isLess_128 : decode prog_2_method_12_code 128 = .ok (.iconst 0, 1) := by decide +kernel
theorem d_CS_isLess_129 : decode prog_2_method_12_code 129 = .ok (.ireturn, 1) := by decide +kernel
theorem d_CS_commonDivisor_0 : decode prog_2_method_13_code 0 = .ok (.aload_n 0, 1) := by decide +kernel
theorem d_CS_commonDivisor_1 : decode prog_2_method_13_code 1 = .ok (.getfield 58, 3) := by decide +kernel
theorem d_CS_commonDivisor_4 : decode prog_2_method_13_code 4 = .ok (.invokestatic 174, 3) := by decide +kernel
theorem d_CS_commonDivisor_7 : decode prog_2_method_13_code 7 = .ok (.lstore_n 1, 1) := by decide +kernel
theorem d_CS_commonDivisor_8 : decode prog_2_method_13_code 8 = .ok (.aload_n 0, 1) := by decide +kernel
theorem d_CS_commonDivisor_9 : decode prog_2_method_13_code 9 = .ok (.getfield 62, 3) := by decide +kernel
theorem d_CS_commonDivisor_12 : decode prog_2_method_13_code 12 = .ok (.lstore_n 3, 1) := by decide +kernel
theorem d_CS_commonDivisor_13 : decode prog_2_method_13_code 13 = .ok (.iconst 0, 1) := by decide +kernel
theorem d_CS_commonDivisor_14 : decode prog_2_method_13_code 14 = .ok (.istore 5, 2) := by decide +kernel
theorem d_CS_commonDivisor_16 : decode prog_2_method_13_code 16 = .ok (.iload 5, 2) := by decide +kernel
theorem d_CS_commonDivisor_18 : decode prog_2_method_13_code 18 = .ok (.sipush 200, 3) := by decide +kernel
theorem d_CS_commonDivisor_21 : decode prog_2_method_13_code 21 = .ok (.if_icmp .ge 25, 3) := by decide +kernel
theorem d_CS_commonDivisor_24 : decode prog_2_method_13_code 24 = .ok (.lload_n 1, 1) := by decide +kernel
theorem d_CS_commonDivisor_25 : decode prog_2_method_13_code 25 = .ok (.lconst 0, 1) := by decide +kernel
theorem d_CS_commonDivisor_26 : decode prog_2_method_13_code 26 = .ok (.lcmp, 1) := by decide +kernel
theorem d_CS_commonDivisor_27 : decode prog_2_method_13_code 27 = .ok (.ifCond .eq 19, 3) := by decide +kernel
theorem d_CS_commonDivisor_30 : decode prog_2_method_13_code 30 = .ok (.lload_n 3, 1) := by decide +kernel
theorem d_CS_commonDivisor_31 : decode prog_2_method_13_code 31 = .ok (.lload_n 1, 1) := by decide +kernel
theorem d_CS_commonDivisor_32 : decode prog_2_method_13_code 32 = .ok (.lrem, 1) := by decide +kernel
theorem d_CS_commonDivisor_33 : decode prog_2_method_13_code 33 = .ok (.lstore 6, 2) := by decide +kernel
theorem d_CS_commonDivisor_35 : decode prog_2_method_13_code 35 = .ok (.lload_n 1, 1) := by decide +kernel
theorem d_CS_commonDivisor_36 : decode prog_2_method_13_code 36 = .ok (.lstore_n 3, 1) := by decide +kernel
theorem d_CS_commonDivisor_37 : decode prog_2_method_13_code 37 = .ok (.lload 6, 2) := by decide +kernel
theorem d_CS_commonDivisor_39 : decode prog_2_method_13_code 39 = .ok (.lstore_n 1, 1) := by decide +kernel
theorem d_CS_commonDivisor_40 : decode prog_2_method_13_code 40 = .ok (.iinc 5 1, 3) := by decide +kernel
theorem d_CS_commonDivisor_43 : decode prog_2_method_13_code 43 = .ok (.goto (-27), 3) := by decide +kernel
theorem d_CS_commonDivisor_46 : decode prog_2_method_13_code 46 = .ok (.lload_n 3, 1) := by decide +kernel
theorem d_CS_commonDivisor_47 : decode prog_2_method_13_code 47 = .ok (.lconst 0, 1) := by decide +kernel
theorem d_CS_commonDivisor_48 : decode prog_2_method_13_code 48 = .ok (.lcmp, 1) := by decide +kernel
theorem d_CS_commonDivisor_49 : decode prog_2_method_13_code 49 = .ok (.ifCond .le 7, 3) := by decide +kernel
theorem d_CS_commonDivisor_52 : decode prog_2_method_13_code 52 = .ok (.lload_n 3, 1) := by decide +kernel
theorem d_CS_commonDivisor_53 : decode prog_2_method_13_code 53 = .ok (.goto 4, 3) := by decide +kernel
theorem d_CS_commonDivisor_56 : decode prog_2_method_13_code 56 = .ok (.lconst 1, 1) := by decide +kernel
theorem d_CS_commonDivisor_57 : decode prog_2_method_13_code 57 = .ok (.lreturn, 1) := by decide +kernel
theorem d_CS_fewestClashing_0 : decode prog_2_method_14_code 0 = .ok (.iconst 0, 1) := by decide +kernel
theorem d_CS_fewestClashing_1 : decode prog_2_method_14_code 1 = .ok (.istore_n 1, 1) := by decide +kernel
theorem d_CS_fewestClashing_2 : decode prog_2_method_14_code 2 = .ok (.bipush 9, 2) := by decide +kernel
theorem d_CS_fewestClashing_4 : decode prog_2_method_14_code 4 = .ok (.istore_n 2, 1) := by decide +kernel
theorem d_CS_fewestClashing_5 : decode prog_2_method_14_code 5 = .ok (.iconst 1, 1) := by decide +kernel
theorem d_CS_fewestClashing_6 : decode prog_2_method_14_code 6 = .ok (.istore_n 3, 1) := by decide +kernel
theorem d_CS_fewestClashing_7 : decode prog_2_method_14_code 7 = .ok (.iload_n 3, 1) := by decide +kernel
theorem d_CS_fewestClashing_8 : decode prog_2_method_14_code 8 = .ok (.sipush 256, 3) := by decide +kernel
theorem d_CS_fewestClashing_11 : decode prog_2_method_14_code 11 = .ok (.if_icmp .ge 46, 3) := by decide +kernel
theorem d_CS_fewestClashing_14 : decode prog_2_method_14_code 14 = .ok (.iload_n 3, 1) := by decide +kernel
theorem d_CS_fewestClashing_15 : decode prog_2_method_14_code 15 = .ok (.aload_n 0, 1) := by decide +kernel
theorem d_CS_fewestClashing_16 : decode prog_2_method_14_code 16 = .ok (.getfield 15, 3) := by decide +kernel
theorem d_CS_fewestClashing_19 : decode prog_2_method_14_code 19 = .ok (.getfield 178, 3) := by decide +kernel
theorem d_CS_fewestClashing_22 : decode prog_2_method_14_code 22 = .ok (.iconst (-1), 1) := by decide +kernel
theorem d_CS_fewestClashing_23 : decode prog_2_method_14_code 23 = .ok (.ixor, 1) := by decide +kernel
theorem d_CS_fewestClashing_24 : decode prog_2_method_14_code 24 = .ok (.iand, 1) := by decide +kernel
theorem d_CS_fewestClashing_25 : decode prog_2_method_14_code 25 = .ok (.ifCond .ne 26, 3) := by decide +kernel
theorem d_CS_fewestClashing_28 : decode prog_2_method_14_code 28 = .ok (.iload_n 3, 1) := by decide +kernel
theorem d_CS_fewestClashing_29 : decode prog_2_method_14_code 29 = .ok (.invokestatic 147, 3) := by decide +kernel
theorem d_CS_fewestClashing_32 : decode prog_2_method_14_code 32 = .ok (.iload_n 2, 1) := by decide +kernel
theorem d_CS_fewestClashing_33 : decode prog_2_method_14_code 33 = .ok (.if_icmp .ge 18, 3) := by decide +kernel
theorem d_CS_fewestClashing_36 : decode prog_2_method_14_code 36 = .ok (.aload_n 0, 1) := by decide +kernel
theorem d_CS_fewestClashing_37 : decode prog_2_method_14_code 37 = .ok (.iload_n 3, 1) := by decide +kernel
theorem d_CS_fewestClashing_38 : decode prog_2_method_14_code 38 = .ok (.invokevirtual 181, 3) := by decide +kernel
theorem d_CS_fewestClashing_41 : decode prog_2_method_14_code 41 = .ok (.ifCond .eq 10, 3) := by decide +kernel
theorem d_CS_fewestClashing_44 : decode prog_2_method_14_code 44 = .ok (.iload_n 3, 1) := by decide +kernel
theorem d_CS_fewestClashing_45 : decode prog_2_method_14_code 45 = .ok (.istore_n 1, 1) := by decide +kernel
theorem d_CS_fewestClashing_46 : decode prog_2_method_14_code 46 = .ok (.iload_n 3, 1) := by decide +kernel
theorem d_CS_fewestClashing_47 : decode prog_2_method_14_code 47 = .ok (.invokestatic 147, 3) := by decide +kernel
theorem d_CS_fewestClashing_50 : decode prog_2_method_14_code 50 = .ok (.istore_n 2, 1) := by decide +kernel
theorem d_CS_fewestClashing_51 : decode prog_2_method_14_code 51 = .ok (.iinc 3 1, 3) := by decide +kernel
theorem d_CS_fewestClashing_54 : decode prog_2_method_14_code 54 = .ok (.goto (-47), 3) := by decide +kernel
theorem d_CS_fewestClashing_57 : decode prog_2_method_14_code 57 = .ok (.iload_n 1, 1) := by decide +kernel
theorem d_CS_fewestClashing_58 : decode prog_2_method_14_code 58 = .ok (.ireturn, 1) := by decide +kernel
theorem d_CS_allBreak_0 : decode prog_2_method_15_code 0 = .ok (.iconst 0, 1) := by decide +kernel
theorem d_CS_allBreak_1 : decode prog_2_method_15_code 1 = .ok (.istore_n 2, 1) := by decide +kernel
theorem d_CS_allBreak_2 : decode prog_2_method_15_code 2 = .ok (.iload_n 2, 1) := by decide +kernel
theorem d_CS_allBreak_3 : decode prog_2_method_15_code 3 = .ok (.aload_n 0, 1) := by decide +kernel
theorem d_CS_allBreak_4 : decode prog_2_method_15_code 4 = .ok (.getfield 50, 3) := by decide +kernel
theorem d_CS_allBreak_7 : decode prog_2_method_15_code 7 = .ok (.if_icmp .ge 22, 3) := by decide +kernel
theorem d_CS_allBreak_10 : decode prog_2_method_15_code 10 = .ok (.aload_n 0, 1) := by decide +kernel
theorem d_CS_allBreak_11 : decode prog_2_method_15_code 11 = .ok (.getfield 39, 3) := by decide +kernel
theorem d_CS_allBreak_14 : decode prog_2_method_15_code 14 = .ok (.iload_n 2, 1) := by decide +kernel
theorem d_CS_allBreak_15 : decode prog_2_method_15_code 15 = .ok (.iaload, 1) := by decide +kernel
theorem d_CS_allBreak_16 : decode prog_2_method_15_code 16 = .ok (.iload_n 1, 1) := by decide +kernel
theorem d_CS_allBreak_17 : decode prog_2_method_15_code 17 = .ok (.iand, 1) := by decide +kernel
theorem d_CS_allBreak_18 : decode prog_2_method_15_code 18 = .ok (.ifCond .ne 5, 3) := by decide +kernel
theorem d_CS_allBreak_21 : decode prog_2_method_15_code 21 = .ok (.iconst 0, 1) := by decide +kernel
theorem d_CS_allBreak_22 : decode prog_2_method_15_code 22 = .ok (.ireturn, 1) := by decide +kernel
theorem d_CS_allBreak_23 : decode prog_2_method_15_code 23 = .ok (.iinc 2 1, 3) := by decide +kernel
theorem d_CS_allBreak_26 : decode prog_2_method_15_code 26 = .ok (.goto (-24), 3) := by decide +kernel
theorem d_CS_allBreak_29 : decode prog_2_method_15_code 29 = .ok (.iconst 1, 1) := by decide +kernel
theorem d_CS_allBreak_30 : decode prog_2_method_15_code 30 = .ok (.ireturn, 1) := by decide +kernel
theorem d_WS_init_0 : decode prog_7_method_1_code 0 = .ok (.aload_n 0, 1) := by decide +kernel
theorem d_WS_init_1 : decode prog_7_method_1_code 1 = .ok (.invokespecial 3, 3) := by decide +kernel
theorem d_WS_init_4 : decode prog_7_method_1_code 4 = .ok (.aload_n 0, 1) := by decide +kernel
theorem d_WS_init_5 : decode prog_7_method_1_code 5 = .ok (.aload_n 1, 1) := by decide +kernel
theorem d_WS_init_6 : decode prog_7_method_1_code 6 = .ok (.putfield 9, 3) := by decide +kernel
theorem d_WS_init_9 : decode prog_7_method_1_code 9 = .ok (.aload_n 0, 1) := by decide +kernel
theorem d_WS_init_10 : decode prog_7_method_1_code 10 = .ok (.aload_n 2, 1) := by decide +kernel
theorem d_WS_init_11 : decode prog_7_method_1_code 11 = .ok (.putfield 15, 3) := by decide +kernel
theorem d_WS_init_14 : decode prog_7_method_1_code 14 = .ok (.aload_n 0, 1) := by decide +kernel
theorem d_WS_init_15 : decode prog_7_method_1_code 15 = .ok (.iconst 5, 1) := by decide +kernel
theorem d_WS_init_16 : decode prog_7_method_1_code 16 = .ok (.bipush 16, 2) := by decide +kernel
theorem d_WS_init_18 : decode prog_7_method_1_code 18 = .ok (.multianewarray 19 2, 4) := by decide +kernel
theorem d_WS_init_22 : decode prog_7_method_1_code 22 = .ok (.putfield 21, 3) := by decide +kernel
theorem d_WS_init_25 : decode prog_7_method_1_code 25 = .ok (.aload_n 0, 1) := by decide +kernel
theorem d_WS_init_26 : decode prog_7_method_1_code 26 = .ok (.iconst 5, 1) := by decide +kernel
theorem d_WS_init_27 : decode prog_7_method_1_code 27 = .ok (.bipush 16, 2) := by decide +kernel
theorem d_WS_init_29 : decode prog_7_method_1_code 29 = .ok (.multianewarray 19 2, 4) := by decide +kernel
theorem d_WS_init_33 : decode prog_7_method_1_code 33 = .ok (.putfield 24, 3) := by decide +kernel
theorem d_WS_init_36 : decode prog_7_method_1_code 36 = .ok (.aload_n 0, 1) := by decide +kernel
theorem d_WS_init_37 : decode prog_7_method_1_code 37 = .ok (.iconst 5, 1) := by decide +kernel
theorem d_WS_init_38 : decode prog_7_method_1_code 38 = .ok (.newarray .long, 2) := by decide +kernel
theorem d_WS_init_40 : decode prog_7_method_1_code 40 = .ok (.putfield 27, 3) := by decide +kernel
theorem d_WS_init_43 : decode prog_7_method_1_code 43 = .ok (.aload_n 0, 1) := by decide +kernel
theorem d_WS_init_44 : decode prog_7_method_1_code 44 = .ok (.iconst 4, 1) := by decide +kernel
theorem d_WS_init_45 : decode prog_7_method_1_code 45 = .ok (.newarray .int, 2) := by decide +kernel
theorem d_WS_init_47 : decode prog_7_method_1_code 47 = .ok (.putfield 31, 3) := by decide +kernel
theorem d_WS_init_50 : decode prog_7_method_1_code 50 = .ok (.aload_n 0, 1) := by decide +kernel
theorem d_WS_init_51 : decode prog_7_method_1_code 51 = .ok (.iconst 4, 1) := by decide +kernel
theorem d_WS_init_52 : decode prog_7_method_1_code 52 = .ok (.newarray .int, 2) := by decide +kernel
theorem d_WS_init_54 : decode prog_7_method_1_code 54 = .ok (.putfield 35, 3) := by decide +kernel
theorem d_WS_init_57 : decode prog_7_method_1_code 57 = .ok (.return_, 1) := by decide +kernel
theorem d_WS_search_0 : decode prog_7_method_2_code 0 = .ok (.aload_n 0, 1) := by decide +kernel
theorem d_WS_search_1 : decode prog_7_method_2_code 1 = .ok (.iconst 0, 1) := by decide +kernel
theorem d_WS_search_2 : decode prog_7_method_2_code 2 = .ok (.putfield 38, 3) := by decide +kernel
theorem d_WS_search_5 : decode prog_7_method_2_code 5 = .ok (.aload_n 0, 1) := by decide +kernel
theorem d_WS_search_6 : decode prog_7_method_2_code 6 = .ok (.lconst 0, 1) := by decide +kernel
theorem d_WS_search_7 : decode prog_7_method_2_code 7 = .ok (.putfield 42, 3) := by decide +kernel
theorem d_WS_search_10 : decode prog_7_method_2_code 10 = .ok (.iload_n 1, 1) := by decide +kernel
theorem d_WS_search_11 : decode prog_7_method_2_code 11 = .ok (.ifCond .eq 13, 3) := by decide +kernel
theorem d_WS_search_14 : decode prog_7_method_2_code 14 = .ok (.aload_n 0, 1) := by decide +kernel
theorem d_WS_search_15 : decode prog_7_method_2_code 15 = .ok (.invokevirtual 46, 3) := by decide +kernel
theorem d_WS_search_18 : decode prog_7_method_2_code 18 = .ok (.aload_n 0, 1) := by decide +kernel
theorem d_WS_search_19 : decode prog_7_method_2_code 19 = .ok (.iconst 0, 1) := by decide +kernel
theorem d_WS_search_20 : decode prog_7_method_2_code 20 = .ok (.lconst 0, 1) := by decide +kernel
theorem d_WS_search_21 : decode prog_7_method_2_code 21 = .ok (.invokevirtual 49, 3) := by decide +kernel
theorem d_WS_search_24 : decode prog_7_method_2_code 24 = .ok (.return_, 1) := by decide +kernel
theorem d_WS_begin_0 : decode prog_7_method_3_code 0 = .ok (.iconst 0, 1) := by decide +kernel
theorem d_WS_begin_1 : decode prog_7_method_3_code 1 = .ok (.istore_n 1, 1) := by decide +kernel
theorem d_WS_begin_2 : decode prog_7_method_3_code 2 = .ok (.iload_n 1, 1) := by decide +kernel
theorem d_WS_begin_3 : decode prog_7_method_3_code 3 = .ok (.iconst 2, 1) := by decide +kernel
theorem d_WS_begin_4 : decode prog_7_method_3_code 4 = .ok (.aload_n 0, 1) := by decide +kernel
theorem d_WS_begin_5 : decode prog_7_method_3_code 5 = .ok (.getfield 15, 3) := by decide +kernel
theorem d_WS_begin_8 : decode prog_7_method_3_code 8 = .ok (.getfield 53, 3) := by decide +kernel
theorem d_WS_begin_11 : decode prog_7_method_3_code 11 = .ok (.imul, 1) := by decide +kernel
theorem d_WS_begin_12 : decode prog_7_method_3_code 12 = .ok (.if_icmp .ge 28, 3) := by decide +kernel
theorem d_WS_begin_15 : decode prog_7_method_3_code 15 = .ok (.aload_n 0, 1) := by decide +kernel
theorem d_WS_begin_16 : decode prog_7_method_3_code 16 = .ok (.getfield 21, 3) := by decide +kernel
theorem d_WS_begin_19 : decode prog_7_method_3_code 19 = .ok (.iconst 0, 1) := by decide +kernel
theorem d_WS_begin_20 : decode prog_7_method_3_code 20 = .ok (.aaload, 1) := by decide +kernel
theorem d_WS_begin_21 : decode prog_7_method_3_code 21 = .ok (.iload_n 1, 1) := by decide +kernel
theorem d_WS_begin_22 : decode prog_7_method_3_code 22 = .ok (.aload_n 0, 1) := by decide +kernel
theorem d_WS_begin_23 : decode prog_7_method_3_code 23 = .ok (.getfield 15, 3) := by decide +kernel
theorem d_WS_begin_26 : decode prog_7_method_3_code 26 = .ok (.getfield 59, 3) := by decide +kernel
theorem d_WS_begin_29 : decode prog_7_method_3_code 29 = .ok (.iload_n 1, 1) := by decide +kernel
theorem d_WS_begin_30 : decode prog_7_method_3_code 30 = .ok (.aaload, 1) := by decide +kernel
theorem d_WS_begin_31 : decode prog_7_method_3_code 31 = .ok (.iconst 4, 1) := by decide +kernel
theorem d_WS_begin_32 : decode prog_7_method_3_code 32 = .ok (.laload, 1) := by decide +kernel
theorem d_WS_begin_33 : decode prog_7_method_3_code 33 = .ok (.lastore, 1) := by decide +kernel
theorem d_WS_begin_34 : decode prog_7_method_3_code 34 = .ok (.iinc 1 1, 3) := by decide +kernel
theorem d_WS_begin_37 : decode prog_7_method_3_code 37 = .ok (.goto (-35), 3) := by decide +kernel
theorem d_WS_begin_40 : decode prog_7_method_3_code 40 = .ok (.iconst 3, 1) := by decide +kernel
theorem d_WS_begin_41 : decode prog_7_method_3_code 41 = .ok (.istore_n 1, 1) := by decide +kernel
theorem d_WS_begin_42 : decode prog_7_method_3_code 42 = .ok (.iload_n 1, 1) := by decide +kernel
theorem d_WS_begin_43 : decode prog_7_method_3_code 43 = .ok (.ifCond .lt 114, 3) := by decide +kernel
theorem d_WS_begin_46 : decode prog_7_method_3_code 46 = .ok (.aload_n 0, 1) := by decide +kernel
theorem d_WS_begin_47 : decode prog_7_method_3_code 47 = .ok (.getfield 27, 3) := by decide +kernel
theorem d_WS_begin_50 : decode prog_7_method_3_code 50 = .ok (.iload_n 1, 1) := by decide +kernel
theorem d_WS_begin_51 : decode prog_7_method_3_code 51 = .ok (.aload_n 0, 1) := by decide +kernel
theorem d_WS_begin_52 : decode prog_7_method_3_code 52 = .ok (.getfield 27, 3) := by decide +kernel
theorem d_WS_begin_55 : decode prog_7_method_3_code 55 = .ok (.iload_n 1, 1) := by decide +kernel
theorem d_WS_begin_56 : decode prog_7_method_3_code 56 = .ok (.iconst 1, 1) := by decide +kernel
theorem d_WS_begin_57 : decode prog_7_method_3_code 57 = .ok (.iadd, 1) := by decide +kernel
theorem d_WS_begin_58 : decode prog_7_method_3_code 58 = .ok (.laload, 1) := by decide +kernel
theorem d_WS_begin_59 : decode prog_7_method_3_code 59 = .ok (.lconst 0, 1) := by decide +kernel
theorem d_WS_begin_60 : decode prog_7_method_3_code 60 = .ok (.aload_n 0, 1) := by decide +kernel
theorem d_WS_begin_61 : decode prog_7_method_3_code 61 = .ok (.getfield 9, 3) := by decide +kernel
theorem d_WS_begin_64 : decode prog_7_method_3_code 64 = .ok (.getfield 62, 3) := by decide +kernel
theorem d_WS_begin_67 : decode prog_7_method_3_code 67 = .ok (.iload_n 1, 1) := by decide +kernel
theorem d_WS_begin_68 : decode prog_7_method_3_code 68 = .ok (.laload, 1) := by decide +kernel
theorem d_WS_begin_69 : decode prog_7_method_3_code 69 = .ok (.aload_n 0, 1) := by decide +kernel
theorem d_WS_begin_70 : decode prog_7_method_3_code 70 = .ok (.getfield 9, 3) := by decide +kernel
theorem d_WS_begin_73 : decode prog_7_method_3_code 73 = .ok (.getfield 67, 3) := by decide +kernel
theorem d_WS_begin_76 : decode prog_7_method_3_code 76 = .ok (.iload_n 1, 1) := by decide +kernel
theorem d_WS_begin_77 : decode prog_7_method_3_code 77 = .ok (.iaload, 1) := by decide +kernel
theorem d_WS_begin_78 : decode prog_7_method_3_code 78 = .ok (.i2l, 1) := by decide +kernel
theorem d_WS_begin_79 : decode prog_7_method_3_code 79 = .ok (.lmul, 1) := by decide +kernel
theorem d_WS_begin_80 : decode prog_7_method_3_code 80 = .ok (.invokestatic 70, 3) := by decide +kernel
theorem d_WS_begin_83 : decode prog_7_method_3_code 83 = .ok (.ladd, 1) := by decide +kernel
theorem d_WS_begin_84 : decode prog_7_method_3_code 84 = .ok (.lastore, 1) := by decide +kernel
theorem d_WS_begin_85 : decode prog_7_method_3_code 85 = .ok (.iconst 0, 1) := by decide +kernel
theorem d_WS_begin_86 : decode prog_7_method_3_code 86 = .ok (.istore_n 2, 1) := by decide +kernel
theorem d_WS_begin_87 : decode prog_7_method_3_code 87 = .ok (.iload_n 2, 1) := by decide +kernel
theorem d_WS_begin_88 : decode prog_7_method_3_code 88 = .ok (.iconst 2, 1) := by decide +kernel
theorem d_WS_begin_89 : decode prog_7_method_3_code 89 = .ok (.aload_n 0, 1) := by decide +kernel
theorem d_WS_begin_90 : decode prog_7_method_3_code 90 = .ok (.getfield 15, 3) := by decide +kernel
theorem d_WS_begin_93 : decode prog_7_method_3_code 93 = .ok (.getfield 53, 3) := by decide +kernel
theorem d_WS_begin_96 : decode prog_7_method_3_code 96 = .ok (.imul, 1) := by decide +kernel
theorem d_WS_begin_97 : decode prog_7_method_3_code 97 = .ok (.if_icmp .ge 54, 3) := by decide +kernel
theorem d_WS_begin_100 : decode prog_7_method_3_code 100 = .ok (.aload_n 0, 1) := by decide +kernel
theorem d_WS_begin_101 : decode prog_7_method_3_code 101 = .ok (.getfield 24, 3) := by decide +kernel
theorem d_WS_begin_104 : decode prog_7_method_3_code 104 = .ok (.iload_n 1, 1) := by decide +kernel
theorem d_WS_begin_105 : decode prog_7_method_3_code 105 = .ok (.aaload, 1) := by decide +kernel
theorem d_WS_begin_106 : decode prog_7_method_3_code 106 = .ok (.iload_n 2, 1) := by decide +kernel
theorem d_WS_begin_107 : decode prog_7_method_3_code 107 = .ok (.aload_n 0, 1) := by decide +kernel
theorem d_WS_begin_108 : decode prog_7_method_3_code 108 = .ok (.getfield 24, 3) := by decide +kernel
theorem d_WS_begin_111 : decode prog_7_method_3_code 111 = .ok (.iload_n 1, 1) := by decide +kernel
theorem d_WS_begin_112 : decode prog_7_method_3_code 112 = .ok (.iconst 1, 1) := by decide +kernel
theorem d_WS_begin_113 : decode prog_7_method_3_code 113 = .ok (.iadd, 1) := by decide +kernel
theorem d_WS_begin_114 : decode prog_7_method_3_code 114 = .ok (.aaload, 1) := by decide +kernel
theorem d_WS_begin_115 : decode prog_7_method_3_code 115 = .ok (.iload_n 2, 1) := by decide +kernel
theorem d_WS_begin_116 : decode prog_7_method_3_code 116 = .ok (.laload, 1) := by decide +kernel
theorem d_WS_begin_117 : decode prog_7_method_3_code 117 = .ok (.lconst 0, 1) := by decide +kernel
theorem d_WS_begin_118 : decode prog_7_method_3_code 118 = .ok (.aload_n 0, 1) := by decide +kernel
theorem d_WS_begin_119 : decode prog_7_method_3_code 119 = .ok (.getfield 15, 3) := by decide +kernel
theorem d_WS_begin_122 : decode prog_7_method_3_code 122 = .ok (.getfield 59, 3) := by decide +kernel
theorem d_WS_begin_125 : decode prog_7_method_3_code 125 = .ok (.iload_n 2, 1) := by decide +kernel
theorem d_WS_begin_126 : decode prog_7_method_3_code 126 = .ok (.aaload, 1) := by decide +kernel
theorem d_WS_begin_127 : decode prog_7_method_3_code 127 = .ok (.iload_n 1, 1) := by decide +kernel
theorem d_WS_begin_128 : decode prog_7_method_3_code 128 = .ok (.laload, 1) := by decide +kernel
theorem d_WS_begin_129 : decode prog_7_method_3_code 129 = .ok (.aload_n 0, 1) := by decide +kernel
theorem d_WS_begin_130 : decode prog_7_method_3_code 130 = .ok (.getfield 9, 3) := by decide +kernel
theorem d_WS_begin_133 : decode prog_7_method_3_code 133 = .ok (.getfield 67, 3) := by decide +kernel
theorem d_WS_begin_136 : decode prog_7_method_3_code 136 = .ok (.iload_n 1, 1) := by decide +kernel
theorem d_WS_begin_137 : decode prog_7_method_3_code 137 = .ok (.iaload, 1) := by decide +kernel
theorem d_WS_begin_138 : decode prog_7_method_3_code 138 = .ok (.i2l, 1) := by decide +kernel
theorem d_WS_begin_139 : decode prog_7_method_3_code 139 = .ok (.lmul, 1) := by decide +kernel
theorem d_WS_begin_140 : decode prog_7_method_3_code 140 = .ok (.invokestatic 76, 3) := by decide +kernel
theorem d_WS_begin_143 : decode prog_7_method_3_code 143 = .ok (.ladd, 1) := by decide +kernel
theorem d_WS_begin_144 : decode prog_7_method_3_code 144 = .ok (.lastore, 1) := by decide +kernel
theorem d_WS_begin_145 : decode prog_7_method_3_code 145 = .ok (.iinc 2 1, 3) := by decide +kernel
theorem d_WS_begin_148 : decode prog_7_method_3_code 148 = .ok (.goto (-61), 3) := by decide +kernel
theorem d_WS_begin_151 : decode prog_7_method_3_code 151 = .ok (.iinc 1 (-1), 3) := by decide +kernel
theorem d_WS_begin_154 : decode prog_7_method_3_code 154 = .ok (.goto (-112), 3) := by decide +kernel
theorem d_WS_begin_157 : decode prog_7_method_3_code 157 = .ok (.return_, 1) := by decide +kernel
theorem d_WS_place_0 : decode prog_7_method_4_code 0 = .ok (.iload_n 1, 1) := by decide +kernel
theorem d_WS_place_1 : decode prog_7_method_4_code 1 = .ok (.ifCond .lt 8, 3) := by decide +kernel
theorem d_WS_place_4 : decode prog_7_method_4_code 4 = .ok (.iload_n 1, 1) := by decide +kernel
theorem d_WS_place_5 : decode prog_7_method_4_code 5 = .ok (.iconst 4, 1) := by decide +kernel
theorem d_WS_place_6 : decode prog_7_method_4_code 6 = .ok (.if_icmp .lt 4, 3) := by decide +kernel
theorem d_WS_place_9 : decode prog_7_method_4_code 9 = .ok (.return_, 1) := by decide +kernel
theorem d_WS_place_10 : decode prog_7_method_4_code 10 = .ok (.aload_n 0, 1) := by decide +kernel
theorem d_WS_place_11 : decode prog_7_method_4_code 11 = .ok (.iload_n 1, 1) := by decide +kernel
theorem d_WS_place_12 : decode prog_7_method_4_code 12 = .ok (.invokevirtual 79, 3) := by decide +kernel
theorem d_WS_place_15 : decode prog_7_method_4_code 15 = .ok (.istore 4, 2) := by decide +kernel
theorem d_WS_place_17 : decode prog_7_method_4_code 17 = .ok (.aload_n 0, 1) := by decide +kernel
theorem d_WS_place_18 : decode prog_7_method_4_code 18 = .ok (.iload_n 1, 1) := by decide +kernel
theorem d_WS_place_19 : decode prog_7_method_4_code 19 = .ok (.invokevirtual 83, 3) := by decide +kernel
theorem d_WS_place_22 : decode prog_7_method_4_code 22 = .ok (.istore 5, 2) := by decide +kernel
theorem d_WS_place_24 : decode prog_7_method_4_code 24 = .ok (.iload_n 1, 1) := by decide +kernel
theorem d_WS_place_25 : decode prog_7_method_4_code 25 = .ok (.iconst 3, 1) := by decide +kernel
theorem d_WS_place_26 : decode prog_7_method_4_code 26 = .ok (.if_icmp .ge 45, 3) := by decide +kernel
theorem d_WS_place_29 : decode prog_7_method_4_code 29 = .ok (.iload 5, 2) := by decide +kernel
theorem d_WS_place_31 : decode prog_7_method_4_code 31 = .ok (.istore 6, 2) := by decide +kernel
theorem d_WS_place_33 : decode prog_7_method_4_code 33 = .ok (.iload 6, 2) := by decide +kernel
theorem d_WS_place_35 : decode prog_7_method_4_code 35 = .ok (.iload 4, 2) := by decide +kernel
theorem d_WS_place_37 : decode prog_7_method_4_code 37 = .ok (.if_icmp .gt 31, 3) := by decide +kernel
theorem d_WS_place_40 : decode prog_7_method_4_code 40 = .ok (.aload_n 0, 1) := by decide +kernel
theorem d_WS_place_41 : decode prog_7_method_4_code 41 = .ok (.iload_n 1, 1) := by decide +kernel
theorem d_WS_place_42 : decode prog_7_method_4_code 42 = .ok (.iload 6, 2) := by decide +kernel
theorem d_WS_place_44 : decode prog_7_method_4_code 44 = .ok (.lload_n 2, 1) := by decide +kernel
theorem d_WS_place_45 : decode prog_7_method_4_code 45 = .ok (.aload_n 0, 1) := by decide +kernel
theorem d_WS_place_46 : decode prog_7_method_4_code 46 = .ok (.getfield 9, 3) := by decide +kernel
theorem d_WS_place_49 : decode prog_7_method_4_code 49 = .ok (.getfield 62, 3) := by decide +kernel
theorem d_WS_place_52 : decode prog_7_method_4_code 52 = .ok (.iload_n 1, 1) := by decide +kernel
theorem d_WS_place_53 : decode prog_7_method_4_code 53 = .ok (.laload, 1) := by decide +kernel
theorem d_WS_place_54 : decode prog_7_method_4_code 54 = .ok (.iload 6, 2) := by decide +kernel
theorem d_WS_place_56 : decode prog_7_method_4_code 56 = .ok (.i2l, 1) := by decide +kernel
theorem d_WS_place_57 : decode prog_7_method_4_code 57 = .ok (.lmul, 1) := by decide +kernel
theorem d_WS_place_58 : decode prog_7_method_4_code 58 = .ok (.ladd, 1) := by decide +kernel
theorem d_WS_place_59 : decode prog_7_method_4_code 59 = .ok (.invokevirtual 86, 3) := by decide +kernel
theorem d_WS_place_62 : decode prog_7_method_4_code 62 = .ok (.iinc 6 1, 3) := by decide +kernel
theorem d_WS_place_65 : decode prog_7_method_4_code 65 = .ok (.goto (-32), 3) := by decide +kernel
theorem d_WS_place_68 : decode prog_7_method_4_code 68 = .ok (.goto 60, 3) := by decide +kernel
theorem d_WS_place_71 : decode prog_7_method_4_code 71 = .ok (.iload 5, 2) := by decide +kernel
theorem d_WS_place_73 : decode prog_7_method_4_code 73 = .ok (.iload 4, 2) := by decide +kernel
theorem d_WS_place_75 : decode prog_7_method_4_code 75 = .ok (.if_icmp .gt 53, 3) := by decide +kernel
theorem d_WS_place_78 : decode prog_7_method_4_code 78 = .ok (.aload_n 0, 1) := by decide +kernel
theorem d_WS_place_79 : decode prog_7_method_4_code 79 = .ok (.getfield 9, 3) := by decide +kernel
theorem d_WS_place_82 : decode prog_7_method_4_code 82 = .ok (.getfield 62, 3) := by decide +kernel
theorem d_WS_place_85 : decode prog_7_method_4_code 85 = .ok (.iload_n 1, 1) := by decide +kernel
theorem d_WS_place_86 : decode prog_7_method_4_code 86 = .ok (.laload, 1) := by decide +kernel
theorem d_WS_place_87 : decode prog_7_method_4_code 87 = .ok (.lconst 0, 1) := by decide +kernel
theorem d_WS_place_88 : decode prog_7_method_4_code 88 = .ok (.lcmp, 1) := by decide +kernel
theorem d_WS_place_89 : decode prog_7_method_4_code 89 = .ok (.ifCond .ge 8, 3) := by decide +kernel
theorem d_WS_place_92 : decode prog_7_method_4_code 92 = .ok (.iload 4, 2) := by decide +kernel
theorem d_WS_place_94 : decode prog_7_method_4_code 94 = .ok (.goto 5, 3) := by decide +kernel
theorem d_WS_place_97 : decode prog_7_method_4_code 97 = .ok (.iload 5, 2) := by decide +kernel
theorem d_WS_place_99 : decode prog_7_method_4_code 99 = .ok (.istore 6, 2) := by decide +kernel
theorem d_WS_place_101 : decode prog_7_method_4_code 101 = .ok (.aload_n 0, 1) := by decide +kernel
theorem d_WS_place_102 : decode prog_7_method_4_code 102 = .ok (.getfield 31, 3) := by decide +kernel
theorem d_WS_place_105 : decode prog_7_method_4_code 105 = .ok (.iload_n 1, 1) := by decide +kernel
theorem d_WS_place_106 : decode prog_7_method_4_code 106 = .ok (.iload 6, 2) := by decide +kernel
theorem d_WS_place_108 : decode prog_7_method_4_code 108 = .ok (.iastore, 1) := by decide +kernel
theorem d_WS_place_109 : decode prog_7_method_4_code 109 = .ok (.aload_n 0, 1) := by decide +kernel
theorem d_WS_place_110 : decode prog_7_method_4_code 110 = .ok (.lload_n 2, 1) := by decide +kernel
theorem d_WS_place_111 : decode prog_7_method_4_code 111 = .ok (.aload_n 0, 1) := by decide +kernel
theorem d_WS_place_112 : decode prog_7_method_4_code 112 = .ok (.getfield 9, 3) := by decide +kernel
theorem d_WS_place_115 : decode prog_7_method_4_code 115 = .ok (.getfield 62, 3) := by decide +kernel
theorem d_WS_place_118 : decode prog_7_method_4_code 118 = .ok (.iload_n 1, 1) := by decide +kernel
theorem d_WS_place_119 : decode prog_7_method_4_code 119 = .ok (.laload, 1) := by decide +kernel
theorem d_WS_place_120 : decode prog_7_method_4_code 120 = .ok (.iload 6, 2) := by decide +kernel
theorem d_WS_place_122 : decode prog_7_method_4_code 122 = .ok (.i2l, 1) := by decide +kernel
theorem d_WS_place_123 : decode prog_7_method_4_code 123 = .ok (.lmul, 1) := by decide +kernel
theorem d_WS_place_124 : decode prog_7_method_4_code 124 = .ok (.ladd, 1) := by decide +kernel
theorem d_WS_place_125 : decode prog_7_method_4_code 125 = .ok (.invokevirtual 90, 3) := by decide +kernel
theorem d_WS_place_128 : decode prog_7_method_4_code 128 = .ok (.return_, 1) := by decide +kernel
theorem d_WS_take_0 : decode prog_7_method_5_code 0 = .ok (.aload_n 0, 1) := by decide +kernel
theorem d_WS_take_1 : decode prog_7_method_5_code 1 = .ok (.getfield 38, 3) := by decide +kernel
theorem d_WS_take_4 : decode prog_7_method_5_code 4 = .ok (.ifCond .eq 22, 3) := by decide +kernel
theorem d_WS_take_7 : decode prog_7_method_5_code 7 = .ok (.lload_n 3, 1) := by decide +kernel
theorem d_WS_take_8 : decode prog_7_method_5_code 8 = .ok (.aload_n 0, 1) := by decide +kernel
theorem d_WS_take_9 : decode prog_7_method_5_code 9 = .ok (.getfield 27, 3) := by decide +kernel
theorem d_WS_take_12 : decode prog_7_method_5_code 12 = .ok (.iload_n 1, 1) := by decide +kernel
theorem d_WS_take_13 : decode prog_7_method_5_code 13 = .ok (.iconst 1, 1) := by decide +kernel
theorem d_WS_take_14 : decode prog_7_method_5_code 14 = .ok (.iadd, 1) := by decide +kernel
theorem d_WS_take_15 : decode prog_7_method_5_code 15 = .ok (.laload, 1) := by decide +kernel
theorem d_WS_take_16 : decode prog_7_method_5_code 16 = .ok (.ladd, 1) := by decide +kernel
theorem d_WS_take_17 : decode prog_7_method_5_code 17 = .ok (.aload_n 0, 1) := by decide +kernel
theorem d_WS_take_18 : decode prog_7_method_5_code 18 = .ok (.getfield 42, 3) := by decide +kernel
theorem d_WS_take_21 : decode prog_7_method_5_code 21 = .ok (.lcmp, 1) := by decide +kernel
theorem d_WS_take_22 : decode prog_7_method_5_code 22 = .ok (.ifCond .lt 4, 3) := by decide +kernel
theorem d_WS_take_25 : decode prog_7_method_5_code 25 = .ok (.return_, 1) := by decide +kernel
theorem d_WS_take_26 : decode prog_7_method_5_code 26 = .ok (.aload_n 0, 1) := by decide +kernel
theorem d_WS_take_27 : decode prog_7_method_5_code 27 = .ok (.getfield 31, 3) := by decide +kernel
theorem d_WS_take_30 : decode prog_7_method_5_code 30 = .ok (.iload_n 1, 1) := by decide +kernel
theorem d_WS_take_31 : decode prog_7_method_5_code 31 = .ok (.iload_n 2, 1) := by decide +kernel
theorem d_WS_take_32 : decode prog_7_method_5_code 32 = .ok (.iastore, 1) := by decide +kernel
theorem d_WS_take_33 : decode prog_7_method_5_code 33 = .ok (.iconst 0, 1) := by decide +kernel
theorem d_WS_take_34 : decode prog_7_method_5_code 34 = .ok (.istore 5, 2) := by decide +kernel
theorem d_WS_take_36 : decode prog_7_method_5_code 36 = .ok (.iload 5, 2) := by decide +kernel
theorem d_WS_take_38 : decode prog_7_method_5_code 38 = .ok (.iconst 2, 1) := by decide +kernel
theorem d_WS_take_39 : decode prog_7_method_5_code 39 = .ok (.aload_n 0, 1) := by decide +kernel
theorem d_WS_take_40 : decode prog_7_method_5_code 40 = .ok (.getfield 15, 3) := by decide +kernel
theorem d_WS_take_43 : decode prog_7_method_5_code 43 = .ok (.getfield 53, 3) := by decide +kernel
theorem d_WS_take_46 : decode prog_7_method_5_code 46 = .ok (.imul, 1) := by decide +kernel
theorem d_WS_take_47 : decode prog_7_method_5_code 47 = .ok (.if_icmp .ge 45, 3) := by decide +kernel
theorem d_WS_take_50 : decode prog_7_method_5_code 50 = .ok (.aload_n 0, 1) := by decide +kernel
theorem d_WS_take_51 : decode prog_7_method_5_code 51 = .ok (.getfield 21, 3) := by decide +kernel
theorem d_WS_take_54 : decode prog_7_method_5_code 54 = .ok (.iload_n 1, 1) := by decide +kernel
theorem d_WS_take_55 : decode prog_7_method_5_code 55 = .ok (.iconst 1, 1) := by decide +kernel
theorem d_WS_take_56 : decode prog_7_method_5_code 56 = .ok (.iadd, 1) := by decide +kernel
theorem d_WS_take_57 : decode prog_7_method_5_code 57 = .ok (.aaload, 1) := by decide +kernel
theorem d_WS_take_58 : decode prog_7_method_5_code 58 = .ok (.iload 5, 2) := by decide +kernel
theorem d_WS_take_60 : decode prog_7_method_5_code 60 = .ok (.aload_n 0, 1) := by decide +kernel
theorem d_WS_take_61 : decode prog_7_method_5_code 61 = .ok (.getfield 21, 3) := by decide +kernel
theorem d_WS_take_64 : decode prog_7_method_5_code 64 = .ok (.iload_n 1, 1) := by decide +kernel
theorem d_WS_take_65 : decode prog_7_method_5_code 65 = .ok (.aaload, 1) := by decide +kernel
theorem d_WS_take_66 : decode prog_7_method_5_code 66 = .ok (.iload 5, 2) := by decide +kernel
theorem d_WS_take_68 : decode prog_7_method_5_code 68 = .ok (.laload, 1) := by decide +kernel
theorem d_WS_take_69 : decode prog_7_method_5_code 69 = .ok (.aload_n 0, 1) := by decide +kernel
theorem d_WS_take_70 : decode prog_7_method_5_code 70 = .ok (.getfield 15, 3) := by decide +kernel
theorem d_WS_take_73 : decode prog_7_method_5_code 73 = .ok (.getfield 59, 3) := by decide +kernel
theorem d_WS_take_76 : decode prog_7_method_5_code 76 = .ok (.iload 5, 2) := by decide +kernel
theorem d_WS_take_78 : decode prog_7_method_5_code 78 = .ok (.aaload, 1) := by decide +kernel
theorem d_WS_take_79 : decode prog_7_method_5_code 79 = .ok (.iload_n 1, 1) := by decide +kernel
theorem d_WS_take_80 : decode prog_7_method_5_code 80 = .ok (.laload, 1) := by decide +kernel
theorem d_WS_take_81 : decode prog_7_method_5_code 81 = .ok (.iload_n 2, 1) := by decide +kernel
theorem d_WS_take_82 : decode prog_7_method_5_code 82 = .ok (.i2l, 1) := by decide +kernel
theorem d_WS_take_83 : decode prog_7_method_5_code 83 = .ok (.lmul, 1) := by decide +kernel
theorem d_WS_take_84 : decode prog_7_method_5_code 84 = .ok (.ladd, 1) := by decide +kernel
theorem d_WS_take_85 : decode prog_7_method_5_code 85 = .ok (.lastore, 1) := by decide +kernel
theorem d_WS_take_86 : decode prog_7_method_5_code 86 = .ok (.iinc 5 1, 3) := by decide +kernel
theorem d_WS_take_89 : decode prog_7_method_5_code 89 = .ok (.goto (-53), 3) := by decide +kernel
theorem d_WS_take_92 : decode prog_7_method_5_code 92 = .ok (.aload_n 0, 1) := by decide +kernel
theorem d_WS_take_93 : decode prog_7_method_5_code 93 = .ok (.iload_n 1, 1) := by decide +kernel
theorem d_WS_take_94 : decode prog_7_method_5_code 94 = .ok (.iconst 1, 1) := by decide +kernel
theorem d_WS_take_95 : decode prog_7_method_5_code 95 = .ok (.iadd, 1) := by decide +kernel
theorem d_WS_take_96 : decode prog_7_method_5_code 96 = .ok (.lload_n 3, 1) := by decide +kernel
theorem d_WS_take_97 : decode prog_7_method_5_code 97 = .ok (.invokevirtual 49, 3) := by decide +kernel
theorem d_WS_take_100 : decode prog_7_method_5_code 100 = .ok (.return_, 1) := by decide +kernel
theorem d_WS_offer_0 : decode prog_7_method_6_code 0 = .ok (.aload_n 0, 1) := by decide +kernel
theorem d_WS_offer_1 : decode prog_7_method_6_code 1 = .ok (.getfield 38, 3) := by decide +kernel
theorem d_WS_offer_4 : decode prog_7_method_6_code 4 = .ok (.ifCond .eq 13, 3) := by decide +kernel
theorem d_WS_offer_7 : decode prog_7_method_6_code 7 = .ok (.lload_n 1, 1) := by decide +kernel
theorem d_WS_offer_8 : decode prog_7_method_6_code 8 = .ok (.aload_n 0, 1) := by decide +kernel
theorem d_WS_offer_9 : decode prog_7_method_6_code 9 = .ok (.getfield 42, 3) := by decide +kernel
theorem d_WS_offer_12 : decode prog_7_method_6_code 12 = .ok (.lcmp, 1) := by decide +kernel
theorem d_WS_offer_13 : decode prog_7_method_6_code 13 = .ok (.ifCond .lt 4, 3) := by decide +kernel
theorem d_WS_offer_16 : decode prog_7_method_6_code 16 = .ok (.return_, 1) := by decide +kernel
theorem d_WS_offer_17 : decode prog_7_method_6_code 17 = .ok (.aload_n 0, 1) := by decide +kernel
theorem d_WS_offer_18 : decode prog_7_method_6_code 18 = .ok (.iconst 1, 1) := by decide +kernel
theorem d_WS_offer_19 : decode prog_7_method_6_code 19 = .ok (.putfield 38, 3) := by decide +kernel
theorem d_WS_offer_22 : decode prog_7_method_6_code 22 = .ok (.aload_n 0, 1) := by decide +kernel
theorem d_WS_offer_23 : decode prog_7_method_6_code 23 = .ok (.lload_n 1, 1) := by decide +kernel
theorem d_WS_offer_24 : decode prog_7_method_6_code 24 = .ok (.putfield 42, 3) := by decide +kernel
theorem d_WS_offer_27 : decode prog_7_method_6_code 27 = .ok (.iconst 0, 1) := by decide +kernel
theorem d_WS_offer_28 : decode prog_7_method_6_code 28 = .ok (.istore_n 3, 1) := by decide +kernel
theorem d_WS_offer_29 : decode prog_7_method_6_code 29 = .ok (.iload_n 3, 1) := by decide +kernel
theorem d_WS_offer_30 : decode prog_7_method_6_code 30 = .ok (.iconst 4, 1) := by decide +kernel
theorem d_WS_offer_31 : decode prog_7_method_6_code 31 = .ok (.if_icmp .ge 21, 3) := by decide +kernel
theorem d_WS_offer_34 : decode prog_7_method_6_code 34 = .ok (.aload_n 0, 1) := by decide +kernel
theorem d_WS_offer_35 : decode prog_7_method_6_code 35 = .ok (.getfield 35, 3) := by decide +kernel
theorem d_WS_offer_38 : decode prog_7_method_6_code 38 = .ok (.iload_n 3, 1) := by decide +kernel
theorem d_WS_offer_39 : decode prog_7_method_6_code 39 = .ok (.aload_n 0, 1) := by decide +kernel
theorem d_WS_offer_40 : decode prog_7_method_6_code 40 = .ok (.getfield 31, 3) := by decide +kernel
theorem d_WS_offer_43 : decode prog_7_method_6_code 43 = .ok (.iload_n 3, 1) := by decide +kernel
theorem d_WS_offer_44 : decode prog_7_method_6_code 44 = .ok (.iaload, 1) := by decide +kernel
theorem d_WS_offer_45 : decode prog_7_method_6_code 45 = .ok (.iastore, 1) := by decide +kernel
theorem d_WS_offer_46 : decode prog_7_method_6_code 46 = .ok (.iinc 3 1, 3) := by decide +kernel
theorem d_WS_offer_49 : decode prog_7_method_6_code 49 = .ok (.goto (-20), 3) := by decide +kernel
theorem d_WS_offer_52 : decode prog_7_method_6_code 52 = .ok (.return_, 1) := by decide +kernel
theorem d_WS_mostLoads_0 : decode prog_7_method_7_code 0 = .ok (.aload_n 0, 1) := by decide +kernel
theorem d_WS_mostLoads_1 : decode prog_7_method_7_code 1 = .ok (.getfield 9, 3) := by decide +kernel
theorem d_WS_mostLoads_4 : decode prog_7_method_7_code 4 = .ok (.getfield 67, 3) := by decide +kernel
theorem d_WS_mostLoads_7 : decode prog_7_method_7_code 7 = .ok (.iload_n 1, 1) := by decide +kernel
theorem d_WS_mostLoads_8 : decode prog_7_method_7_code 8 = .ok (.iaload, 1) := by decide +kernel
theorem d_WS_mostLoads_9 : decode prog_7_method_7_code 9 = .ok (.i2l, 1) := by decide +kernel
theorem d_WS_mostLoads_10 : decode prog_7_method_7_code 10 = .ok (.lstore_n 2, 1) := by decide +kernel
theorem d_WS_mostLoads_11 : decode prog_7_method_7_code 11 = .ok (.iconst 0, 1) := by decide +kernel
theorem d_WS_mostLoads_12 : decode prog_7_method_7_code 12 = .ok (.istore 4, 2) := by decide +kernel
theorem d_WS_mostLoads_14 : decode prog_7_method_7_code 14 = .ok (.iload 4, 2) := by decide +kernel
theorem d_WS_mostLoads_16 : decode prog_7_method_7_code 16 = .ok (.iconst 2, 1) := by decide +kernel
theorem d_WS_mostLoads_17 : decode prog_7_method_7_code 17 = .ok (.aload_n 0, 1) := by decide +kernel
theorem d_WS_mostLoads_18 : decode prog_7_method_7_code 18 = .ok (.getfield 15, 3) := by decide +kernel
theorem d_WS_mostLoads_21 : decode prog_7_method_7_code 21 = .ok (.getfield 53, 3) := by decide +kernel
theorem d_WS_mostLoads_24 : decode prog_7_method_7_code 24 = .ok (.imul, 1) := by decide +kernel
theorem d_WS_mostLoads_25 : decode prog_7_method_7_code 25 = .ok (.if_icmp .ge 85, 3) := by decide +kernel
theorem d_WS_mostLoads_28 : decode prog_7_method_7_code 28 = .ok (.aload_n 0, 1) := by decide +kernel
theorem d_WS_mostLoads_29 : decode prog_7_method_7_code 29 = .ok (.getfield 15, 3) := by decide +kernel
theorem d_WS_mostLoads_32 : decode prog_7_method_7_code 32 = .ok (.getfield 59, 3) := by decide +kernel
theorem d_WS_mostLoads_35 : decode prog_7_method_7_code 35 = .ok (.iload 4, 2) := by decide +kernel
theorem d_WS_mostLoads_37 : decode prog_7_method_7_code 37 = .ok (.aaload, 1) := by decide +kernel
theorem d_WS_mostLoads_38 : decode prog_7_method_7_code 38 = .ok (.iload_n 1, 1) := by decide +kernel
theorem d_WS_mostLoads_39 : decode prog_7_method_7_code 39 = .ok (.laload, 1) := by decide +kernel
theorem d_WS_mostLoads_40 : decode prog_7_method_7_code 40 = .ok (.lstore 5, 2) := by decide +kernel
theorem d_WS_mostLoads_42 : decode prog_7_method_7_code 42 = .ok (.aload_n 0, 1) := by decide +kernel
theorem d_WS_mostLoads_43 : decode prog_7_method_7_code 43 = .ok (.getfield 21, 3) := by decide +kernel
theorem d_WS_mostLoads_46 : decode prog_7_method_7_code 46 = .ok (.iload_n 1, 1) := by decide +kernel
theorem d_WS_mostLoads_47 : decode prog_7_method_7_code 47 = .ok (.aaload, 1) := by decide +kernel
theorem d_WS_mostLoads_48 : decode prog_7_method_7_code 48 = .ok (.iload 4, 2) := by decide +kernel
theorem d_WS_mostLoads_50 : decode prog_7_method_7_code 50 = .ok (.laload, 1) := by decide +kernel
theorem d_WS_mostLoads_51 : decode prog_7_method_7_code 51 = .ok (.aload_n 0, 1) := by decide +kernel
theorem d_WS_mostLoads_52 : decode prog_7_method_7_code 52 = .ok (.getfield 24, 3) := by decide +kernel
theorem d_WS_mostLoads_55 : decode prog_7_method_7_code 55 = .ok (.iload_n 1, 1) := by decide +kernel
theorem d_WS_mostLoads_56 : decode prog_7_method_7_code 56 = .ok (.iconst 1, 1) := by decide +kernel
theorem d_WS_mostLoads_57 : decode prog_7_method_7_code 57 = .ok (.iadd, 1) := by decide +kernel
theorem d_WS_mostLoads_58 : decode prog_7_method_7_code 58 = .ok (.aaload, 1) := by decide +kernel
theorem d_WS_mostLoads_59 : decode prog_7_method_7_code 59 = .ok (.iload 4, 2) := by decide +kernel
theorem d_WS_mostLoads_61 : decode prog_7_method_7_code 61 = .ok (.laload, 1) := by decide +kernel
theorem d_WS_mostLoads_62 : decode prog_7_method_7_code 62 = .ok (.ladd, 1) := by decide +kernel
theorem d_WS_mostLoads_63 : decode prog_7_method_7_code 63 = .ok (.lstore 7, 2) := by decide +kernel
theorem d_WS_mostLoads_65 : decode prog_7_method_7_code 65 = .ok (.lload 5, 2) := by decide +kernel
theorem d_WS_mostLoads_67 : decode prog_7_method_7_code 67 = .ok (.lconst 0, 1) := by decide +kernel
theorem d_WS_mostLoads_68 : decode prog_7_method_7_code 68 = .ok (.lcmp, 1) := by decide +kernel
theorem d_WS_mostLoads_69 : decode prog_7_method_7_code 69 = .ok (.ifCond .ge 19, 3) := by decide +kernel
theorem d_WS_mostLoads_72 : decode prog_7_method_7_code 72 = .ok (.lload_n 2, 1) := by decide +kernel
theorem d_WS_mostLoads_73 : decode prog_7_method_7_code 73 = .ok (.lload 7, 2) := by decide +kernel
theorem d_WS_mostLoads_75 : decode prog_7_method_7_code 75 = .ok (.lload 5, 2) := by decide +kernel
theorem d_WS_mostLoads_77 : decode prog_7_method_7_code 77 = .ok (.lneg, 1) := by decide +kernel
theorem d_WS_mostLoads_78 : decode prog_7_method_7_code 78 = .ok (.invokestatic 94, 3) := by decide +kernel
theorem d_WS_mostLoads_81 : decode prog_7_method_7_code 81 = .ok (.invokestatic 70, 3) := by decide +kernel
theorem d_WS_mostLoads_84 : decode prog_7_method_7_code 84 = .ok (.lstore_n 2, 1) := by decide +kernel
theorem d_WS_mostLoads_85 : decode prog_7_method_7_code 85 = .ok (.goto 19, 3) := by decide +kernel
theorem d_WS_mostLoads_88 : decode prog_7_method_7_code 88 = .ok (.lload 5, 2) := by decide +kernel
theorem d_WS_mostLoads_90 : decode prog_7_method_7_code 90 = .ok (.lconst 0, 1) := by decide +kernel
theorem d_WS_mostLoads_91 : decode prog_7_method_7_code 91 = .ok (.lcmp, 1) := by decide +kernel
theorem d_WS_mostLoads_92 : decode prog_7_method_7_code 92 = .ok (.ifCond .ne 12, 3) := by decide +kernel
theorem d_WS_mostLoads_95 : decode prog_7_method_7_code 95 = .ok (.lload 7, 2) := by decide +kernel
theorem d_WS_mostLoads_97 : decode prog_7_method_7_code 97 = .ok (.lconst 0, 1) := by decide +kernel
theorem d_WS_mostLoads_98 : decode prog_7_method_7_code 98 = .ok (.lcmp, 1) := by decide +kernel
theorem d_WS_mostLoads_99 : decode prog_7_method_7_code 99 = .ok (.ifCond .ge 5, 3) := by decide +kernel
theorem d_WS_mostLoads_102 : decode prog_7_method_7_code 102 = .ok (.iconst (-1), 1) := by decide +kernel
theorem d_WS_mostLoads_103 : decode prog_7_method_7_code 103 = .ok (.ireturn, 1) := by decide +kernel
theorem d_WS_mostLoads_104 : decode prog_7_method_7_code 104 = .ok (.iinc 4 1, 3) := by decide +kernel
theorem d_WS_mostLoads_107 : decode prog_7_method_7_code 107 = .ok (.goto (-93), 3) := by decide +kernel
theorem d_WS_mostLoads_110 : decode prog_7_method_7_code 110 = .ok (.lload_n 2, 1) := by decide +kernel
theorem d_WS_mostLoads_111 : decode prog_7_method_7_code 111 = .ok (.ldc2_w 97, 3) := by decide +kernel
theorem d_WS_mostLoads_114 : decode prog_7_method_7_code 114 = .ok (.invokestatic 76, 3) := by decide +kernel
theorem d_WS_mostLoads_117 : decode prog_7_method_7_code 117 = .ok (.l2i, 1) := by decide +kernel
theorem d_WS_mostLoads_118 : decode prog_7_method_7_code 118 = .ok (.ireturn, 1) := by decide +kernel
theorem d_WS_fewestLoads_0 : decode prog_7_method_8_code 0 = .ok (.lconst 0, 1) := by decide +kernel
theorem d_WS_fewestLoads_1 : decode prog_7_method_8_code 1 = .ok (.lstore_n 2, 1) := by decide +kernel
theorem d_WS_fewestLoads_2 : decode prog_7_method_8_code 2 = .ok (.iconst 0, 1) := by decide +kernel
theorem d_WS_fewestLoads_3 : decode prog_7_method_8_code 3 = .ok (.istore 4, 2) := by decide +kernel
theorem d_WS_fewestLoads_5 : decode prog_7_method_8_code 5 = .ok (.iload 4, 2) := by decide +kernel
theorem d_WS_fewestLoads_7 : decode prog_7_method_8_code 7 = .ok (.iconst 2, 1) := by decide +kernel
theorem d_WS_fewestLoads_8 : decode prog_7_method_8_code 8 = .ok (.aload_n 0, 1) := by decide +kernel
theorem d_WS_fewestLoads_9 : decode prog_7_method_8_code 9 = .ok (.getfield 15, 3) := by decide +kernel
theorem d_WS_fewestLoads_12 : decode prog_7_method_8_code 12 = .ok (.getfield 53, 3) := by decide +kernel
theorem d_WS_fewestLoads_15 : decode prog_7_method_8_code 15 = .ok (.imul, 1) := by decide +kernel
theorem d_WS_fewestLoads_16 : decode prog_7_method_8_code 16 = .ok (.if_icmp .ge 66, 3) := by decide +kernel
theorem d_WS_fewestLoads_19 : decode prog_7_method_8_code 19 = .ok (.aload_n 0, 1) := by decide +kernel
theorem d_WS_fewestLoads_20 : decode prog_7_method_8_code 20 = .ok (.getfield 15, 3) := by decide +kernel
theorem d_WS_fewestLoads_23 : decode prog_7_method_8_code 23 = .ok (.getfield 59, 3) := by decide +kernel
theorem d_WS_fewestLoads_26 : decode prog_7_method_8_code 26 = .ok (.iload 4, 2) := by decide +kernel
theorem d_WS_fewestLoads_28 : decode prog_7_method_8_code 28 = .ok (.aaload, 1) := by decide +kernel
theorem d_WS_fewestLoads_29 : decode prog_7_method_8_code 29 = .ok (.iload_n 1, 1) := by decide +kernel
theorem d_WS_fewestLoads_30 : decode prog_7_method_8_code 30 = .ok (.laload, 1) := by decide +kernel
theorem d_WS_fewestLoads_31 : decode prog_7_method_8_code 31 = .ok (.lstore 5, 2) := by decide +kernel
theorem d_WS_fewestLoads_33 : decode prog_7_method_8_code 33 = .ok (.lload 5, 2) := by decide +kernel
theorem d_WS_fewestLoads_35 : decode prog_7_method_8_code 35 = .ok (.lconst 0, 1) := by decide +kernel
theorem d_WS_fewestLoads_36 : decode prog_7_method_8_code 36 = .ok (.lcmp, 1) := by decide +kernel
theorem d_WS_fewestLoads_37 : decode prog_7_method_8_code 37 = .ok (.ifCond .le 39, 3) := by decide +kernel
theorem d_WS_fewestLoads_40 : decode prog_7_method_8_code 40 = .ok (.aload_n 0, 1) := by decide +kernel
theorem d_WS_fewestLoads_41 : decode prog_7_method_8_code 41 = .ok (.getfield 21, 3) := by decide +kernel
theorem d_WS_fewestLoads_44 : decode prog_7_method_8_code 44 = .ok (.iload_n 1, 1) := by decide +kernel
theorem d_WS_fewestLoads_45 : decode prog_7_method_8_code 45 = .ok (.aaload, 1) := by decide +kernel
theorem d_WS_fewestLoads_46 : decode prog_7_method_8_code 46 = .ok (.iload 4, 2) := by decide +kernel
theorem d_WS_fewestLoads_48 : decode prog_7_method_8_code 48 = .ok (.laload, 1) := by decide +kernel
theorem d_WS_fewestLoads_49 : decode prog_7_method_8_code 49 = .ok (.aload_n 0, 1) := by decide +kernel
theorem d_WS_fewestLoads_50 : decode prog_7_method_8_code 50 = .ok (.getfield 24, 3) := by decide +kernel
theorem d_WS_fewestLoads_53 : decode prog_7_method_8_code 53 = .ok (.iload_n 1, 1) := by decide +kernel
theorem d_WS_fewestLoads_54 : decode prog_7_method_8_code 54 = .ok (.iconst 1, 1) := by decide +kernel
theorem d_WS_fewestLoads_55 : decode prog_7_method_8_code 55 = .ok (.iadd, 1) := by decide +kernel
theorem d_WS_fewestLoads_56 : decode prog_7_method_8_code 56 = .ok (.aaload, 1) := by decide +kernel
theorem d_WS_fewestLoads_57 : decode prog_7_method_8_code 57 = .ok (.iload 4, 2) := by decide +kernel
theorem d_WS_fewestLoads_59 : decode prog_7_method_8_code 59 = .ok (.laload, 1) := by decide +kernel
theorem d_WS_fewestLoads_60 : decode prog_7_method_8_code 60 = .ok (.ladd, 1) := by decide +kernel
theorem d_WS_fewestLoads_61 : decode prog_7_method_8_code 61 = .ok (.lstore 7, 2) := by decide +kernel
theorem d_WS_fewestLoads_63 : decode prog_7_method_8_code 63 = .ok (.lload_n 2, 1) := by decide +kernel
theorem d_WS_fewestLoads_64 : decode prog_7_method_8_code 64 = .ok (.lload 7, 2) := by decide +kernel
theorem d_WS_fewestLoads_66 : decode prog_7_method_8_code 66 = .ok (.lload 5, 2) := by decide +kernel
theorem d_WS_fewestLoads_68 : decode prog_7_method_8_code 68 = .ok (.invokestatic 94, 3) := by decide +kernel
theorem d_WS_fewestLoads_71 : decode prog_7_method_8_code 71 = .ok (.lneg, 1) := by decide +kernel
theorem d_WS_fewestLoads_72 : decode prog_7_method_8_code 72 = .ok (.invokestatic 76, 3) := by decide +kernel
theorem d_WS_fewestLoads_75 : decode prog_7_method_8_code 75 = .ok (.lstore_n 2, 1) := by decide +kernel
theorem d_WS_fewestLoads_76 : decode prog_7_method_8_code 76 = .ok (.iinc 4 1, 3) := by decide +kernel
theorem d_WS_fewestLoads_79 : decode prog_7_method_8_code 79 = .ok (.goto (-74), 3) := by decide +kernel
theorem d_WS_fewestLoads_82 : decode prog_7_method_8_code 82 = .ok (.lload_n 2, 1) := by decide +kernel
theorem d_WS_fewestLoads_83 : decode prog_7_method_8_code 83 = .ok (.ldc2_w 99, 3) := by decide +kernel
theorem d_WS_fewestLoads_86 : decode prog_7_method_8_code 86 = .ok (.invokestatic 70, 3) := by decide +kernel
theorem d_WS_fewestLoads_89 : decode prog_7_method_8_code 89 = .ok (.l2i, 1) := by decide +kernel
theorem d_WS_fewestLoads_90 : decode prog_7_method_8_code 90 = .ok (.ireturn, 1) := by decide +kernel
